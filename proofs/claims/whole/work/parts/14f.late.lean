/-! late -/
/-- a late more -/
def laR (R : Nat → Nat) (r f t y : Nat) : Nat → Nat := setR (setR (setR (setR (setR R (254 + 4 * R 9) r) (254 + 4 * R 9 + 1) f) (254 + 4 * R 9 + 2) t) (254 + 4 * R 9 + 3) y) 9 (R 9 + 1)
theorem laR_lo {R : Nat → Nat} {r f t y j : Nat} (h : j ≠ 9) (h2 : j < 254 + 4 * R 9 ∨ 254 + 4 * R 9 + 3 < j) : laR R r f t y j = R j := by
  unfold laR
  rw [setR_ne h, setR_ne (by omega), setR_ne (by omega), setR_ne (by omega), setR_ne (by omega)]
theorem laR_9 {R : Nat → Nat} {r f t y : Nat} : laR R r f t y 9 = R 9 + 1 := setR_eq _ _ _
theorem laR_0 {R : Nat → Nat} {r f t y : Nat} : laR R r f t y (254 + 4 * R 9) = r := by
  unfold laR
  rw [setR_ne (by omega), setR_ne (by omega), setR_ne (by omega), setR_ne (by omega), setR_eq]
theorem laR_1 {R : Nat → Nat} {r f t y : Nat} : laR R r f t y (254 + 4 * R 9 + 1) = f := by
  unfold laR
  rw [setR_ne (by omega), setR_ne (by omega), setR_ne (by omega), setR_eq]
theorem laR_2 {R : Nat → Nat} {r f t y : Nat} : laR R r f t y (254 + 4 * R 9 + 2) = t := by
  unfold laR
  rw [setR_ne (by omega), setR_ne (by omega), setR_eq]
theorem laR_3 {R : Nat → Nat} {r f t y : Nat} : laR R r f t y (254 + 4 * R 9 + 3) = y := by
  unfold laR
  rw [setR_ne (by omega), setR_eq]
theorem laR_way {R : Nat → Nat} {r f t y : Nat} : way (laR R r f t y) (254 + 4 * R 9) = 64 * r + 8 * f + t := by
  unfold way
  rw [laR_0, laR_1, laR_2]
theorem laR_PV {R : Nat → Nat} (hV : PV R) {r f t y : Nat} (h9 : R 9 < 12) (hr1 : 1 ≤ r) (hr : r ≤ 8) (hf : f < R 0) (ht : t < R 0) (hft : f ≠ t) (hy1 : 1 ≤ y) (hy : y ≤ 7) (hno : ¬ ltI R r f t < R 9) : PV (laR R r f t y) := by
  have hn := pv_n hV
  have hno' := hno
  obtain ⟨v0, v2, v3, v3', v4, v5, v5', v6, v7, v8, v9, va, vb, vc, vd, ve⟩ := hV
  have lo : ∀ j, j ≠ 9 → j < 254 → laR R r f t y j = R j := fun j hj h => laR_lo hj (by omega)
  have e0 : laR R r f t y 0 = R 0 := lo 0 (by decide) (by decide)
  refine ⟨?_, ?_, ?_, ?_, ?_, ?_, ?_, ?_, ?_, ?_, ?_, fun l hl => ?_, fun l hl => ?_, fun l hl => ?_, fun i j hij hj => ?_, fun i j hij hj => ?_⟩
  · rw [lo 0 (by decide) (by decide), lo 1 (by decide) (by decide)]; exact v0
  · rw [lo 2 (by decide) (by decide)]; exact v2
  · rw [lo 3 (by decide) (by decide)]; exact v3
  · rw [lo 3 (by decide) (by decide)]; exact v3'
  · rw [lo 4 (by decide) (by decide)]; exact v4
  · rw [lo 5 (by decide) (by decide)]; exact v5
  · rw [lo 5 (by decide) (by decide)]; exact v5'
  · rw [lo 6 (by decide) (by decide), lo 0 (by decide) (by decide)]; exact v6
  · rw [lo 7 (by decide) (by decide)]; exact v7
  · rw [lo 8 (by decide) (by decide)]; exact v8
  · rw [laR_9]; omega
  · rw [lo 7 (by decide) (by decide)] at hl
    exact (va l hl).cg e0 (fun j _ => lo _ (by omega) (by omega))
  · rw [lo 8 (by decide) (by decide)] at hl
    exact (vb l hl).cg e0 (fun j _ => lo _ (by omega) (by omega))
  · rw [laR_9] at hl
    by_cases e : l = R 9
    · subst e
      unfold wayOK
      rw [laR_0, laR_1, laR_2, laR_3, e0]
      exact ⟨⟨hr1, hr, hf, ht, hft⟩, hy1, hy⟩
    · obtain ⟨a, b, c⟩ := vc l (by omega)
      rw [laR_lo (j := 254 + 4 * l + 3) (by omega) (by omega)]
      exact ⟨a.cg e0 (fun j _ => laR_lo (by omega) (by omega)), b, c⟩
  · rw [lo 8 (by decide) (by decide)] at hj
    rw [way_cg (R' := laR R r f t y) (R := R) (q := 218 + 3 * i) (fun k _ => lo _ (by omega) (by omega)), way_cg (R' := laR R r f t y) (R := R) (q := 218 + 3 * j) (fun k _ => lo _ (by omega) (by omega))]
    exact vd i j hij hj
  · rw [laR_9] at hj
    rw [way_cg (R' := laR R r f t y) (R := R) (q := 254 + 4 * i) (fun k _ => laR_lo (by omega) (by omega))]
    by_cases e : j = R 9
    · subst e
      rw [laR_way]
      intro z
      apply hno'
      have := among_fst (R := R) (r := r) (q := fun l => 254 + 4 * l) hn (fun l hl => (vc l hl).1) (show f < 8 by omega) (show t < 8 by omega)
      have h2 : anyB (fun l => decide (way R (254 + 4 * l) = 64 * r + 8 * f + t)) (R 9) = true := anyB_iff.mpr ⟨i, by omega, by simpa using z⟩
      rw [h2] at this
      exact of_decide_eq_true this.symm
    · rw [way_cg (R' := laR R r f t y) (R := R) (q := 254 + 4 * j) (fun k _ => laR_lo (by omega) (by omega))]
      exact ve i j hij (by omega)
theorem laR_PC {R : Nat → Nat} (hV : PV R) {r f t y : Nat} {M : Mem} (hP : PC R M 0) (h9 : R 9 < 12) : PC (laR R r f t y) (upM (upM (upM M 6 (R 9) (nI (64 * r + 8 * f + t))) 7 (R 9) (nI y)) 0 4 (nI (R 9 + 1))) 0 := by
  have h7 := hV.2.2.2.2.2.2.2.2.1
  have h8 := hV.2.2.2.2.2.2.2.2.2.1
  obtain ⟨p0, p1, p2, p3, p4, p5, p6, p7, p8⟩ := hP
  have lo : ∀ j, j ≠ 9 → j < 254 → laR R r f t y j = R j := fun j hj h => laR_lo hj (by omega)
  have u : ∀ x, x ≠ 0 → x ≠ 6 → x ≠ 7 → upM (upM (upM M 6 (R 9) (nI (64 * r + 8 * f + t))) 7 (R 9) (nI y)) 0 4 (nI (R 9 + 1)) x = M x := fun x e1 e2 e3 => by rw [upM_row e1, upM_row e3, upM_row e2]
  have u0 : ∀ b, b ≠ 4 → upM (upM (upM M 6 (R 9) (nI (64 * r + 8 * f + t))) 7 (R 9) (nI y)) 0 4 (nI (R 9 + 1)) 0 b = M 0 b := fun b e1 => by rw [upM_ne (fun _ => e1), upM_row (by decide), upM_row (by decide)]
  refine ⟨?_, ?_, ?_, ?_, ?_, fun i hi => ?_, fun l hl => ?_, fun l hl => ?_, fun l hl => ?_⟩
  · rw [u0 0 (by decide), lo 0 (by decide) (by decide)]; exact p0
  · rw [u0 1 (by decide), lo 6 (by decide) (by decide)]; exact p1
  · rw [u0 2 (by decide), lo 7 (by decide) (by decide)]; exact p2
  · rw [u0 3 (by decide), lo 8 (by decide) (by decide)]; exact p3
  · rw [upM_eq, laR_9]
  · rw [u (0 + 1) (by decide) (by decide) (by decide), lo (1 + i) (by omega) (by omega)]; exact p5 i hi
  · rw [lo 7 (by decide) (by decide)] at hl
    obtain ⟨a, b, c⟩ := p6 l hl
    rw [way_cg (R' := laR R r f t y) (R := R) (fun k _ => lo _ (by omega) (by omega)), lo (10 + 13 * l + 3) (by omega) (by omega), lo (10 + 13 * l + 4) (by omega) (by omega), u (0 + 2) (by decide) (by decide) (by decide), u (0 + 3) (by decide) (by decide) (by decide), u (0 + 4) (by decide) (by decide) (by decide)]
    refine ⟨a, b, c.congr (fun i hi => ?_)⟩
    have := c.le
    rw [lo _ (by omega) (by omega)]
  · rw [lo 8 (by decide) (by decide)] at hl
    rw [u (0 + 5) (by decide) (by decide) (by decide), way_cg (R' := laR R r f t y) (R := R) (q := 218 + 3 * l) (fun k _ => lo _ (by omega) (by omega))]
    exact p7 l hl
  · rw [laR_9] at hl
    rw [upM_row (a := 0 + 6) (by decide), upM_row (a := 0 + 6) (by decide), upM_row (a := 0 + 7) (by decide)]
    by_cases e : l = R 9
    · subst e
      rw [upM_eq, upM_eq, laR_way, laR_3]
      exact ⟨rfl, rfl⟩
    · rw [upM_ne (fun _ => e), upM_ne (fun _ => e), upM_row (a := 0 + 7) (by decide), way_cg (R' := laR R r f t y) (R := R) (q := 254 + 4 * l) (fun k _ => laR_lo (by omega) (by omega)), laR_lo (j := 254 + 4 * l + 3) (by omega) (by omega)]
      exact p8 l (by omega)
theorem laR_PM {R : Nat → Nat} (hV : PV R) {r f t y : Nat} {m : Nat → Int32} (hM : PM R m) (h9 : R 9 < 12) {m' : Nat → Int32} (e9 : m' 9 = nI (R 9 + 1)) (e0 : m' (254 + 4 * R 9) = nI r) (e1 : m' (254 + 4 * R 9 + 1) = nI f) (e2 : m' (254 + 4 * R 9 + 2) = nI t) (e3 : m' (254 + 4 * R 9 + 3) = nI y) (er : ∀ j, j ≠ 9 → (j < 254 + 4 * R 9 ∨ 254 + 4 * R 9 + 3 < j) → m' j = m j) : PM (laR R r f t y) m' := by
  have h7 := hV.2.2.2.2.2.2.2.2.1
  have h8 := hV.2.2.2.2.2.2.2.2.2.1
  obtain ⟨p0, p1, p2, p3⟩ := hM
  have lo : ∀ j, j ≠ 9 → j < 254 → laR R r f t y j = R j := fun j hj h => laR_lo hj (by omega)
  refine ⟨fun i hi => ?_, fun l i hl hi => ?_, fun l i hl hi => ?_, fun l i hl hi => ?_⟩
  · by_cases w : i = 9
    · subst w
      rw [e9, laR_9]
    · rw [er i w (by omega), laR_lo w (by omega)]
      exact p0 i hi
  · rw [lo 7 (by decide) (by decide)] at hl
    obtain ⟨q0, q0', q1, q2, q3, q4, q4', -⟩ := plR_ok hV l hl
    have q4'' : R (10 + 13 * l + 4) ≤ 8 := q4'
    rw [lo (10 + 13 * l + 4) (by omega) (by omega)] at hi
    rw [er _ (by omega) (by omega), lo _ (by omega) (by omega)]
    exact p1 l i hl hi
  · rw [lo 8 (by decide) (by decide)] at hl
    rw [er _ (by omega) (by omega), lo _ (by omega) (by omega)]
    exact p2 l i hl hi
  · rw [laR_9] at hl
    by_cases e : l = R 9
    · subst e
      rcases (show i = 0 ∨ i = 1 ∨ i = 2 ∨ i = 3 by omega) with rfl | rfl | rfl | rfl
      · rw [Nat.add_zero, e0, laR_0]
      · rw [e1, laR_1]
      · rw [e2, laR_2]
      · rw [e3, laR_3]
    · rw [er _ (by omega) (by omega), laR_lo (by omega) (by omega)]
      exact p3 l i (by omega) hi
def in17 (x : Int32) : Bool := decide (1 ≤ x.toInt) && decide (x.toInt ≤ 7)
theorem M_in17 (x : Int32) : f_MM_in x.toInt64 (1 : Int64) (7 : Int64) = in17 x := by
  rw [M_in, Int32.toInt_toInt64]
  rfl
theorem in17_cases (x : Int32) : in17 x = false ∨ ∃ j, 1 ≤ j ∧ j ≤ 7 ∧ x = nI j ∧ in17 x = true := by
  by_cases h : 1 ≤ x.toInt ∧ x.toInt ≤ 7
  · right
    refine ⟨x.toInt.toNat, by omega, by omega, ?_, ?_⟩
    · apply Int32.toInt_inj.mp
      rw [nI_toInt (by omega)]
      omega
    · unfold in17
      rw [decide_eq_true h.1, decide_eq_true h.2]
      rfl
  · left
    unfold in17
    rw [← Bool.not_eq_true]
    simpa using h
theorem C_in17 {α : Type} (x : Int32) {a b : α} : (if x < 1 then a else if x ≤ 7 then b else a) = if in17 x = true then b else a := by
  have e1 : (1 : Int32).toInt = 1 := rfl
  have e7 : (7 : Int32).toInt = 7 := rfl
  unfold in17
  by_cases h1 : x < 1
  · rw [if_pos h1, if_neg]
    rw [Int32.lt_iff_toInt_lt] at h1
    rw [decide_eq_false (by omega), Bool.false_and]
    decide
  · rw [if_neg h1]
    rw [Int32.lt_iff_toInt_lt] at h1
    by_cases h2 : x ≤ 7
    · rw [if_pos h2, if_pos]
      rw [Int32.le_iff_toInt_le] at h2
      rw [decide_eq_true (by omega), decide_eq_true (by omega)]
      rfl
    · rw [if_neg h2, if_neg]
      rw [Int32.le_iff_toInt_le] at h2
      rw [decide_eq_false (show ¬ x.toInt ≤ 7 by omega), Bool.and_false]
      decide
theorem a_late {Mc Mm : Mem} (h : Rel Mc Mm) (x1 x2 x3 x4 : Int32) : Act (f_MC_late Mc x1 x2 x3 x4) (f_MM_late Mm x1 x2 x3 x4) := by
  have hrel := h
  obtain ⟨⟨R, hP0⟩, -⟩ := h
  have hP0' := hP0
  obtain ⟨hV, hP, hM, hC, h28, hk⟩ := hP0'
  have hn := pv_n hV
  have v9 := hV.2.2.2.2.2.2.2.2.2.2.1
  have fin2 : ∀ {o : Option (Int32 × Mem)} {v : Int32} {M : Mem}, o = some (v, M) → bnd2 o (fun y3 M2 => some (y3, M2)) = some (v, M) := fun e => by rw [e]; rfl
  unfold f_MC_late f_MM_late
  rw [C_route hV hP.1, C_in17]
  unfold f_MM_adds
  rw [M_in18, M_unlike hV hM, M_in17]
  rcases route_cases hn x1 x2 x3 with w | ⟨r, f, t, hr1, hr, hf, ht, hft, rfl, rfl, rfl, w1, w2⟩
  · rw [w]
    refine Act.no hrel rfl (fin2 ?_)
    cases e : in18 x1
    · rfl
    · rw [e, Bool.true_and] at w
      rw [w]
      rfl
  · rcases in17_cases x4 with w4 | ⟨y, hy1, hy, rfl, w4⟩
    · rw [w1, w2, w4]
      exact Act.no hrel rfl (fin2 rfl)
    · have h19 : Mm 1 9 = nI (R 9) := hM.1 9 (by decide)
      have g302 : ∀ {α : Type} (a : Option α), gIn ((7 : Int32) + 2) 302 a = a := fun a => gIn_nI (j := 9) (by decide) (by decide)
      have c9 : ((7 : Int32) + 2).toNatClampNeg = 9 := rfl
      rw [w1, w2, w4, Bool.true_and, gT, gT, gT, gT, if_pos rfl, way_of, C_isLate hV hP hr (by omega) (by omega), bnd_some, M_late hV hM (by omega) (by omega) (by omega), bnd_some, hP.2.2.2.2.1, g302, c9, h19]
      by_cases wo : ltI R r f t < R 9
      · rw [decide_eq_true wo, gT, if_pos wo, if_neg (nI_neg1 (by omega))]
        exact Act.no hrel rfl (fin2 rfl)
      · rw [decide_eq_false wo, gF, if_neg wo, if_pos rfl, show (12 : Int32) = nI 12 from rfl]
        by_cases w9 : R 9 < 12
        · rw [if_pos (nI_lt w9 (by decide)), if_neg (fun z => by have := (nI_eq (by omega) (by decide)).mp z; omega)]
          obtain ⟨Mc1, Mm1, r1, r2, r3, r4, r5, r6⟩ := act_fin (R' := laR R r f t y) hrel hP0
          have hP1 : PC R Mc1 0 := hP.cg (fun a _ q => r3 a (by omega))
          have c04 : Mc1 0 4 = nI (R 9) := hP1.2.2.2.2.1
          have m19 : Mm1 1 9 = nI (R 9) := by rw [r4]; exact h19
          have hV' := laR_PV hV w9 hr1 hr hf ht hft hy1 hy wo
          have hP' := laR_PC (r := r) (f := f) (t := t) (y := y) hV hP1 w9
          have hM' : PM (laR R r f t y) (upM (upM (upM (upM (upM Mm1 1 (254 + 4 * R 9) (nI r)) 1 (254 + 4 * R 9 + 1) (nI f)) 1 (254 + 4 * R 9 + 2) (nI t)) 1 (254 + 4 * R 9 + 3) (nI y)) 1 9 (nI (R 9 + 1)) 1) := by
            refine laR_PM hV hM w9 upM_eq ?_ ?_ ?_ ?_ (fun j h1 h2 => ?_)
            · rw [upM_ne (by omega), upM_ne (by omega), upM_ne (by omega), upM_ne (by omega), upM_eq]
            · rw [upM_ne (by omega), upM_ne (by omega), upM_ne (by omega), upM_eq]
            · rw [upM_ne (by omega), upM_ne (by omega), upM_eq]
            · rw [upM_ne (by omega), upM_eq]
            · rw [upM_ne (by omega), upM_ne (by omega), upM_ne (by omega), upM_ne (by omega), upM_ne (by omega), r4]
          obtain ⟨Mc3, q1, q2, q3⟩ := r6 (upM (upM (upM Mc1 6 (R 9) (nI (64 * r + 8 * f + t))) 7 (R 9) (nI y)) 0 4 (nI (R 9 + 1))) (upM (upM (upM (upM (upM Mm1 1 (254 + 4 * R 9) (nI r)) 1 (254 + 4 * R 9 + 1) (nI f)) 1 (254 + 4 * R 9 + 2) (nI t)) 1 (254 + 4 * R 9 + 3) (nI y)) 1 9 (nI (R 9 + 1))) (fun a ha => by rw [upM_row (by omega), upM_row (by omega), upM_row (by omega)]) (fun a ha _ => by rw [upM_row ha, upM_row ha, upM_row ha, upM_row ha, upM_row ha]) hV' hP' hM'
          refine ⟨nI (R 9), Mc3, _, ?_, fin2 ?_, q2⟩
          · unfold f_Play_addLate
            rw [r1, bnd_some, c04, show (12 : Int32) = nI 12 from rfl, if_neg (nI_ge w9 (by decide)), gIn_nI (by omega) (by decide), lt1_eq, nI_clamp (by omega), upM_row (a := 0) (by decide), c04, gIn_nI (by omega) (by decide), lt1_eq, nI_clamp (by omega), upM_row (a := 0) (by decide), upM_row (a := 0) (by decide), c04, lt1_eq, ← nI_succ]
            show bnd (f_MC_replay (upM (upM (upM Mc1 6 (R 9) (nI (64 * r + 8 * f + t))) 7 (R 9) (nI y)) 0 4 (nI (R 9 + 1)))) (fun M8 => some (M8 0 4 - 1, M8)) = _
            rw [q1, bnd_some, q3 0 (by omega), upM_eq, nI_succ]
            congr 2
            exact Int32.add_sub_cancel _ _
          · unfold f_MM_faults f_MM_faults_J66
            have ep : f_MM_placeOf 2 = nI 254 := rfl
            have ew : f_MM_wideOf 2 = nI 4 := rfl
            rw [r2, bnd_some, g302, c9, m19, ep, ew, pk_mul, nI_add, lt1_eq, gIn_nI (by omega) (by decide), lt1_eq, nI_clamp (by omega), j1, nI_add, gIn_nI (by omega) (by decide), lt1_eq, nI_clamp (by omega)]
            have a2 : nI (254 + 4 * R 9) + 2 = nI (254 + 4 * R 9 + 2) := by rw [j2, nI_add]
            have a3 : nI (254 + 4 * R 9) + 3 = nI (254 + 4 * R 9 + 3) := by rw [j3, nI_add]
            rw [a2, gIn_nI (by omega) (by decide), lt1_eq, nI_clamp (by omega), if_pos (show (2 : Int32) = 2 from rfl), a3, gIn_nI (by omega) (by decide), lt1_eq, nI_clamp (by omega), g302, upM_ne (by omega), upM_ne (by omega), upM_ne (by omega), upM_ne (by omega), m19, lt1_eq, bnd_some, upM_eq, nI_add]
            congr 2
            rw [pk_sub (by omega), Nat.add_sub_cancel]
        · have e12 : R 9 = 12 := by omega
          rw [if_neg (nI_nlt (by omega) (by omega)), if_pos (by rw [e12])]
          exact Act.no hrel rfl (fin2 rfl)
