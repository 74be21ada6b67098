/-! omit, late -/
theorem C_among {M : Mem} {a cnt w : Nat} {W : Nat → Nat} (hc : cnt ≤ 12) (h : ∀ l, l < cnt → M a l = nI (W l) ∧ W l < 2 ^ 31) (hw : w < 2 ^ 31) : f_Play_isAmong a 12 M (nI cnt) (nI w) = some (anyB (fun l => decide (W l = w)) cnt) := by
  unfold f_Play_isAmong f_Play_isAmong_J2
  rw [bnd_id]
  unfold f_Play_isAmong_W2
  have st : ∀ l, l < cnt → f_Play_isAmong_L2 a 12 M (nI cnt) (nI w) (nI l) = if decide (W l = w) = true then some (.inr true) else some (.inl (nI (l + 1))) := fun l hl => by
    obtain ⟨h1, h2⟩ := h l hl
    unfold f_Play_isAmong_L2
    rw [if_neg (nI_ge hl (by omega)), if_neg (nI_ge (by omega) (by decide)), gIn_nI (by omega) (by decide), nI_clamp (by omega), h1, ← nI_succ]
    by_cases z : W l = w
    · rw [if_pos (by rw [z]), if_pos (by simp [z])]
    · rw [if_neg (fun y => z ((nI_eq h2 hw).mp y)), if_neg (by simp [z])]
  refine (loop_first (fun i => nI i) (fun l => decide (W l = w)) cnt (fun _ => true) false (fun i hi hb => by rw [st i hi, if_neg (by rw [hb]; decide)]) (fun i hi hb => by rw [st i hi, if_pos hb]) ?_).trans (congrArg some ?_)
  · unfold f_Play_isAmong_L2
    rw [if_pos ((nI_leI (by omega) (by omega)).mpr (Nat.le_refl _))]
  · rcases fstN_sp (fun l => decide (W l = w)) cnt with ⟨h1, h2⟩ | ⟨h1, h2, h3⟩
    · rw [h1, if_neg (by omega), anyB_f.mpr h2]
    · rw [if_pos h1, anyB_iff.mpr ⟨_, h1, h2⟩]
theorem among_fst {R : Nat → Nat} {cnt r f t : Nat} {q : Nat → Nat} (hn : R 0 ≤ 8) (hq : ∀ l, l < cnt → wayOK R (q l)) (hf : f < 8) (ht : t < 8) : anyB (fun l => decide (way R (q l) = 64 * r + 8 * f + t)) cnt = decide (fstN (fun l => isW R (q l) r f t) cnt < cnt) := by
  have key : ∀ l, l < cnt → (isW R (q l) r f t = decide (way R (q l) = 64 * r + 8 * f + t)) := fun l hl => by
    by_cases w : way R (q l) = 64 * r + 8 * f + t
    · rw [decide_eq_true w]; exact (way_inj hn (hq l hl) hf ht).mp w
    · rw [decide_eq_false w]
      cases e : isW R (q l) r f t with
      | false => rfl
      | true => exact absurd ((way_inj hn (hq l hl) hf ht).mpr e) w
  rcases fstN_sp (fun l => isW R (q l) r f t) cnt with ⟨h1, h2⟩ | ⟨h1, h2, h3⟩
  · rw [h1, decide_eq_false (by omega)]
    refine anyB_f.mpr (fun l hl => ?_)
    rw [← key l hl]
    exact h2 l hl
  · rw [decide_eq_true h1]
    refine anyB_iff.mpr ⟨_, h1, ?_⟩
    rw [← key _ h1]
    exact h2
theorem C_omitted {R : Nat → Nat} {M : Mem} (hV : PV R) (hP : PC R M 0) {r f t : Nat} (hr : r ≤ 8) (hf : f < 8) (ht : t < 8) : f_Play_isOmitted 0 M (nI (64 * r + 8 * f + t)) = some (decide (omI R r f t < R 8)) := by
  have hn := pv_n hV
  have h8 := hV.2.2.2.2.2.2.2.2.2.1
  have hw := hV.2.2.2.2.2.2.2.2.2.2.2.2.1
  unfold f_Play_isOmitted
  rw [bnd_id, hP.2.2.2.1, C_among (W := fun l => way R (218 + 3 * l)) h8 (fun l hl => ⟨hP.2.2.2.2.2.2.2.1 l hl, by have := wayOK_lt hn (hw l hl); omega⟩) (by omega), among_fst hn hw hf ht]
  rfl
theorem C_isLate {R : Nat → Nat} {M : Mem} (hV : PV R) (hP : PC R M 0) {r f t : Nat} (hr : r ≤ 8) (hf : f < 8) (ht : t < 8) : f_Play_isLate 0 M (nI (64 * r + 8 * f + t)) = some (decide (ltI R r f t < R 9)) := by
  have hn := pv_n hV
  have h9 := hV.2.2.2.2.2.2.2.2.2.2.1
  have hw := hV.2.2.2.2.2.2.2.2.2.2.2.2.2.1
  unfold f_Play_isLate
  rw [bnd_id, hP.2.2.2.2.1, C_among (W := fun l => way R (254 + 4 * l)) h9 (fun l hl => ⟨(hP.2.2.2.2.2.2.2.2 l hl).1, by have := wayOK_lt hn (hw l hl).1; omega⟩) (by omega), among_fst hn (fun l hl => (hw l hl).1) hf ht]
  rfl
theorem C_route {R : Nat → Nat} {M : Mem} (hV : PV R) (h0 : M 0 0 = nI (R 0)) (x1 x2 x3 : Int32) : f_Play_hasRoute 0 M x1 x2 x3 = (in18 x1 && (inB x2 (R 0) && inB x3 (R 0) && decide (x2 ≠ x3))) := by
  have hn := pv_n hV
  unfold f_Play_hasRoute f_Play_hasRoute_J36
  rw [C_in18, C_party h0 hn, C_party h0 hn]
  cases in18 x1
  · rfl
  · rw [if_pos rfl, Bool.true_and]
    cases inB x2 (R 0)
    · rfl
    · cases inB x3 (R 0)
      · rfl
      · rw [gT, gT]
        by_cases e : x2 = x3
        · rw [if_pos e, e]; simp
        · rw [if_neg e]; simp [e]
theorem route_cases {R : Nat → Nat} (hn : R 0 ≤ 8) (x1 x2 x3 : Int32) : (in18 x1 && (inB x2 (R 0) && inB x3 (R 0) && decide (x2 ≠ x3))) = false ∨ ∃ r f t, 1 ≤ r ∧ r ≤ 8 ∧ f < R 0 ∧ t < R 0 ∧ f ≠ t ∧ x1 = nI r ∧ x2 = nI f ∧ x3 = nI t ∧ in18 x1 = true ∧ (inB x2 (R 0) && inB x3 (R 0) && decide (x2 ≠ x3)) = true := by
  rcases in18_cases x1 with w | ⟨r, h1, h2, rfl, w⟩
  · left; rw [w]; rfl
  · rcases inB_cases x2 (R 0) with u | ⟨f, hf, -, rfl, u⟩
    · left; rw [u]; simp
    · rcases inB_cases x3 (R 0) with v | ⟨t, ht, -, rfl, v⟩
      · left; rw [v]; simp
      · by_cases e : f = t
        · left; subst e; simp
        · right
          have ne : nI f ≠ nI t := fun z => e ((nI_eq (by omega) (by omega)).mp z)
          exact ⟨r, f, t, h1, h2, hf, ht, e, rfl, rfl, rfl, w, by rw [u, v]; simp [ne]⟩
/-- an omit more -/
def omR (R : Nat → Nat) (r f t : Nat) : Nat → Nat := setR (setR (setR (setR R (218 + 3 * R 8) r) (218 + 3 * R 8 + 1) f) (218 + 3 * R 8 + 2) t) 8 (R 8 + 1)
theorem omR_lo {R : Nat → Nat} {r f t j : Nat} (h : j ≠ 8) (h2 : j < 218 + 3 * R 8 ∨ 218 + 3 * R 8 + 2 < j) : omR R r f t j = R j := by
  unfold omR
  rw [setR_ne h, setR_ne (by omega), setR_ne (by omega), setR_ne (by omega)]
theorem omR_8 {R : Nat → Nat} {r f t : Nat} : omR R r f t 8 = R 8 + 1 := setR_eq _ _ _
theorem omR_0 {R : Nat → Nat} {r f t : Nat} : omR R r f t (218 + 3 * R 8) = r := by
  unfold omR
  rw [setR_ne (by omega), setR_ne (by omega), setR_ne (by omega), setR_eq]
theorem omR_1 {R : Nat → Nat} {r f t : Nat} : omR R r f t (218 + 3 * R 8 + 1) = f := by
  unfold omR
  rw [setR_ne (by omega), setR_ne (by omega), setR_eq]
theorem omR_2 {R : Nat → Nat} {r f t : Nat} : omR R r f t (218 + 3 * R 8 + 2) = t := by
  unfold omR
  rw [setR_ne (by omega), setR_eq]
theorem omR_way {R : Nat → Nat} {r f t : Nat} : way (omR R r f t) (218 + 3 * R 8) = 64 * r + 8 * f + t := by
  unfold way
  rw [omR_0, omR_1, omR_2]
theorem omR_PV {R : Nat → Nat} (hV : PV R) {r f t : Nat} (h8 : R 8 < 12) (hr1 : 1 ≤ r) (hr : r ≤ 8) (hf : f < R 0) (ht : t < R 0) (hft : f ≠ t) (hno : ¬ omI R r f t < R 8) : PV (omR R r f t) := by
  have hn := pv_n hV
  have hno' := hno
  obtain ⟨v0, v2, v3, v3', v4, v5, v5', v6, v7, v8, v9, va, vb, vc, vd, ve⟩ := hV
  have e0 : omR R r f t 0 = R 0 := omR_lo (by omega) (by omega)
  have lo : ∀ j, j < 8 → omR R r f t j = R j := fun j hj => omR_lo (by omega) (by omega)
  have lo9 : ∀ j, j = 9 ∨ (10 ≤ j ∧ j < 218) ∨ 254 ≤ j → omR R r f t j = R j := fun j hj => omR_lo (by omega) (by omega)
  refine ⟨?_, ?_, ?_, ?_, ?_, ?_, ?_, ?_, ?_, ?_, ?_, fun l hl => ?_, fun l hl => ?_, fun l hl => ?_, fun i j hij hj => ?_, fun i j hij hj => ?_⟩
  · rw [lo 0 (by decide), lo 1 (by decide)]; exact v0
  · rw [lo 2 (by decide)]; exact v2
  · rw [lo 3 (by decide)]; exact v3
  · rw [lo 3 (by decide)]; exact v3'
  · rw [lo 4 (by decide)]; exact v4
  · rw [lo 5 (by decide)]; exact v5
  · rw [lo 5 (by decide)]; exact v5'
  · rw [lo 6 (by decide), lo 0 (by decide)]; exact v6
  · rw [lo 7 (by decide)]; exact v7
  · rw [omR_8]; omega
  · rw [lo9 9 (by omega)]; exact v9
  · rw [lo 7 (by decide)] at hl
    exact (va l hl).cg e0 (fun j _ => lo9 _ (by omega))
  · rw [omR_8] at hl
    by_cases e : l = R 8
    · subst e
      unfold wayOK
      rw [omR_0, omR_1, omR_2, e0]
      exact ⟨hr1, hr, hf, ht, hft⟩
    · exact (vb l (by omega)).cg e0 (fun j _ => omR_lo (by omega) (by omega))
  · rw [lo9 9 (by omega)] at hl
    obtain ⟨a, b, c⟩ := vc l hl
    rw [lo9 (254 + 4 * l + 3) (by omega)]
    exact ⟨a.cg e0 (fun j _ => lo9 _ (by omega)), b, c⟩
  · rw [omR_8] at hj
    rw [way_cg (R' := omR R r f t) (R := R) (q := 218 + 3 * i) (fun k _ => omR_lo (by omega) (by omega))]
    by_cases e : j = R 8
    · subst e
      rw [omR_way]
      intro z
      apply hno'
      have := among_fst (R := R) (r := r) (q := fun l => 218 + 3 * l) hn vb (show f < 8 by omega) (show t < 8 by omega)
      have h2 : anyB (fun l => decide (way R (218 + 3 * l) = 64 * r + 8 * f + t)) (R 8) = true := anyB_iff.mpr ⟨i, by omega, by simpa using z⟩
      rw [h2] at this
      exact of_decide_eq_true this.symm
    · rw [way_cg (R' := omR R r f t) (R := R) (q := 218 + 3 * j) (fun k _ => omR_lo (by omega) (by omega))]
      exact vd i j hij (by omega)
  · rw [lo9 9 (by omega)] at hj
    rw [way_cg (R' := omR R r f t) (R := R) (q := 254 + 4 * i) (fun k _ => lo9 _ (by omega)), way_cg (R' := omR R r f t) (R := R) (q := 254 + 4 * j) (fun k _ => lo9 _ (by omega))]
    exact ve i j hij hj
theorem omR_PC {R : Nat → Nat} (hV : PV R) {r f t : Nat} {M : Mem} (hP : PC R M 0) (h8 : R 8 < 12) : PC (omR R r f t) (upM (upM M 5 (R 8) (nI (64 * r + 8 * f + t))) 0 3 (nI (R 8 + 1))) 0 := by
  have h7 := hV.2.2.2.2.2.2.2.2.1
  obtain ⟨p0, p1, p2, p3, p4, p5, p6, p7, p8⟩ := hP
  have lo : ∀ j, j < 8 → omR R r f t j = R j := fun j hj => omR_lo (by omega) (by omega)
  have lo9 : ∀ j, j = 9 ∨ (10 ≤ j ∧ j < 218) ∨ 254 ≤ j → omR R r f t j = R j := fun j hj => omR_lo (by omega) (by omega)
  refine ⟨?_, ?_, ?_, ?_, ?_, fun i hi => ?_, fun l hl => ?_, fun l hl => ?_, fun l hl => ?_⟩
  · rw [upM_ne (by omega), upM_row (by decide), lo 0 (by decide)]; exact p0
  · rw [upM_ne (by omega), upM_row (by decide), lo 6 (by decide)]; exact p1
  · rw [upM_ne (by omega), upM_row (by decide), lo 7 (by decide)]; exact p2
  · rw [upM_eq, omR_8]
  · rw [upM_ne (by omega), upM_row (by decide), lo9 9 (by omega)]; exact p4
  · rw [upM_row (by decide), upM_row (by decide), lo (1 + i) (by omega)]; exact p5 i hi
  · rw [lo 7 (by decide)] at hl
    obtain ⟨a, b, c⟩ := p6 l hl
    have ef : (fun i => omR R r f t (10 + 13 * l + 5 + i)) = fun i => if i < 8 then R (10 + 13 * l + 5 + i) else omR R r f t (10 + 13 * l + 5 + i) := funext (fun i => by
      by_cases w : i < 8
      · rw [if_pos w, lo9 _ (by omega)]
      · rw [if_neg w])
    rw [way_cg (R' := omR R r f t) (R := R) (fun k _ => lo9 _ (by omega)), lo9 (10 + 13 * l + 3) (by omega), lo9 (10 + 13 * l + 4) (by omega)]
    have u : ∀ x, x ≠ 0 → x ≠ 5 → upM (upM M 5 (R 8) (nI (64 * r + 8 * f + t))) 0 3 (nI (R 8 + 1)) x = M x := fun x e1 e2 => by rw [upM_row e1, upM_row e2]
    rw [u (0 + 2) (by decide) (by decide), u (0 + 3) (by decide) (by decide), u (0 + 4) (by decide) (by decide)]
    refine ⟨a, b, c.congr (fun i hi => ?_)⟩
    have := c.le
    rw [lo9 _ (by omega)]
  · rw [omR_8] at hl
    rw [upM_row (by decide)]
    by_cases e : l = R 8
    · subst e
      rw [upM_eq, omR_way]
    · rw [upM_ne (fun _ => e), way_cg (R' := omR R r f t) (R := R) (q := 218 + 3 * l) (fun k _ => omR_lo (by omega) (by omega))]
      exact p7 l (by omega)
  · rw [lo9 9 (by omega)] at hl
    have u : ∀ x, x ≠ 0 → x ≠ 5 → upM (upM M 5 (R 8) (nI (64 * r + 8 * f + t))) 0 3 (nI (R 8 + 1)) x = M x := fun x e1 e2 => by rw [upM_row e1, upM_row e2]
    rw [u (0 + 6) (by decide) (by decide), u (0 + 7) (by decide) (by decide), way_cg (R' := omR R r f t) (R := R) (fun k _ => lo9 _ (by omega)), lo9 (254 + 4 * l + 3) (by omega)]
    exact p8 l hl
theorem omR_PM {R : Nat → Nat} (hV : PV R) {r f t : Nat} {m : Nat → Int32} (hM : PM R m) (h8 : R 8 < 12) {m' : Nat → Int32} (e8 : m' 8 = nI (R 8 + 1)) (e0 : m' (218 + 3 * R 8) = nI r) (e1 : m' (218 + 3 * R 8 + 1) = nI f) (e2 : m' (218 + 3 * R 8 + 2) = nI t) (er : ∀ j, j ≠ 8 → (j < 218 + 3 * R 8 ∨ 218 + 3 * R 8 + 2 < j) → m' j = m j) : PM (omR R r f t) m' := by
  have h7 := hV.2.2.2.2.2.2.2.2.1
  obtain ⟨p0, p1, p2, p3⟩ := hM
  have lo : ∀ j, j < 8 → omR R r f t j = R j := fun j hj => omR_lo (by omega) (by omega)
  have lo9 : ∀ j, j = 9 ∨ (10 ≤ j ∧ j < 218) ∨ 254 ≤ j → omR R r f t j = R j := fun j hj => omR_lo (by omega) (by omega)
  refine ⟨fun i hi => ?_, fun l i hl hi => ?_, fun l i hl hi => ?_, fun l i hl hi => ?_⟩
  · by_cases w : i = 8
    · subst w
      rw [e8, omR_8]
    · rw [er i w (by omega), omR_lo w (by omega)]
      exact p0 i hi
  · rw [lo 7 (by decide)] at hl
    obtain ⟨q0, q0', q1, q2, q3, q4, q4', -⟩ := plR_ok hV l hl
    have q4'' : R (10 + 13 * l + 4) ≤ 8 := q4'
    rw [lo9 (10 + 13 * l + 4) (by omega)] at hi
    rw [er _ (by omega) (by omega), lo9 _ (by omega)]
    exact p1 l i hl hi
  · rw [omR_8] at hl
    by_cases e : l = R 8
    · subst e
      rcases (show i = 0 ∨ i = 1 ∨ i = 2 by omega) with rfl | rfl | rfl
      · rw [Nat.add_zero, e0, omR_0]
      · rw [e1, omR_1]
      · rw [e2, omR_2]
    · rw [er _ (by omega) (by omega), omR_lo (by omega) (by omega)]
      exact p2 l i (by omega) hi
  · rw [lo9 9 (by omega)] at hl
    rw [er _ (by omega) (by omega), lo9 _ (by omega)]
    exact p3 l i hl hi
theorem a_omit {Mc Mm : Mem} (h : Rel Mc Mm) (x1 x2 x3 : Int32) : Act (f_MC_omit Mc x1 x2 x3) (f_MM_omit Mm x1 x2 x3) := by
  have hrel := h
  obtain ⟨⟨R, hP0⟩, -⟩ := h
  have hP0' := hP0
  obtain ⟨hV, hP, hM, hC, h28, hk⟩ := hP0'
  have hn := pv_n hV
  have v8 := hV.2.2.2.2.2.2.2.2.2.1
  have b7 : f_MM_in (Int32.toInt64 1) (1 : Int64) (7 : Int64) = true := by rw [M_in, Int32.toInt_toInt64]; rfl
  have fin2 : ∀ {o : Option (Int32 × Mem)} {v : Int32} {M : Mem}, o = some (v, M) → bnd2 o (fun y3 M2 => some (y3, M2)) = some (v, M) := fun e => by rw [e]; rfl
  unfold f_MC_omit f_MM_omit
  rw [C_route hV hP.1]
  unfold f_MM_adds
  rw [M_in18, M_unlike hV hM, b7]
  rcases route_cases hn x1 x2 x3 with w | ⟨r, f, t, hr1, hr, hf, ht, hft, rfl, rfl, rfl, w1, w2⟩
  · rw [w]
    refine Act.no hrel rfl (fin2 ?_)
    cases e : in18 x1
    · rfl
    · rw [e, Bool.true_and] at w
      rw [w]
      rfl
  · have h18 : Mm 1 8 = nI (R 8) := hM.1 8 (by decide)
    have g302 : ∀ {α : Type} (a : Option α), gIn ((7 : Int32) + 1) 302 a = a := fun a => gIn_nI (j := 8) (by decide) (by decide)
    have c8 : ((7 : Int32) + 1).toNatClampNeg = 8 := rfl
    rw [w1, w2, Bool.true_and, gT, gT, gT, gT, way_of, C_omitted hV hP hr (by omega) (by omega), bnd_some, M_omit hV hM (by omega) (by omega) (by omega), bnd_some, hP.2.2.2.1, g302, c8, h18]
    by_cases wo : omI R r f t < R 8
    · rw [decide_eq_true wo, gT, if_pos wo, if_neg (nI_neg1 (by omega))]
      exact Act.no hrel rfl (fin2 rfl)
    · rw [decide_eq_false wo, gF, if_neg wo, if_pos rfl, show (12 : Int32) = nI 12 from rfl]
      by_cases w8 : R 8 < 12
      · rw [if_pos (nI_lt w8 (by decide)), if_neg (fun z => by have := (nI_eq (by omega) (by decide)).mp z; omega)]
        obtain ⟨Mc1, Mm1, r1, r2, r3, r4, r5, r6⟩ := act_fin (R' := omR R r f t) hrel hP0
        have hP1 : PC R Mc1 0 := hP.cg (fun a _ q => r3 a (by omega))
        have c03 : Mc1 0 3 = nI (R 8) := hP1.2.2.2.1
        have m18 : Mm1 1 8 = nI (R 8) := by rw [r4]; exact h18
        have hV' := omR_PV hV w8 hr1 hr hf ht hft wo
        have hP' := omR_PC (r := r) (f := f) (t := t) hV hP1 w8
        have hM' : PM (omR R r f t) (upM (upM (upM (upM Mm1 1 (218 + 3 * R 8) (nI r)) 1 (218 + 3 * R 8 + 1) (nI f)) 1 (218 + 3 * R 8 + 2) (nI t)) 1 8 (nI (R 8 + 1)) 1) := by
          refine omR_PM hV hM w8 upM_eq ?_ ?_ ?_ (fun j h1 h2 => ?_)
          · rw [upM_ne (by omega), upM_ne (by omega), upM_ne (by omega), upM_eq]
          · rw [upM_ne (by omega), upM_ne (by omega), upM_eq]
          · rw [upM_ne (by omega), upM_eq]
          · rw [upM_ne (by omega), upM_ne (by omega), upM_ne (by omega), upM_ne (by omega), r4]
        obtain ⟨Mc3, q1, q2, q3⟩ := r6 (upM (upM Mc1 5 (R 8) (nI (64 * r + 8 * f + t))) 0 3 (nI (R 8 + 1))) (upM (upM (upM (upM Mm1 1 (218 + 3 * R 8) (nI r)) 1 (218 + 3 * R 8 + 1) (nI f)) 1 (218 + 3 * R 8 + 2) (nI t)) 1 8 (nI (R 8 + 1))) (fun a ha => by rw [upM_row (by omega), upM_row (by omega)]) (fun a ha _ => by rw [upM_row ha, upM_row ha, upM_row ha, upM_row ha]) hV' hP' hM'
        refine ⟨nI (R 8), Mc3, _, ?_, fin2 ?_, q2⟩
        · unfold f_Play_addOmit
          rw [r1, bnd_some, c03, show (12 : Int32) = nI 12 from rfl, if_neg (nI_ge w8 (by decide)), gIn_nI (by omega) (by decide), lt1_eq, nI_clamp (by omega), upM_row (by decide), c03, lt1_eq, ← nI_succ]
          show bnd (f_MC_replay (upM (upM Mc1 5 (R 8) (nI (64 * r + 8 * f + t))) 0 3 (nI (R 8 + 1)))) (fun M8 => some (M8 0 3 - 1, M8)) = _
          rw [q1, bnd_some, q3 0 (by omega), upM_eq, nI_succ]
          congr 2
          exact Int32.add_sub_cancel _ _
        · unfold f_MM_faults f_MM_faults_J66
          have ep : f_MM_placeOf 1 = nI 218 := rfl
          have ew : f_MM_wideOf 1 = nI 3 := rfl
          rw [r2, bnd_some, g302, c8, m18, ep, ew, pk_mul, nI_add, lt1_eq, gIn_nI (by omega) (by decide), lt1_eq, nI_clamp (by omega), j1, j2, nI_add, nI_add, gIn_nI (by omega) (by decide), lt1_eq, nI_clamp (by omega), gIn_nI (by omega) (by decide), lt1_eq, nI_clamp (by omega), if_neg (show ¬ nI 1 = nI 2 by decide)]
          have g302' : ∀ {α : Type} (a : Option α), gIn ((7 : Int32) + nI 1) 302 a = a := fun a => gIn_nI (j := 8) (by decide) (by decide)
          rw [g302', upM_ne (by omega), upM_ne (by omega), upM_ne (by omega), m18, lt1_eq, bnd_some, upM_eq, nI_add]
          congr 2
          rw [pk_sub (by omega), Nat.add_sub_cancel]
      · have e12 : R 8 = 12 := by omega
        rw [if_neg (nI_nlt (by omega) (by omega)), if_pos (by rw [e12])]
        exact Act.no hrel rfl (fin2 rfl)
