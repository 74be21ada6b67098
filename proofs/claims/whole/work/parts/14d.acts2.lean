/-! settle, lies -/
def setR (R : Nat → Nat) (i x : Nat) : Nat → Nat := fun j => if j = i then x else R j
theorem setR_eq (R : Nat → Nat) (i x : Nat) : setR R i x i = x := if_pos rfl
theorem setR_ne {R : Nat → Nat} {i x j : Nat} (h : j ≠ i) : setR R i x j = R j := if_neg h
theorem wayOK.cg {R R' : Nat → Nat} {q : Nat} (h : wayOK R q) (e0 : R' 0 = R 0) (e : ∀ j, j < 3 → R' (q + j) = R (q + j)) : wayOK R' q := by
  have a0 : R' q = R q := e 0 (by decide)
  unfold wayOK at h ⊢
  rw [e0, a0, e 1 (by decide), e 2 (by decide)]
  exact h
theorem planOK.cg {R R' : Nat → Nat} {q : Nat} (h : planOK R q) (e0 : R' 0 = R 0) (e : ∀ j, j < 13 → R' (q + j) = R (q + j)) : planOK R' q := by
  obtain ⟨h1, h2, h3, h4, h5, h6⟩ := h
  refine ⟨h1.cg e0 (fun j hj => e j (by omega)), ?_, ?_, ?_, fun i hi => ?_, fun i j hij hj => ?_⟩
  · rw [e 3 (by decide)]; exact h2
  · rw [e 4 (by decide)]; exact h3
  · rw [e 4 (by decide)]; exact h4
  · rw [e 4 (by decide)] at hi
    have := e (5 + i) (by omega)
    rw [← Nat.add_assoc] at this
    rw [this, e0]
    exact h5 i hi
  · rw [e 4 (by decide)] at hj
    have a := e (5 + i) (by omega)
    have b := e (5 + j) (by omega)
    rw [← Nat.add_assoc] at a b
    rw [a, b]
    exact h6 i j hij hj
theorem way_cg {R R' : Nat → Nat} {q : Nat} (e : ∀ j, j < 3 → R' (q + j) = R (q + j)) : way R' q = way R q := by
  have a0 : R' q = R q := e 0 (by decide)
  unfold way
  rw [a0, e 1 (by decide), e 2 (by decide)]
theorem PV.hd {R R' : Nat → Nat} (h : PV R) (e : ∀ j, j = 0 ∨ 7 ≤ j → R' j = R j) (h1 : (R' 0 = 0 ∧ R' 1 = 0) ∨ (3 ≤ R' 0 ∧ R' 0 ≤ 8 ∧ R' 1 < R' 0)) (h2 : R' 2 < 4) (h3 : 1 ≤ R' 3) (h3' : R' 3 ≤ 8) (h4 : R' 4 < 4) (h5 : 1 ≤ R' 5) (h5' : R' 5 ≤ 4) (h6 : R' 6 < 2 ^ R' 0) : PV R' := by
  obtain ⟨-, -, -, -, -, -, -, -, g7, g8, g9, ga, gb, gc, gd, ge⟩ := h
  have e0 : R' 0 = R 0 := e 0 (Or.inl rfl)
  have e7 : R' 7 = R 7 := e 7 (by omega)
  have e8 : R' 8 = R 8 := e 8 (by omega)
  have e9 : R' 9 = R 9 := e 9 (by omega)
  refine ⟨h1, h2, h3, h3', h4, h5, h5', h6, by omega, by omega, by omega, fun l hl => (ga l (by omega)).cg e0 (fun j _ => e _ (by omega)), fun l hl => (gb l (by omega)).cg e0 (fun j _ => e _ (by omega)), fun l hl => ?_, fun i j hij hj => ?_, fun i j hij hj => ?_⟩
  · obtain ⟨a, b, c⟩ := gc l (by omega)
    have := e (254 + 4 * l + 3) (by omega)
    exact ⟨a.cg e0 (fun j _ => e _ (by omega)), by omega, by omega⟩
  · rw [way_cg (R' := R') (R := R) (fun j _ => e _ (by omega)), way_cg (R' := R') (R := R) (fun j _ => e _ (by omega))]
    exact gd i j hij (by omega)
  · rw [way_cg (R' := R') (R := R) (fun j _ => e _ (by omega)), way_cg (R' := R') (R := R) (fun j _ => e _ (by omega))]
    exact ge i j hij (by omega)
/-- a play with another number at a low place -/
theorem PC.hd {R R' : Nat → Nat} {M M' : Mem} (h : PC R M 0) (e : ∀ j, j = 0 ∨ 7 ≤ j → R' j = R j) (e0 : ∀ i, i ≠ 1 → M' 0 i = M 0 i) (e01 : M' 0 1 = nI (R' 6)) (e1 : ∀ i, i < 5 → M' 1 i = nI (R' (1 + i))) (er : ∀ a, 2 ≤ a → a < 8 → M' a = M a) : PC R' M' 0 := by
  obtain ⟨p0, p1, p2, p3, p4, p5, p6, p7, p8⟩ := h
  have c0 : R' 0 = R 0 := e 0 (Or.inl rfl)
  have c7 : R' 7 = R 7 := e 7 (by omega)
  have c8 : R' 8 = R 8 := e 8 (by omega)
  have c9 : R' 9 = R 9 := e 9 (by omega)
  refine ⟨?_, e01, ?_, ?_, ?_, fun i hi => e1 i hi, fun l hl => ?_, fun l hl => ?_, fun l hl => ?_⟩
  · rw [e0 0 (by decide), p0, c0]
  · rw [e0 2 (by decide), p2, c7]
  · rw [e0 3 (by decide), p3, c8]
  · rw [e0 4 (by decide), p4, c9]
  · obtain ⟨a, b, c⟩ := p6 l (by omega)
    rw [er (0 + 2) (by decide) (by decide), er (0 + 3) (by decide) (by decide), er (0 + 4) (by decide) (by decide), way_cg (R' := R') (R := R) (fun j _ => e _ (by omega)), e (10 + 13 * l + 3) (by omega), e (10 + 13 * l + 4) (by omega)]
    refine ⟨a, b, ?_⟩
    have : (fun i => R' (10 + 13 * l + 5 + i)) = fun i => R (10 + 13 * l + 5 + i) := funext (fun i => e _ (by omega))
    rw [this]
    exact c
  · rw [er (0 + 5) (by decide) (by decide), way_cg (R' := R') (R := R) (fun j _ => e _ (by omega))]
    exact p7 l (by omega)
  · rw [er (0 + 6) (by decide) (by decide), er (0 + 7) (by decide) (by decide), way_cg (R' := R') (R := R) (fun j _ => e _ (by omega)), e (254 + 4 * l + 3) (by omega)]
    exact p8 l (by omega)
theorem PM.hd {R R' : Nat → Nat} {r r' : Nat → Int32} (h : PM R r) (e : ∀ j, j = 0 ∨ 7 ≤ j → R' j = R j) (e1 : ∀ i, 1 ≤ i → i < 7 → r' i = nI (R' i)) (er : ∀ i, i = 0 ∨ 7 ≤ i → r' i = r i) : PM R' r' := by
  obtain ⟨p0, p1, p2, p3⟩ := h
  have c7 : R' 7 = R 7 := e 7 (by omega)
  have c8 : R' 8 = R 8 := e 8 (by omega)
  have c9 : R' 9 = R 9 := e 9 (by omega)
  refine ⟨fun i hi => ?_, fun l i hl hi => ?_, fun l i hl hi => ?_, fun l i hl hi => ?_⟩
  · by_cases w : i = 0 ∨ 7 ≤ i
    · rw [er i w, e i w]
      exact p0 i hi
    · exact e1 i (by omega) (by omega)
  · rw [e (10 + 13 * l + 4) (by omega)] at hi
    rw [er _ (by omega), e _ (by omega)]
    exact p1 l i (by omega) hi
  · rw [er _ (by omega), e _ (by omega)]
    exact p2 l i (by omega) hi
  · rw [er _ (by omega), e _ (by omega)]
    exact p3 l i (by omega) hi
theorem a_lies {Mc Mm : Mem} (h : Rel Mc Mm) (x1 : Int32) : Act (f_MC_lies Mc x1) (f_MM_lies Mm x1) := by
  have hrel := h
  obtain ⟨⟨R, hP0⟩, -⟩ := h
  have hP0' := hP0
  obtain ⟨hV, hP, hM, hC, h28, hk⟩ := hP0'
  have hn := pv_n hV
  have h6 := hV.2.2.2.2.2.2.2.1
  have hl6 := pv_lie hV
  unfold f_MC_lies f_MM_lies
  rw [C_party hP.1 hn, M_partyB hV hM]
  rcases inB_cases x1 (R 0) with w | ⟨p, hp, -, rfl, w⟩
  · rw [w]
    exact Act.no hrel rfl rfl
  · obtain ⟨Mc1, Mm1, r1, r2, r3, r4, r5, r6⟩ := act_fin (R' := setR R 6 (R 6 ^^^ 2 ^ p)) hrel hP0
    have hx : R 6 ^^^ 2 ^ p < 2 ^ R 0 := Nat.xor_lt_two_pow h6 (Nat.pow_lt_pow_right (by decide) hp)
    have hx2 : R 6 ^^^ 2 ^ p < 256 := Nat.lt_of_lt_of_le hx (Nat.pow_le_pow_right (n := 2) (j := 8) (by decide) hn)
    have c01 : Mc1 0 1 = nI (R 6) := by rw [r3 0 (by decide)]; exact hP.2.1
    have m16 : Mm1 1 6 = nI (R 6) := by rw [r4]; exact hM.1 6 (by decide)
    have hV' : PV (setR R 6 (R 6 ^^^ 2 ^ p)) := by
      have hVV := hV
      obtain ⟨v0, v2, v3, v3', v4, v5, v5', -⟩ := hVV
      refine PV.hd (R := R) hV (fun j hj => setR_ne (by omega)) ?_ ?_ ?_ ?_ ?_ ?_ ?_ ?_
      · rw [setR_ne (by decide), setR_ne (by decide)]; exact v0
      · rw [setR_ne (by decide)]; exact v2
      · rw [setR_ne (by decide)]; exact v3
      · rw [setR_ne (by decide)]; exact v3'
      · rw [setR_ne (by decide)]; exact v4
      · rw [setR_ne (by decide)]; exact v5
      · rw [setR_ne (by decide)]; exact v5'
      · rw [setR_eq, setR_ne (by decide)]; exact hx
    have hP' : PC (setR R 6 (R 6 ^^^ 2 ^ p)) (upM Mc1 0 1 (nI (R 6 ^^^ 2 ^ p))) 0 := by
      refine (hP.cg (fun a _ q => r3 a (by omega))).hd (fun j hj => setR_ne (by omega)) (fun i hi => upM_ne (by omega)) (by rw [upM_eq, setR_eq]) (fun i hi => ?_) (fun a h2 h8 => upM_row (by omega))
      rw [upM_row (by decide), r3 1 (by decide), setR_ne (by omega)]
      exact hP.2.2.2.2.2.1 i hi
    have hM' : PM (setR R 6 (R 6 ^^^ 2 ^ p)) (upM Mm1 1 6 (nI (R 6 ^^^ 2 ^ p)) 1) := by
      refine hM.hd (fun j hj => setR_ne (by omega)) (fun i h1 h7 => ?_) (fun i hi => by rw [upM_ne (by omega), r4])
      by_cases e : i = 6
      · subst e
        rw [upM_eq, setR_eq]
      · rw [upM_ne (by omega), r4, setR_ne e]
        exact hM.1 i (by omega)
    obtain ⟨Mc3, q1, q2, q3⟩ := r6 (upM Mc1 0 1 (nI (R 6 ^^^ 2 ^ p))) (upM Mm1 1 6 (nI (R 6 ^^^ 2 ^ p))) (fun a ha => upM_row (by omega)) (fun a ha _ => upM_row ha) hV' hP' hM'
    refine ⟨bI ((R 6 ^^^ 2 ^ p).testBit p), Mc3, upM Mm1 1 6 (nI (R 6 ^^^ 2 ^ p)), ?_, ?_, q2⟩
    · rw [w, gT, r1, bnd_some, c01, sh1 p (by omega), fa_xor, lt1_eq, q1, bnd_some, q3 0 (by omega), upM_eq, bit_at (by omega) (by omega)]
    · rw [w, gT, r2, bnd_some, m16, sh1 p (by omega), fa_xor, lt1_eq]
      unfold f_MM_isLiar
      rw [upM_eq, M_has (by omega) (by omega)]
      cases (R 6 ^^^ 2 ^ p).testBit p <;> rfl
/-- what a setting may be -/
def stB (R : Nat → Nat) (w : Nat) (x : Int32) : Bool := if w = 0 then inB x (R 0) else if w = 2 then in18 x else if w = 4 then (decide (1 ≤ x.toInt) && decide (x.toInt ≤ 4)) else inB x 4
theorem C_range {x : Int32} {lo hi : Int32} : (if x < lo then false else if hi < x then false else true) = (decide (lo.toInt ≤ x.toInt) && decide (x.toInt ≤ hi.toInt)) := by
  by_cases h1 : x < lo
  · rw [if_pos h1]
    rw [Int32.lt_iff_toInt_lt] at h1
    rw [decide_eq_false (by omega), Bool.false_and]
  · rw [if_neg h1]
    rw [Int32.lt_iff_toInt_lt] at h1
    rw [decide_eq_true (by omega), Bool.true_and]
    by_cases h2 : hi < x
    · rw [if_pos h2]
      rw [Int32.lt_iff_toInt_lt] at h2
      rw [decide_eq_false (by omega)]
    · rw [if_neg h2]
      rw [Int32.lt_iff_toInt_lt] at h2
      rw [decide_eq_true (by omega)]
theorem le_lt {x : Int32} {n : Nat} {hi : Int32} (h : hi.toInt = (n : Int) - 1) : (decide ((0 : Int32).toInt ≤ x.toInt) && decide (x.toInt ≤ hi.toInt)) = inB x n := by
  unfold inB
  rw [h]
  have e : (0 : Int32).toInt = 0 := rfl
  rw [e]
  congr 1
  by_cases w : x.toInt < n
  · rw [decide_eq_true w, decide_eq_true (by omega)]
  · rw [decide_eq_false w, decide_eq_false (by omega)]
theorem pre32 (n : Nat) (hn : n < 2 ^ 31) : (nI n - 1).toInt = (n : Int) - 1 := by
  have := nI_pre64 n hn
  rw [Int32.toInt_toInt64] at this
  exact this
theorem C_setting {R : Nat → Nat} {M : Mem} (hV : PV R) (h0 : M 0 0 = nI (R 0)) (hR0 : R 0 ≠ 0) (x1 x2 : Int32) : f_Play_hasSetting 0 M x1 x2 = (inB x1 5 && stB R x1.toInt.toNat x2) := by
  have hn := pv_n hV
  unfold f_Play_hasSetting f_Play_hasSetting_J38
  rw [h0, if_neg (show ¬ nI (R 0) ≤ 0 from fun w => hR0 (by have := (nI_leI (a := R 0) (b := 0) (by omega) (by decide)).mp w; omega)), j5, inC (by decide), ite_self]
  rcases inB_cases x1 5 with w | ⟨a, ha, ha2, rfl, w⟩
  · rw [w]
    rfl
  · rw [w, if_pos rfl, Bool.true_and, nI_toInt ha2, show ((a : Int)).toNat = a from Int.toNat_natCast a, C_range]
    unfold stB f_Play_mostSetting f_Play_leastSetting f_Play_leastSetting_J10
    rcases (show a = 0 ∨ a = 1 ∨ a = 2 ∨ a = 3 ∨ a = 4 by omega) with rfl | rfl | rfl | rfl | rfl
    · rw [if_pos rfl, if_pos (show nI 0 = 0 from rfl), if_neg (show ¬ nI 0 = 2 by decide), if_neg (show ¬ nI 0 = 4 by decide), h0]
      exact le_lt (pre32 _ (by omega))
    · exact le_lt (n := 4) (hi := 3) (by decide)
    · rfl
    · exact le_lt (n := 4) (hi := 3) (by decide)
    · rfl
theorem M_setting {R : Nat → Nat} {M : Mem} (hV : PV R) (hM : PM R (M 1)) {a : Nat} (ha : a < 5) (x2 : Int32) : f_MM_canBe M (nI a) x2 = stB R a x2 := by
  unfold f_MM_canBe stB
  rcases (show a = 0 ∨ a = 1 ∨ a = 2 ∨ a = 3 ∨ a = 4 by omega) with rfl | rfl | rfl | rfl | rfl
  · exact M_partyB hV hM x2
  · exact M_inB x2 4 3 (by decide)
  · exact M_in18 x2
  · exact M_inB x2 4 3 (by decide)
  · have : f_MM_in x2.toInt64 (1 : Int64) (4 : Int64) = _ := M_in _ _ _
    rw [Int32.toInt_toInt64] at this
    exact this
theorem a_settle {Mc Mm : Mem} (h : Rel Mc Mm) (x1 x2 : Int32) : Act (f_MC_settle Mc x1 x2) (f_MM_settle Mm x1 x2) := by
  have hrel := h
  obtain ⟨⟨R, hP0⟩, -⟩ := h
  have h00 := R0_cases hP0
  have hP0' := hP0
  obtain ⟨hV, hP, hM, hC, h28, hk⟩ := hP0'
  have hn := pv_n hV
  unfold f_MC_settle f_MM_settle
  rcases h00 with ⟨a0, a, b⟩ | ⟨a0, a, b⟩
  · have : f_Play_hasSetting 0 Mc x1 x2 = false := by
      unfold f_Play_hasSetting f_Play_hasSetting_J38
      rw [a, if_pos (by decide)]
    rw [this, gF, if_pos b]
    exact Act.no hrel rfl rfl
  · rw [if_neg b, C_setting hV hP.1 a0, M_inB x1 5 4 (by decide)]
    rcases inB_cases x1 5 with w | ⟨s, hs, hs2, rfl, w⟩
    · rw [w]
      exact Act.no hrel rfl rfl
    · rw [w, Bool.true_and, gT, M_setting hV hM hs, nI_toInt hs2, show ((s : Int)).toNat = s from Int.toNat_natCast s]
      cases e : stB R s x2
      · exact Act.no hrel rfl rfl
      · obtain ⟨v, hv, rfl, hok⟩ : ∃ v, v < 16 ∧ x2 = nI v ∧ ((s = 0 → v < R 0) ∧ (s = 1 → v < 4) ∧ (s = 2 → 1 ≤ v ∧ v ≤ 8) ∧ (s = 3 → v < 4) ∧ (s = 4 → 1 ≤ v ∧ v ≤ 4)) := by
          have hb : ∃ v, v < 16 ∧ x2 = nI v := by
            refine ⟨x2.toInt.toNat, ?_, ?_⟩
            · unfold stB inB in18 at e
              split at e
              · simp only [Bool.and_eq_true, decide_eq_true_eq] at e; omega
              · split at e
                · simp only [Bool.and_eq_true, decide_eq_true_eq] at e; omega
                · split at e
                  · simp only [Bool.and_eq_true, decide_eq_true_eq] at e; omega
                  · simp only [Bool.and_eq_true, decide_eq_true_eq] at e; omega
            · have hx : 0 ≤ x2.toInt ∧ x2.toInt < 16 := by
                unfold stB inB in18 at e
                split at e
                · simp only [Bool.and_eq_true, decide_eq_true_eq] at e; omega
                · split at e
                  · simp only [Bool.and_eq_true, decide_eq_true_eq] at e; omega
                  · split at e
                    · simp only [Bool.and_eq_true, decide_eq_true_eq] at e; omega
                    · simp only [Bool.and_eq_true, decide_eq_true_eq] at e; omega
              apply Int32.toInt_inj.mp
              rw [nI_toInt (by omega)]
              omega
          obtain ⟨v, hv, rfl⟩ := hb
          refine ⟨v, hv, rfl, ?_⟩
          unfold stB inB in18 at e
          rw [nI_toInt (by omega)] at e
          refine ⟨fun z => ?_, fun z => ?_, fun z => ?_, fun z => ?_, fun z => ?_⟩ <;> subst z <;> simp at e <;> omega
        rw [gT, gT, gIn_nI hs (by decide), nI_clamp (by omega), j1, nI_add, gIn_nI (by omega) (by decide), nI_clamp (by omega)]
        have c1 : Mc 1 s = nI (R (1 + s)) := hP.2.2.2.2.2.1 s hs
        have m1 : Mm 1 (1 + s) = nI (R (1 + s)) := hM.1 (1 + s) (by omega)
        rw [c1, m1]
        by_cases z : nI (R (1 + s)) = nI v
        · rw [if_pos z, if_pos z]
          exact Act.no hrel rfl rfl
        · obtain ⟨Mc1, Mm1, r1, r2, r3, r4, r5, r6⟩ := act_fin (R' := setR R (1 + s) v) hrel hP0
          obtain ⟨o0, o1, o2, o3, o4⟩ := hok
          have hV' : PV (setR R (1 + s) v) := by
            have hVV := hV
            obtain ⟨v0, v2, v3, v3', v4, v5, v5', v6, -⟩ := hVV
            have g : ∀ j, setR R (1 + s) v j = if j = 1 + s then v else R j := fun _ => rfl
            refine PV.hd (R := R) hV (fun j hj => setR_ne (by omega)) ?_ ?_ ?_ ?_ ?_ ?_ ?_ ?_ <;> simp only [g] <;> (rcases (show s = 0 ∨ s = 1 ∨ s = 2 ∨ s = 3 ∨ s = 4 by omega) with rfl | rfl | rfl | rfl | rfl) <;> simp <;> omega
          have hP' : PC (setR R (1 + s) v) (upM Mc1 1 s (nI v)) 0 := by
            refine (hP.cg (fun a _ q => r3 a (by omega))).hd (fun j hj => setR_ne (by omega)) (fun i hi => by rw [upM_row (by decide)]) ?_ (fun i hi => ?_) (fun a h2 h8 => upM_row (by omega))
            · rw [upM_row (by decide), r3 0 (by decide), setR_ne (by omega)]
              exact hP.2.1
            · by_cases q : i = s
              · subst q
                rw [upM_eq, setR_eq]
              · rw [upM_ne (fun _ => q), r3 1 (by decide), setR_ne (by omega)]
                exact hP.2.2.2.2.2.1 i hi
          have hM' : PM (setR R (1 + s) v) (upM Mm1 1 (1 + s) (nI v) 1) := by
            refine hM.hd (fun j hj => setR_ne (by omega)) (fun i h1 h7 => ?_) (fun i hi => by rw [upM_ne (by omega), r4])
            by_cases q : i = 1 + s
            · subst q
              rw [upM_eq, setR_eq]
            · rw [upM_ne (by omega), r4, setR_ne q]
              exact hM.1 i (by omega)
          obtain ⟨Mc3, q1, q2, q3⟩ := r6 (upM Mc1 1 s (nI v)) (upM Mm1 1 (1 + s) (nI v)) (fun a ha => upM_row (by omega)) (fun a ha _ => upM_row ha) hV' hP' hM'
          refine ⟨nI (R (1 + s)), Mc3, upM Mm1 1 (1 + s) (nI v), ?_, ?_, q2⟩
          · rw [if_neg z, r1, bnd_some, lt1_eq, q1, bnd_some]
          · rw [if_neg z, r2, bnd_some, lt1_eq]
