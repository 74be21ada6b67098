/-! keep, back, settle, lies -/
theorem two_lt (x1 : Int32) {α : Type} {a b : α} : (if x1 < 0 then a else if x1 < 2 then b else a) = if inB x1 2 = true then b else a := by
  rw [← i1]
  have : x1 < 2 ↔ x1 ≤ 1 := by
    rw [Int32.lt_iff_toInt_lt, Int32.le_iff_toInt_le]
    have e2 : (2 : Int32).toInt = 2 := rfl
    have e1 : (1 : Int32).toInt = 1 := rfl
    omega
  simp only [this]
theorem sh_or : ∀ sh, sh < 4 → ∀ s, s < 2 → sh ||| 2 ^ s < 4 ∧ (sh ||| 2 ^ s).testBit s = true ∧ ∀ u, u < 2 → u ≠ s → (sh ||| 2 ^ s).testBit u = sh.testBit u := by decide
theorem a_keep {Mc Mm : Mem} (h : Rel Mc Mm) (x1 : Int32) : Act (f_MC_keep Mc x1) (f_MM_keep Mm x1) := by
  have hrel := h
  obtain ⟨⟨R, hP0⟩, hH, ⟨sh, S, s1, s2, s3⟩, hT⟩ := h
  have hP0' := hP0
  obtain ⟨hV, hP, hM, hC, h28, hk⟩ := hP0'
  unfold f_MC_keep f_MM_keep
  rw [two_lt, M_inB x1 2 1 (by decide)]
  rcases inB_cases x1 2 with w | ⟨s, hs, -, rfl, w⟩
  · rw [w]
    exact Act.no hrel rfl rfl
  · obtain ⟨t1, t2, t3⟩ := s3 s hs
    obtain ⟨A, a1, a2, a3, a4⟩ := C_become (k := 8 * (12 + s)) hV hP (by omega)
    obtain ⟨B, b1, b2, b3, b4⟩ := M_moves (M := Mm) (a0 := 1) (n0 := 302) (a2 := 5) (n2 := 604) (p := 0) (q := 302 * s) (by decide) (by decide) (by omega) (by decide) (by decide)
    obtain ⟨o1, o2, o3⟩ := sh_or sh s1 s hs
    have eA : A 138 7 = nI sh := by rw [a2 138 (by omega), s2]
    have rA : ∀ a, ¬ (96 ≤ a ∧ a < 112) → a ≠ 138 → upM A 138 7 (nI (sh ||| 2 ^ s)) a = Mc a := fun a e1 e2 => by rw [upM_row e2, a2 a (by omega)]
    have rB : ∀ a, a ≠ 5 → a ≠ 6 → upM B 6 s 1 a = Mm a := fun a e1 e2 => by rw [upM_row e2, b2 a e1]
    refine ⟨nI (R 7), upM A 138 7 (nI (sh ||| 2 ^ s)), upM B 6 s 1, ?_, ?_, ⟨R, hP0.cg (fun a q => rA a (by omega) (by omega)) (fun a q1 q2 => rA a (by omega) (by omega)) (by rw [rB 1 (by decide) (by decide)]; exact hM) (by rw [rB 0 (by decide) (by decide)]; exact h28)⟩, hH.cg (fun a q1 q2 => rA a (by omega) (by omega)) (by rw [upM_ne (by omega), a2 138 (by omega)]) (rA 139 (by omega) (by omega)) (by rw [rB 0 (by decide) (by decide)]) (rB 4 (by decide) (by decide)), ⟨sh ||| 2 ^ s, fun u => if u = s then R else S u, o1, upM_eq, fun u hu => ?_⟩, hT.cg (by rw [rA 136 (by omega) (by omega)]) (rA 137 (by omega) (by omega)) (by rw [rB 0 (by decide) (by decide)]) (rB 7 (by decide) (by decide))⟩
    · rw [w, if_pos rfl, gIn_nI hs (by decide), nI_clamp (by omega), t1, nI_clamp (by omega), gLt_of (by omega), a1, bnd_some, lt1_eq, eA, sh1 s (by omega), fa_or, upM_row (by decide), a2 0 (by omega), hP.2.2.1]
    · have h17 : B 1 7 = nI (R 7) := by rw [b2 1 (by decide)]; exact hM.1 7 (by decide)
      rw [w, gT, show (0 : Int32) = nI 0 from rfl, show (302 : Int32) = nI 302 from rfl, pk_mul, b1, bnd_some, gIn_nI hs (by decide), nI_clamp (by omega), lt1_eq, upM_row (by decide), h17]
      rfl
    · show upM A 138 7 (nI (sh ||| 2 ^ s)) 140 u = _ ∧ upM B 6 s 1 6 u = _ ∧ ((sh ||| 2 ^ s).testBit u = true → PV (if u = s then R else S u) ∧ PC (if u = s then R else S u) _ _ ∧ PM (if u = s then R else S u) _)
      obtain ⟨u1, u2, u3⟩ := s3 u hu
      refine ⟨by rw [rA 140 (by omega) (by omega)]; exact u1, ?_, ?_⟩
      · by_cases e : u = s
        · subst e
          rw [upM_eq, o2]
          rfl
        · rw [upM_ne (fun _ => e), b2 6 (by decide), o3 u hu e]
          exact u2
      · intro wb
        by_cases e : u = s
        · subst e
          rw [if_pos rfl]
          refine ⟨hV, a3.cg (fun a w1 w2 => upM_row (by omega)), hM.cg hV (fun b hb => ?_)⟩
          show upM B 6 u 1 5 (302 * u + b) = _
          rw [upM_row (by decide), b3 b hb, Nat.zero_add]
        · rw [if_neg e]
          rw [o3 u hu e] at wb
          obtain ⟨v1, v2, v3⟩ := u3 wb
          refine ⟨v1, v2.cg (fun a w1 w2 => by rw [upM_row (by omega), a2 a (by omega)]), v3.cg v1 (fun b hb => ?_)⟩
          show upM B 6 s 1 5 (302 * u + b) = _
          rw [upM_row (by decide), b4 _ (by omega)]
theorem a_back {Mc Mm : Mem} (h : Rel Mc Mm) (x1 : Int32) : Act (f_MC_back Mc x1) (f_MM_back Mm x1) := by
  have hrel := h
  obtain ⟨⟨R, hV, hP, hM, hC, h28, hk⟩, ⟨pc, π, H, h1, h2, h3, h4, h5, h6⟩, hS, hT⟩ := h
  have hS0 := hS
  obtain ⟨sh, S, s1, s2, s3⟩ := hS0
  unfold f_MC_back f_MM_back
  rw [two_lt, M_inB x1 2 1 (by decide)]
  rcases inB_cases x1 2 with w | ⟨s, hs, -, rfl, w⟩
  · rw [w]
    exact Act.no hrel rfl rfl
  · obtain ⟨t1, t2, t3⟩ := s3 s hs
    rw [w, if_pos rfl, gT, s2, gIn_nI hs (by decide), gIn_nI hs (by decide), nI_clamp (by omega), t2]
    cases e : sh.testBit s
    · rw [if_pos ((bit_0 (by omega) (by omega)).mpr e), if_pos (show bI false = 0 from rfl)]
      exact Act.no hrel rfl rfl
    · obtain ⟨g1, g2, g3⟩ := t3 e
      obtain ⟨A, a1, a2, a3, a4⟩ := C_become (k := 0) (M := Mc) g1 g2 (by omega)
      obtain ⟨B, b1, b2, b3, b4⟩ := M_moves (M := Mm) (a0 := 5) (n0 := 604) (a2 := 1) (n2 := 302) (p := 302 * s) (q := 0) (by decide) (by omega) (by decide) (by decide) (by decide)
      have hMB : PM (S s) (upM B 0 6 0 1) := by
        rw [upM_row (by decide)]
        exact g3.cg g1 (fun b hb => by
          have := b3 b hb
          rw [Nat.zero_add] at this
          rw [this])
      have rA : ∀ a, 8 ≤ a → a ≠ 138 → upM A 138 6 0 a = Mc a := fun a e1 e2 => by rw [upM_row e2, a2 a (by omega)]
      have rB : ∀ a, a ≠ 0 → a ≠ 1 → upM B 0 6 0 a = Mm a := fun a e1 e2 => by rw [upM_row e1, b2 a e2]
      have rB0 : ∀ b, b ≠ 6 → upM B 0 6 0 0 b = Mm 0 b := fun b e => by rw [upM_ne (by omega), b2 0 (by decide)]
      have hH' : RelH (upM A 138 6 0) (upM B 0 6 0) := by
        refine ⟨0, π, H, by omega, upM_eq, upM_eq, fun i hi => ?_, h5, fun i hi => absurd hi (Nat.not_lt_zero i)⟩
        rw [rA 139 (by omega) (by omega)]
        exact h4 i hi
      have hS' : RelS (upM A 138 6 0) (upM B 0 6 0) := hS.cg (fun a w1 w2 => rA a (by omega) (by omega)) (by rw [upM_ne (by omega), a2 138 (by omega)]) (rA 140 (by omega) (by omega)) (rB 5 (by decide) (by decide)) (rB 6 (by decide) (by decide))
      have hT' : RelT (upM A 138 6 0) (upM B 0 6 0) := hT.cg (by rw [rA 136 (by omega) (by omega)]) (rA 137 (by omega) (by omega)) (rB0 8 (by decide)) (rB 7 (by decide) (by decide))
      obtain ⟨C, c1, c2, c3⟩ := Rel.fin g1 (a3.cg (fun a _ q => upM_row (by omega))) hMB ((rB0 28 (by decide)).trans h28) hH' hS' hT'
      refine ⟨nI (S s 7), C, upM B 0 6 0, ?_, ?_, c2⟩
      · rw [if_neg (fun z => by rw [bit_0 (by omega) (by omega), e] at z; cases z), t1, nI_clamp (by omega), gLt_of (by omega), a1, bnd_some, lt1_eq, c1, bnd_some, c3 0 (by omega), upM_row (by decide), a3.2.2.1]
      · have h17 : upM B 0 6 0 1 7 = nI (S s 7) := hMB.1 7 (by decide)
        rw [if_neg (show ¬ bI true = 0 by decide), show (302 : Int32) = nI 302 from rfl, pk_mul, show (0 : Int32) = nI 0 from rfl, b1, bnd_some, lt1_eq]
        exact congrArg (fun y => some (y, upM B 0 6 (nI 0))) h17
/-- an act that remembers and then changes the play: from the change on -/
theorem act_fin {R R' : Nat → Nat} {Mc Mm : Mem} (h : Rel Mc Mm) (hP0 : RelP R Mc Mm) : ∃ Mc1 Mm1, f_MC_remember Mc = some Mc1 ∧ f_MM_keepsPast Mm = some Mm1 ∧ (∀ a, a < 8 → Mc1 a = Mc a) ∧ Mm1 1 = Mm 1 ∧ (∀ b, b ≠ 6 → Mm1 0 b = Mm 0 b) ∧ ∀ Mc2 Mm2, (∀ a, 8 ≤ a → Mc2 a = Mc1 a) → (∀ a, a ≠ 1 → a ≠ 8 → Mm2 a = Mm1 a) → PV R' → PC R' Mc2 0 → PM R' (Mm2 1) → ∃ Mc3, f_MC_replay Mc2 = some Mc3 ∧ Rel Mc3 Mm2 ∧ ∀ a, ¬ (112 ≤ a ∧ a ≤ 123) → Mc3 a = Mc2 a := by
  obtain ⟨-, hH, hS, hT⟩ := h
  obtain ⟨hV, hP, hM, hC, h28, hk⟩ := hP0
  obtain ⟨Mc1, Mm1, r1, r2, r3, r4, r5, r6, r7⟩ := rem_sp hV hP hM hH
  refine ⟨Mc1, Mm1, r1, r2, fun a ha => r4 a (by omega) (by omega) (by omega), r6 1 (by decide) (by decide), r7, fun Mc2 Mm2 e1 e2 hV' hP' hM' => ?_⟩
  refine Rel.fin hV' hP' hM' ?_ (r3.cg (fun a _ _ => e1 a (by omega)) (by rw [e1 138 (by decide)]) (e1 139 (by decide)) (by rw [e2 0 (by decide) (by decide)]) (e2 4 (by decide) (by decide))) (hS.cg (fun a w1 w2 => (e1 a (by omega)).trans (r4 a (by omega) (by omega) (by omega))) (by rw [e1 138 (by decide), r5 7 (by decide)]) ((e1 140 (by decide)).trans (r4 140 (by omega) (by omega) (by omega))) ((e2 5 (by decide) (by decide)).trans (r6 5 (by decide) (by decide))) ((e2 6 (by decide) (by decide)).trans (r6 6 (by decide) (by decide)))) (hT.cg (by rw [e1 136 (by decide), r4 136 (by omega) (by omega) (by omega)]) ((e1 137 (by decide)).trans (r4 137 (by omega) (by omega) (by omega))) (by rw [e2 0 (by decide) (by decide), r7 8 (by decide)]) ((e2 7 (by decide) (by decide)).trans (r6 7 (by decide) (by decide))))
  rw [e2 0 (by decide) (by decide), r7 28 (by decide)]
  exact h28
