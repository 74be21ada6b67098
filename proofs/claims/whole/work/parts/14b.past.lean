/-! remembering; undo, keep, back -/
theorem C_forget {M : Mem} {π : Nat → Nat} (hπ : ∀ i, i < 10 → 2 ≤ π i ∧ π i ≤ 11 ∧ M 139 i = nI (π i)) : ∃ M', f_MC_forgetOldest M = some M' ∧ (∀ a, a ≠ 138 → a ≠ 139 → M' a = M a) ∧ (∀ b, b ≠ 6 → M' 138 b = M 138 b) ∧ M' 138 6 = nI 9 ∧ (∀ i, i < 9 → M' 139 i = nI (π (i + 1))) ∧ M' 139 9 = nI (π 0) := by
  unfold f_MC_forgetOldest f_MC_forgetOldest_J9
  rw [bnd_id, (hπ 0 (by decide)).2.2]
  unfold f_MC_forgetOldest_W9
  have h0 := hπ 0 (by decide)
  suffices hh : ∃ M', loop (fun t => f_MC_forgetOldest_L9 (nI (π 0)) t.1 t.2) ((fun (i : Nat) (s : Mem) => (nI (i + 1), s)) 0 M) = some M' ∧ ((∀ a, a ≠ 138 → a ≠ 139 → M' a = M a) ∧ (∀ b, b ≠ 6 → M' 138 b = M 138 b) ∧ M' 138 6 = nI 9 ∧ (∀ i, i < 9 → M' 139 i = nI (π (i + 1))) ∧ M' 139 9 = nI (π 0)) by
    exact hh
  refine loop_enc (fun i s => (nI (i + 1), s)) 9 (fun i N => (∀ a, a ≠ 139 → N a = M a) ∧ (∀ j, j < i → N 139 j = nI (π (j + 1))) ∧ ∀ j, i ≤ j → N 139 j = M 139 j) _ ?_ ?_ 0 M (Nat.zero_le _) ⟨fun _ _ => rfl, fun b hb => absurd hb (Nat.not_lt_zero b), fun _ _ => rfl⟩
  · rintro i N hi ⟨g1, g2, g3⟩
    obtain ⟨q1, q2, q3⟩ := hπ (i + 1) (by omega)
    have e : N 139 (i + 1) = nI (π (i + 1)) := (g3 (i + 1) (by omega)).trans q3
    refine Or.inl ⟨upM N 139 i (nI (π (i + 1))), ?_, fun a ha => (upM_row ha).trans (g1 a ha), fun j hj => ?_, fun j hj => (upM_ne (by omega)).trans (g3 j (by omega))⟩
    · show f_MC_forgetOldest_L9 (nI (π 0)) (nI (i + 1)) N = _
      unfold f_MC_forgetOldest_L9
      rw [j10, if_neg (nI_ge (by omega) (by decide)), gIn_nI (by omega) (by decide), j1, pk_sub (by omega), Nat.add_sub_cancel, gIn_nI (by omega) (by decide), nI_clamp (show i + 1 < 2 ^ 31 by omega), e, nI_clamp (show π (i + 1) < 2 ^ 31 by omega), gLt_of (by omega), lt1_eq, nI_clamp (show i < 2 ^ 31 by omega), nI_add]
    · by_cases w : j = i
      · subst w; exact upM_eq
      · exact (upM_ne (by omega)).trans (g2 j (by omega))
  · rintro N ⟨g1, g2, g3⟩
    refine ⟨upM (upM N 139 9 (nI (π 0))) 138 6 9, ?_, fun a h1 h2 => ?_, fun b hb => ?_, upM_eq, fun i hi => ?_, ?_⟩
    · show f_MC_forgetOldest_L9 (nI (π 0)) (nI (9 + 1)) N = _
      unfold f_MC_forgetOldest_L9
      rw [if_pos (show (10 : Int32) ≤ nI (9 + 1) by decide), nI_clamp (by omega), gLt_of (by omega), lt1_eq, lt1_eq]
    · rw [upM_row h1, upM_row h2, g1 a h2]
    · rw [upM_ne (by omega), upM_row (by decide), g1 138 (by decide)]
    · rw [upM_row (by decide), upM_ne (by omega), g2 i hi]
    · rw [upM_row (by decide), upM_eq]
theorem M_shift {M : Mem} : ∃ M', f_MM_keepsPast_W13 ((302 : Int32), M) = some M' ∧ (∀ a, a ≠ 4 → M' a = M a) ∧ ∀ c, c < 2718 → M' 4 c = M 4 (302 + c) := by
  unfold f_MM_keepsPast_W13
  suffices hh : ∃ M', loop (fun t => f_MM_keepsPast_L13 t.1 t.2) ((fun (i : Nat) (s : Mem) => (nI (302 + i), s)) 0 M) = some M' ∧ ((∀ a, a ≠ 4 → M' a = M a) ∧ ∀ c, c < 2718 → M' 4 c = M 4 (302 + c)) by
    exact hh
  refine loop_enc (fun i s => (nI (302 + i), s)) 2718 (fun i N => (∀ a, a ≠ 4 → N a = M a) ∧ (∀ c, c < i → N 4 c = M 4 (302 + c)) ∧ ∀ c, i ≤ c → N 4 c = M 4 c) _ ?_ ?_ 0 M (Nat.zero_le _) ⟨fun _ _ => rfl, fun b hb => absurd hb (Nat.not_lt_zero b), fun _ _ => rfl⟩
  · rintro i N hi ⟨g1, g2, g3⟩
    refine Or.inl ⟨upM N 4 i (M 4 (302 + i)), ?_, fun a ha => (upM_row ha).trans (g1 a ha), fun j hj => ?_, fun j hj => (upM_ne (by omega)).trans (g3 j (by omega))⟩
    · show f_MM_keepsPast_L13 (nI (302 + i)) N = _
      unfold f_MM_keepsPast_L13
      rw [show (3020 : Int32) = nI 3020 from rfl, show (302 : Int32) = nI 302 from rfl, if_neg (nI_ge (by omega) (by decide)), gIn_nI (by omega) (by decide), pk_sub (by omega), Nat.add_sub_cancel_left, gIn_nI (by omega) (by decide), nI_clamp (show 302 + i < 2 ^ 31 by omega), nI_clamp (show i < 2 ^ 31 by omega), lt1_eq, g3 (302 + i) (by omega), ← nI_succ]
      rfl
    · by_cases w : j = i
      · subst w; exact upM_eq
      · exact (upM_ne (by omega)).trans (g2 j (by omega))
  · rintro N ⟨g1, g2, g3⟩
    refine ⟨N, ?_, g1, g2⟩
    show f_MM_keepsPast_L13 (nI (302 + 2718)) N = _
    unfold f_MM_keepsPast_L13
    rw [if_pos (show (3020 : Int32) ≤ nI (302 + 2718) by decide)]
set_option maxHeartbeats 1000000 in
/-- remembering, when there is room -/
theorem rem_room {R : Nat → Nat} {Mc Mm : Mem} (hV : PV R) (hP : PC R Mc 0) (hM : PM R (Mm 1)) {pc : Nat} {π : Nat → Nat} {H : Nat → Nat → Nat} (h1 : pc < 10) (h2 : Mc 138 6 = nI pc) (h3 : Mm 0 6 = nI pc) (h4 : ∀ i, i < 10 → 2 ≤ π i ∧ π i ≤ 11 ∧ Mc 139 i = nI (π i)) (h5 : ∀ i j, i < j → j < 10 → π i ≠ π j) (h6 : ∀ i, i < pc → PV (H i) ∧ PC (H i) Mc (8 * π i) ∧ PM (H i) (fun b => Mm 4 (302 * i + b))) : ∃ Mc' Mm', f_MC_remember_J13 Mc = some Mc' ∧ f_MM_keepsPast_J52 Mm = some Mm' ∧ RelH Mc' Mm' ∧ (∀ a, (a < 16 ∨ 96 ≤ a) → a ≠ 138 → Mc' a = Mc a) ∧ (∀ b, b ≠ 6 → Mc' 138 b = Mc 138 b) ∧ (∀ a, a ≠ 0 → a ≠ 4 → Mm' a = Mm a) ∧ ∀ b, b ≠ 6 → Mm' 0 b = Mm 0 b := by
  obtain ⟨q1, q2, q3⟩ := h4 pc h1
  obtain ⟨A, a1, a2, a3, a4⟩ := C_become (k := 8 * π pc) hV hP (by omega)
  obtain ⟨B, b1, b2, b3, b4⟩ := M_moves (M := Mm) (a0 := 1) (n0 := 302) (a2 := 4) (n2 := 3020) (p := 0) (q := 302 * pc) (by decide) (by decide) (by omega) (by decide) (by decide)
  have eA : A 138 6 = nI pc := by rw [a2 138 (by omega), h2]
  have eB : B 0 6 = nI pc := by rw [b2 0 (by decide), h3]
  refine ⟨upM A 138 6 (nI (pc + 1)), upM B 0 6 (nI (pc + 1)), ?_, ?_, ⟨pc + 1, π, fun i => if i = pc then R else H i, by omega, upM_eq, upM_eq, fun i hi => ?_, h5, fun i hi => ?_⟩, fun a ha h => ?_, fun b hb => ?_, fun a e0 e4 => ?_, fun b hb => ?_⟩
  · unfold f_MC_remember_J13
    rw [h2, gIn_nI (by omega) (by decide), nI_clamp (by omega), q3, nI_clamp (by omega), gLt_of (by omega), a1, bnd_some, lt1_eq, eA, ← nI_succ]
  · unfold f_MM_keepsPast_J52
    rw [h3, show (302 : Int32) = nI 302 from rfl, pk_mul, show (0 : Int32) = nI 0 from rfl, b1, bnd_some, lt1_eq, eB, ← nI_succ]
  · rw [upM_row (by decide), a2 139 (by omega)]
    exact h4 i hi
  · show PV (if i = pc then R else H i) ∧ PC (if i = pc then R else H i) (upM A 138 6 (nI (pc + 1))) (8 * π i) ∧ PM (if i = pc then R else H i) (fun b => upM B 0 6 (nI (pc + 1)) 4 (302 * i + b))
    by_cases e : i = pc
    · subst e
      rw [if_pos rfl]
      refine ⟨hV, a3.cg (fun a w1 w2 => upM_row (by omega)), ?_⟩
      refine hM.cg hV (fun b hb => ?_)
      show upM B 0 6 _ 4 (302 * i + b) = _
      rw [upM_row (by decide), b3 b hb, Nat.zero_add]
    · rw [if_neg e]
      obtain ⟨g1, g2, g3⟩ := h6 i (by omega)
      have hne : π i ≠ π pc := h5 i pc (by omega) h1
      have := h4 i (by omega)
      refine ⟨g1, g2.cg (fun a w1 w2 => by rw [upM_row (by omega), a2 a (by omega)]), ?_⟩
      refine g3.cg g1 (fun b hb => ?_)
      show upM B 0 6 _ 4 (302 * i + b) = _
      rw [upM_row (by decide), b4 _ (by omega)]
  · rw [upM_row h, a2 a (by omega)]
  · rw [upM_ne (by omega), a2 138 (by omega)]
  · rw [upM_row e0, b2 a e4]
  · rw [upM_ne (by omega), b2 0 (by decide)]
theorem rem_sp {R : Nat → Nat} {Mc Mm : Mem} (hV : PV R) (hP : PC R Mc 0) (hM : PM R (Mm 1)) (hH : RelH Mc Mm) : ∃ Mc' Mm', f_MC_remember Mc = some Mc' ∧ f_MM_keepsPast Mm = some Mm' ∧ RelH Mc' Mm' ∧ (∀ a, (a < 16 ∨ 96 ≤ a) → a ≠ 138 → a ≠ 139 → Mc' a = Mc a) ∧ (∀ b, b ≠ 6 → Mc' 138 b = Mc 138 b) ∧ (∀ a, a ≠ 0 → a ≠ 4 → Mm' a = Mm a) ∧ ∀ b, b ≠ 6 → Mm' 0 b = Mm 0 b := by
  obtain ⟨pc, π, H, h1, h2, h3, h4, h5, h6⟩ := hH
  unfold f_MC_remember f_MM_keepsPast
  rw [h2, h3, j10]
  by_cases w : pc < 10
  · obtain ⟨Mc', Mm', r1, r2, r3, r4, r5, r6, r7⟩ := rem_room hV hP hM w h2 h3 h4 h5 h6
    rw [if_pos (nI_lt w (by decide)), if_neg (fun z => by have := (nI_eq (by omega) (by decide)).mp z; omega)]
    exact ⟨Mc', Mm', r1, r2, r3, fun a ha e8 _ => r4 a ha e8, r5, r6, r7⟩
  · have e : pc = 10 := by omega
    subst e
    rw [if_neg (nI_nlt (by omega) (by decide)), if_pos rfl]
    obtain ⟨A, a1, a2, a3, a4, a5, a6⟩ := C_forget h4
    obtain ⟨B, b1, b2, b3⟩ := M_shift (M := Mm)
    have eB : B 0 6 = nI 10 := by rw [b2 0 (by decide), h3]
    have hPA : PC R A 0 := hP.cg (fun a _ q => a2 a (by omega) (by omega))
    have hMB : PM R (upM B 0 6 (nI 9) 1) := by
      rw [upM_row (by decide), b2 1 (by decide)]
      exact hM
    obtain ⟨Mc', Mm', r1, r2, r3, r4, r5, r6, r7⟩ := rem_room (Mc := A) (Mm := upM B 0 6 (nI 9)) (pc := 9) (π := fun i => if i = 9 then π 0 else π (i + 1)) (H := fun i => H (i + 1)) hV hPA hMB (by decide) a4 upM_eq (fun i hi => by
      by_cases e : i = 9
      · subst e
        rw [if_pos rfl]
        have := h4 0 (by decide)
        exact ⟨this.1, this.2.1, a6⟩
      · rw [if_neg e]
        have := h4 (i + 1) (by omega)
        exact ⟨this.1, this.2.1, a5 i (by omega)⟩) (fun i j hij hj => by
      rw [if_neg (show ¬ i = 9 by omega)]
      by_cases e : j = 9
      · rw [if_pos e]
        exact fun z => h5 0 (i + 1) (by omega) (by omega) z.symm
      · rw [if_neg e]
        exact h5 _ _ (by omega) (by omega)) (fun i hi => by
      rw [if_neg (show ¬ i = 9 by omega)]
      obtain ⟨g1, g2, g3⟩ := h6 (i + 1) (by omega)
      have := h4 (i + 1) (by omega)
      refine ⟨g1, g2.cg (fun a w1 w2 => a2 a (by omega) (by omega)), ?_⟩
      refine g3.cg g1 (fun b hb => ?_)
      show upM B 0 6 _ 4 (302 * i + b) = Mm 4 (302 * (i + 1) + b)
      rw [upM_row (by decide), b3 _ (by omega), show 302 + (302 * i + b) = 302 * (i + 1) + b by omega])
    refine ⟨Mc', Mm', ?_, ?_, r3, fun a ha e8 e9 => (r4 a ha e8).trans (a2 a e8 e9), fun b hb => (r5 b hb).trans (a3 b hb), fun a e0 e4 => ?_, fun b hb => ?_⟩
    · rw [a1, bnd_some, r1]
    · unfold f_MM_keepsPast_J13
      rw [b1, bnd_some, eB, j1, pk_sub (by decide), lt1_eq]
      exact r2
    · rw [r6 a e0 e4, upM_row e0, b2 a e4]
    · rw [r7 b hb, upM_ne (by omega), b2 0 (by decide)]
theorem RelP.R0 {Mc Mm : Mem} (h : Rel Mc Mm) : ∃ R, RelP R Mc Mm := h.1
theorem a_undo {Mc Mm : Mem} (h : Rel Mc Mm) : Act (f_MC_undo Mc) (f_MM_undo Mm) := by
  have hrel := h
  obtain ⟨⟨R, hV, hP, hM, hC, h28, hk⟩, ⟨pc, π, H, h1, h2, h3, h4, h5, h6⟩, hS, hT⟩ := h
  unfold f_MC_undo f_MM_undo
  rw [h2, h3]
  by_cases w : pc = 0
  · subst w
    exact Act.no hrel rfl rfl
  · have hp : 0 < nI pc := nI_lt (a := 0) (by omega) (by omega)
    obtain ⟨g1, g2, g3⟩ := h6 (pc - 1) (by omega)
    obtain ⟨q1, q2, q3⟩ := h4 (pc - 1) (by omega)
    obtain ⟨A, a1, a2, a3, a4⟩ := C_become (k := 0) (M := upM Mc 138 6 (nI (pc - 1))) g1 (g2.cg (fun a _ _ => upM_row (by omega))) (by omega)
    obtain ⟨B, b1, b2, b3, b4⟩ := M_moves (M := upM Mm 0 6 (nI (pc - 1))) (a0 := 4) (n0 := 3020) (a2 := 1) (n2 := 302) (p := 302 * (pc - 1)) (q := 0) (by decide) (by omega) (by decide) (by decide) (by decide)
    have hMB : PM (H (pc - 1)) (B 1) := g3.cg g1 (fun b hb => by
      have := b3 b hb
      rw [Nat.zero_add] at this
      rw [this, upM_row (by decide)])
    have rA : ∀ a, 8 ≤ a → a ≠ 138 → A a = Mc a := fun a e1 e2 => by rw [a2 a (by omega), upM_row e2]
    have rB : ∀ a, a ≠ 0 → a ≠ 1 → B a = Mm a := fun a e1 e2 => by rw [b2 a e2, upM_row e1]
    have rB0 : ∀ b, b ≠ 6 → B 0 b = Mm 0 b := fun b e => by rw [b2 0 (by decide), upM_ne (by omega)]
    have eA6 : A 138 6 = nI (pc - 1) := by rw [a2 138 (by omega), upM_eq]
    have eB6 : B 0 6 = nI (pc - 1) := by rw [b2 0 (by decide), upM_eq]
    have hH' : RelH A B := by
      refine ⟨pc - 1, π, H, by omega, eA6, eB6, fun i hi => ?_, h5, fun i hi => ?_⟩
      · rw [rA 139 (by omega) (by omega)]
        exact h4 i hi
      · obtain ⟨d1, d2, d3⟩ := h6 i (by omega)
        have := h4 i (by omega)
        refine ⟨d1, d2.cg (fun a w1 w2 => rA a (by omega) (by omega)), ?_⟩
        rw [rB 4 (by decide) (by decide)]
        exact d3
    have hS' : RelS A B := hS.cg (fun a w1 w2 => rA a (by omega) (by omega)) (by rw [a2 138 (by omega), upM_ne (by omega)]) (rA 140 (by omega) (by omega)) (rB 5 (by decide) (by decide)) (rB 6 (by decide) (by decide))
    have hT' : RelT A B := hT.cg (by rw [rA 136 (by omega) (by omega)]) (rA 137 (by omega) (by omega)) (rB0 8 (by decide)) (rB 7 (by decide) (by decide))
    obtain ⟨C, c1, c2, c3⟩ := Rel.fin g1 a3 hMB ((rB0 28 (by decide)).trans h28) hH' hS' hT'
    refine ⟨nI (pc - 1), C, B, ?_, ?_, c2⟩
    · rw [if_pos hp, j1, pk_sub (by omega), lt1_eq, upM_eq, gIn_nI (by omega) (by decide), nI_clamp (by omega), upM_row (by decide), q3, nI_clamp (by omega), gLt_of (by omega), a1, bnd_some, c1, bnd_some, c3 138 (by omega), eA6]
    · rw [if_neg (fun z => w ((nz (by omega)).mp z)), j1, pk_sub (by omega), lt1_eq, upM_eq, show (302 : Int32) = nI 302 from rfl, pk_mul, show (0 : Int32) = nI 0 from rfl, b1, bnd_some, eB6]
