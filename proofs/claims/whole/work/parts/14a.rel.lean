/-! THE TWO PROGRAMS, WHOLE: what is alike between askings -/
def RelH (Mc Mm : Mem) : Prop := ∃ (pc : Nat) (π : Nat → Nat) (H : Nat → Nat → Nat), pc ≤ 10 ∧ Mc 138 6 = nI pc ∧ Mm 0 6 = nI pc ∧ (∀ i, i < 10 → 2 ≤ π i ∧ π i ≤ 11 ∧ Mc 139 i = nI (π i)) ∧ (∀ i j, i < j → j < 10 → π i ≠ π j) ∧ ∀ i, i < pc → PV (H i) ∧ PC (H i) Mc (8 * π i) ∧ PM (H i) (fun b => Mm 4 (302 * i + b))
def RelS (Mc Mm : Mem) : Prop := ∃ (sh : Nat) (S : Nat → Nat → Nat), sh < 4 ∧ Mc 138 7 = nI sh ∧ ∀ s, s < 2 → Mc 140 s = nI (12 + s) ∧ Mm 6 s = bI (sh.testBit s) ∧ (sh.testBit s = true → PV (S s) ∧ PC (S s) Mc (8 * (12 + s)) ∧ PM (S s) (fun b => Mm 5 (302 * s + b)))
/-- a byte as the reference keeps it -/
def sbI (b : Nat) : Int32 := if b < 128 then nI b else nI b - 256
def RelT (Mc Mm : Mem) : Prop := ∃ (tl : Nat) (B : Nat → Nat), tl ≤ 400 ∧ Mc 136 2 = nI tl ∧ Mm 0 8 = nI tl ∧ ∀ i, i < tl → B i < 256 ∧ Mc 137 i = nI (B i) ∧ Mm 7 i = sbI (B i)
def Rel (Mc Mm : Mem) : Prop := (∃ R, RelP R Mc Mm) ∧ RelH Mc Mm ∧ RelS Mc Mm ∧ RelT Mc Mm
theorem PC.cg {R : Nat → Nat} {M M' : Mem} {b : Nat} (h : PC R M b) (e : ∀ a, b ≤ a → a < b + 8 → M' a = M a) : PC R M' b := by
  unfold PC at h ⊢
  rw [e b (by omega) (by omega), e (b + 1) (by omega) (by omega), e (b + 2) (by omega) (by omega), e (b + 3) (by omega) (by omega), e (b + 4) (by omega) (by omega), e (b + 5) (by omega) (by omega), e (b + 6) (by omega) (by omega), e (b + 7) (by omega) (by omega)]
  exact h
theorem RC.cg {k r sr : Nat} {Q : Tab} {M M' : Mem} (h : RC k r sr Q M) (e : ∀ a, k ≤ a → a < k + 12 → M' a = M a) : RC k r sr Q M' := by
  unfold RC RCl RCc at h ⊢
  rw [e k (by omega) (by omega), e (k + 2) (by omega) (by omega), e (k + 3) (by omega) (by omega), e (k + 4) (by omega) (by omega), e (k + 5) (by omega) (by omega), e (k + 6) (by omega) (by omega), e (k + 7) (by omega) (by omega), e (k + 8) (by omega) (by omega), e (k + 9) (by omega) (by omega), e (k + 10) (by omega) (by omega), e (k + 11) (by omega) (by omega)]
  exact h
theorem RelH.cg {Mc Mm Mc' Mm' : Mem} (h : RelH Mc Mm) (e : ∀ a, 16 ≤ a → a < 96 → Mc' a = Mc a) (e8 : Mc' 138 6 = Mc 138 6) (e9 : Mc' 139 = Mc 139) (e6 : Mm' 0 6 = Mm 0 6) (e4 : Mm' 4 = Mm 4) : RelH Mc' Mm' := by
  obtain ⟨pc, π, H, h1, h2, h3, h4, h5, h6⟩ := h
  refine ⟨pc, π, H, h1, e8.trans h2, e6.trans h3, fun i hi => ?_, h5, fun i hi => ?_⟩
  · rw [e9]
    exact h4 i hi
  · obtain ⟨a, b, c⟩ := h6 i hi
    have := h4 i (by omega)
    refine ⟨a, b.cg (fun a q1 q2 => e a (by omega) (by omega)), ?_⟩
    rw [e4]
    exact c
theorem RelS.cg {Mc Mm Mc' Mm' : Mem} (h : RelS Mc Mm) (e : ∀ a, 96 ≤ a → a < 112 → Mc' a = Mc a) (e8 : Mc' 138 7 = Mc 138 7) (e9 : Mc' 140 = Mc 140) (e5 : Mm' 5 = Mm 5) (e6 : Mm' 6 = Mm 6) : RelS Mc' Mm' := by
  obtain ⟨sh, S, h1, h2, h3⟩ := h
  refine ⟨sh, S, h1, e8.trans h2, fun s hs => ?_⟩
  obtain ⟨a, b, c⟩ := h3 s hs
  rw [e9, e6, e5]
  refine ⟨a, b, fun w => ?_⟩
  obtain ⟨c1, c2, c3⟩ := c w
  exact ⟨c1, c2.cg (fun a q1 q2 => e a (by omega) (by omega)), c3⟩
theorem RelT.cg {Mc Mm Mc' Mm' : Mem} (h : RelT Mc Mm) (e6 : Mc' 136 2 = Mc 136 2) (e7 : Mc' 137 = Mc 137) (e8 : Mm' 0 8 = Mm 0 8) (em : Mm' 7 = Mm 7) : RelT Mc' Mm' := by
  unfold RelT at h ⊢
  rw [e6, e7, e8, em]
  exact h
theorem RelP.cg {R : Nat → Nat} {Mc Mm Mc' Mm' : Mem} (h : RelP R Mc Mm) (e : ∀ a, a < 8 → Mc' a = Mc a) (e2 : ∀ a, 112 ≤ a → a < 124 → Mc' a = Mc a) (e1 : PM R (Mm' 1)) (e8 : Mm' 0 28 = -1) : RelP R Mc' Mm' := by
  obtain ⟨hV, hP, hM, hC, h28, hk⟩ := h
  refine ⟨hV, hP.cg (fun a _ q => e a (by omega)), e1, hC.cg (fun a q1 q2 => e2 a q1 q2), e8, ?_⟩
  rw [e2 112 (by omega) (by omega)]
  exact hk
/-- behind an asking that only played -/
theorem Rel.ask {Mc Mm Mm' : Mem} (h : Rel Mc Mm) (hf : FrN Mm Mm') : Rel Mc Mm' := by
  obtain ⟨⟨R, h1⟩, h2, h3, h4⟩ := h
  refine ⟨⟨R, h1.cg (fun _ _ => rfl) (fun _ _ _ => rfl) ?_ ?_⟩, h2.cg (fun _ _ _ => rfl) rfl rfl (hf.2 6 (by decide) (by decide) (by decide)) (hf.1 4 (by decide) (by decide)), h3.cg (fun _ _ _ => rfl) rfl rfl (hf.1 5 (by decide) (by decide)) (hf.1 6 (by decide) (by decide)), h4.cg rfl rfl (hf.2 8 (by decide) (by decide) (by decide)) (hf.1 7 (by decide) (by decide))⟩
  · rw [hf.1 1 (by decide) (by decide)]
    exact h1.2.2.1
  · rw [hf.2 28 (by decide) (by decide) (by decide)]
    exact h1.2.2.2.2.1
/-- behind a change: the class plays its play again -/
theorem Rel.fin {R : Nat → Nat} {Mc Mm : Mem} (hV : PV R) (hP : PC R Mc 0) (hM : PM R (Mm 1)) (h28 : Mm 0 28 = -1) (hH : RelH Mc Mm) (hS : RelS Mc Mm) (hT : RelT Mc Mm) : ∃ Mc', f_MC_replay Mc = some Mc' ∧ Rel Mc' Mm ∧ ∀ a, ¬ (112 ≤ a ∧ a ≤ 123) → Mc' a = Mc a := by
  obtain ⟨Mc', a1, a2, a3, a4⟩ := C_replay hV hP
  refine ⟨Mc', a1, ⟨⟨R, hV, hP.cg (fun a _ q => a2 a (by omega)), hM, a3, h28, a4⟩, hH.cg (fun a q1 q2 => a2 a (by omega)) ?_ (a2 _ (by omega)) rfl rfl, hS.cg (fun a q1 q2 => a2 a (by omega)) ?_ (a2 _ (by omega)) rfl rfl, hT.cg ?_ (a2 _ (by omega)) rfl rfl⟩, a2⟩
  · rw [a2 138 (by omega)]
  · rw [a2 138 (by omega)]
  · rw [a2 136 (by omega)]
/-- an act: both answer alike, and stay alike -/
def Act (a b : Option (Int32 × Mem)) : Prop := ∃ v Mc' Mm', a = some (v, Mc') ∧ b = some (v, Mm') ∧ Rel Mc' Mm'
theorem Act.no {Mc Mm : Mem} {v : Int32} {a b : Option (Int32 × Mem)} (h : Rel Mc Mm) (ha : a = some (v, Mc)) (hb : b = some (v, Mm)) : Act a b := ⟨v, Mc, Mm, ha, hb, h⟩
theorem C_become {R : Nat → Nat} {M : Mem} {k a : Nat} (hV : PV R) (hP : PC R M a) (hd : k + 8 ≤ a ∨ a + 8 ≤ k) : ∃ M', f_Play_become k a M = some M' ∧ (∀ b, ¬ (k ≤ b ∧ b < k + 8) → M' b = M b) ∧ PC R M' k ∧ ∀ i, i < 5 → M' k i = M a i := by
  have h7 := hV.2.2.2.2.2.2.2.2.1
  have h8 := hV.2.2.2.2.2.2.2.2.2.1
  have h9 := hV.2.2.2.2.2.2.2.2.2.2.1
  unfold f_Play_become
  simp only [lt1_eq]
  refine ⟨_, rfl, fun b hb => ?_, ?_, fun i hi => ?_⟩
  · simp (disch := omega) only [cpM_row, upM_row]
  · obtain ⟨p0, p1, p2, p3, p4, p5, p6, p7, p8⟩ := hP
    refine ⟨?_, ?_, ?_, ?_, ?_, fun i hi => ?_, fun l hl => ?_, fun l hl => ?_, fun l hl => ?_⟩
    · simp (disch := omega) only [cpM_row, upM_row, upM_ne, upM_eq]
      exact p0
    · simp (disch := omega) only [cpM_row, upM_row, upM_ne, upM_eq]
      exact p1
    · simp (disch := omega) only [cpM_row, upM_row, upM_ne, upM_eq]
      exact p2
    · simp (disch := omega) only [cpM_row, upM_row, upM_ne, upM_eq]
      exact p3
    · simp (disch := omega) only [cpM_row, upM_row, upM_ne, upM_eq]
      exact p4
    · simp (disch := omega) only [cpM_row, upM_row]
      rw [cpM_get, if_pos ⟨rfl, by omega, by omega⟩]
      simp (disch := omega) only [cpM_row, upM_row]
      rw [show 0 + (i - 0) = i by omega]
      exact p5 i hi
    · obtain ⟨a1, a2, a3⟩ := p6 l hl
      refine ⟨?_, ?_, ?_⟩
      · simp (disch := omega) only [cpM_row, upM_row]
        rw [cpM_get, if_pos ⟨rfl, by omega, by omega⟩]
        simp (disch := omega) only [cpM_row, upM_row]
        rw [show 0 + (l - 0) = l by omega]
        exact a1
      · simp (disch := omega) only [cpM_row, upM_row]
        rw [cpM_get, if_pos ⟨rfl, by omega, by omega⟩]
        simp (disch := omega) only [cpM_row, upM_row]
        rw [show 0 + (l - 0) = l by omega]
        exact a2
      · simp (disch := omega) only [cpM_row, upM_row]
        rw [cpM_get, if_pos ⟨rfl, by omega, by omega⟩]
        simp (disch := omega) only [cpM_row, upM_row]
        rw [show 0 + (l - 0) = l by omega]
        exact a3
    · simp (disch := omega) only [cpM_row, upM_row]
      rw [cpM_get, if_pos ⟨rfl, by omega, by omega⟩]
      simp (disch := omega) only [cpM_row, upM_row]
      rw [show 0 + (l - 0) = l by omega]
      exact p7 l hl
    · obtain ⟨a1, a2⟩ := p8 l hl
      refine ⟨?_, ?_⟩
      · simp (disch := omega) only [cpM_row, upM_row]
        rw [cpM_get, if_pos ⟨rfl, by omega, by omega⟩]
        simp (disch := omega) only [cpM_row, upM_row]
        rw [show 0 + (l - 0) = l by omega]
        exact a1
      · rw [cpM_get, if_pos ⟨rfl, by omega, by omega⟩]
        simp (disch := omega) only [cpM_row, upM_row]
        rw [show 0 + (l - 0) = l by omega]
        exact a2
  · rcases (show i = 0 ∨ i = 1 ∨ i = 2 ∨ i = 3 ∨ i = 4 by omega) with rfl | rfl | rfl | rfl | rfl <;> simp (disch := omega) only [cpM_row, upM_row, upM_ne, upM_eq]
/-- 302 places of one row to another row -/
theorem M_moves {M : Mem} {a0 n0 a2 n2 p q : Nat} (hne : a0 ≠ a2) (h0 : p + 302 ≤ n0) (h2 : q + 302 ≤ n2) (hn0 : n0 < 2 ^ 31) (hn2 : n2 < 2 ^ 31) : ∃ M', f_MM_moves a0 n0 a2 n2 M (nI p) (nI q) = some M' ∧ (∀ a, a ≠ a2 → M' a = M a) ∧ (∀ b, b < 302 → M' a2 (q + b) = M a0 (p + b)) ∧ ∀ c, (c < q ∨ q + 302 ≤ c) → M' a2 c = M a2 c := by
  unfold f_MM_moves f_MM_moves_J3
  rw [bnd_id]
  unfold f_MM_moves_W3
  refine loop_enc (fun i s => (nI i, s)) 302 (fun i N => (∀ a, a ≠ a2 → N a = M a) ∧ (∀ b, b < i → N a2 (q + b) = M a0 (p + b)) ∧ ∀ c, (c < q ∨ q + i ≤ c) → N a2 c = M a2 c) _ ?_ ?_ 0 M (Nat.zero_le _) ⟨fun _ _ => rfl, fun b hb => absurd hb (Nat.not_lt_zero b), fun _ _ => rfl⟩
  · rintro i N hi ⟨g1, g2, g3⟩
    refine Or.inl ⟨upM N a2 (q + i) (M a0 (p + i)), ?_, fun a ha => (upM_row ha).trans (g1 a ha), fun b hb => ?_, fun c hc => ?_⟩
    · show f_MM_moves_L3 a0 n0 a2 n2 (nI p) (nI q) (nI i) N = _
      unfold f_MM_moves_L3
      rw [show (302 : Int32) = nI 302 from rfl, if_neg (nI_ge hi (by decide)), nI_add, nI_add, gIn_nI (by omega) (by omega), gIn_nI (by omega) (by omega), nI_clamp (by omega), nI_clamp (by omega), lt1_eq, g1 a0 hne, ← nI_succ]
    · by_cases e : b = i
      · subst e; exact upM_eq
      · exact (upM_ne (by omega)).trans (g2 b (by omega))
    · exact (upM_ne (by omega)).trans (g3 c (by omega))
  · rintro N ⟨g1, g2, g3⟩
    refine ⟨N, ?_, g1, g2, g3⟩
    show f_MM_moves_L3 a0 n0 a2 n2 (nI p) (nI q) (nI 302) N = _
    unfold f_MM_moves_L3
    rw [show (302 : Int32) = nI 302 from rfl, if_pos ((nI_leI (by decide) (by decide)).mpr (Nat.le_refl _))]
theorem PM.cg {R : Nat → Nat} {r r' : Nat → Int32} (hV : PV R) (h : PM R r) (e : ∀ b, b < 302 → r' b = r b) : PM R r' := by
  have h7 := hV.2.2.2.2.2.2.2.2.1
  have h8 := hV.2.2.2.2.2.2.2.2.2.1
  have h9 := hV.2.2.2.2.2.2.2.2.2.2.1
  refine ⟨fun i hi => (e i (by omega)).trans (h.1 i hi), fun l i hl hi => ?_, fun l i hl hi => (e _ (by omega)).trans (h.2.2.1 l i hl hi), fun l i hl hi => (e _ (by omega)).trans (h.2.2.2 l i hl hi)⟩
  obtain ⟨p0, p0', p1, p2, p3, p4, p4', pm, pd⟩ := plR_ok hV l hl
  have : R (10 + 13 * l + 4) ≤ 8 := p4'
  exact (e _ (by omega)).trans (h.2.1 l i hl hi)
