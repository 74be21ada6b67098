/-! the set with fewest in it, and among these the least number -/
def bcN (x : Nat) : Nat := fb_ct (fun p => x.testBit p) 8
theorem bcN_6 : ∀ x, x < 64 → bcN x ≤ 6 := by decide +kernel
theorem bcN_I {x : Nat} (h : x < 256) : f_Int_bitCount (nI x) = nI (bcN x) := bc_256 x h
def okc (ok : Nat → Bool) (c x : Nat) : Bool := decide (bcN x = c) && ok x
def bsK (ok : Nat → Bool) (N : Nat) : Nat := fstN (fun c => anyB (okc ok c) N) 7
def bsA (ok : Nat → Bool) (N : Nat) : Int32 := if bsK ok N < 7 then nI (fstN (okc ok (bsK ok N)) N) else -2
theorem in_loop {ok : Nat → Bool} {N c : Nat} {I : Mem → Prop} {ib : Int32 × Mem → Option ((Int32 × Mem) ⊕ (Mem ⊕ (Int32 × Mem)))} (hs : ∀ x M, x < N → I M → ∃ M', I M' ∧ ib (nI x, M) = if bcN x = c then (if ok x = true then some (.inr (.inr (nI x, M'))) else some (.inl (nI (x + 1), M'))) else some (.inl (nI (x + 1), M))) (he : ∀ M, I M → ib (nI N, M) = some (.inr (.inl M))) {M0 : Mem} (h0 : I M0) : ∃ e, loop ib ((0 : Int32), M0) = some e ∧ ((anyB (okc ok c) N = false ∧ ∃ M', e = .inl M' ∧ I M') ∨ (anyB (okc ok c) N = true ∧ ∃ M', e = .inr (nI (fstN (okc ok c) N), M') ∧ I M')) := by
  suffices hh : ∃ e, loop ib ((fun (i : Nat) (s : Mem) => (nI i, s)) 0 M0) = some e ∧ ((anyB (okc ok c) N = false ∧ ∃ M', e = .inl M' ∧ I M') ∨ (anyB (okc ok c) N = true ∧ ∃ M', e = .inr (nI (fstN (okc ok c) N), M') ∧ I M')) from hh
  refine loop_enc (fun i s => (nI i, s)) N (fun i M => I M ∧ ∀ j, j < i → okc ok c j = false) _ ?_ ?_ 0 M0 (Nat.zero_le _) ⟨h0, fun j hj => absurd hj (Nat.not_lt_zero j)⟩
  · rintro i M hi ⟨g1, g2⟩
    obtain ⟨M', m1, m2⟩ := hs i M hi g1
    show (∃ s', ib (nI i, M) = some (.inl (nI (i + 1), s')) ∧ _) ∨ ∃ r', ib (nI i, M) = some (.inr r') ∧ _
    rw [m2]
    have ext : okc ok c i = false → ∀ j, j < i + 1 → okc ok c j = false := fun z j hj => by
      by_cases e : j = i
      · rw [e]; exact z
      · exact g2 j (by omega)
    by_cases w : bcN i = c
    · rw [if_pos w]
      cases e : ok i
      · left
        exact ⟨M', rfl, m1, ext (by unfold okc; rw [e, Bool.and_false])⟩
      · right
        have o : okc ok c i = true := by
          unfold okc
          rw [e, decide_eq_true w]
          rfl
        refine ⟨.inr (nI i, M'), rfl, Or.inr ⟨anyB_iff.mpr ⟨i, hi, o⟩, M', by rw [fstN_is hi o g2], m1⟩⟩
    · rw [if_neg w]
      left
      exact ⟨M, rfl, g1, ext (by unfold okc; rw [decide_eq_false w]; rfl)⟩
  · rintro M ⟨g1, g2⟩
    exact ⟨.inl M, he M g1, Or.inl ⟨anyB_f.mpr g2, M, rfl, g1⟩⟩
theorem out_loop {ok : Nat → Bool} {N : Nat} {I : Mem → Prop} {ob : Int32 × Mem → Option ((Int32 × Mem) ⊕ (Int32 × Mem))} (hs : ∀ c M, c < 7 → I M → ∃ M', I M' ∧ ob (nI c, M) = if anyB (okc ok c) N = true then some (.inr (nI (fstN (okc ok c) N), M')) else some (.inl (nI (c + 1), M'))) (he : ∀ M, I M → ob (nI 7, M) = some (.inr (-2, M))) {M0 : Mem} (h0 : I M0) : ∃ M', loop ob ((0 : Int32), M0) = some (bsA ok N, M') ∧ I M' := by
  suffices hh : ∃ e, loop ob ((fun (i : Nat) (s : Mem) => (nI i, s)) 0 M0) = some e ∧ e.1 = bsA ok N ∧ I e.2 by
    obtain ⟨e, e1, e2, e3⟩ := hh
    exact ⟨e.2, by rw [← e2]; exact e1, e3⟩
  refine loop_enc (fun i s => (nI i, s)) 7 (fun i M => I M ∧ ∀ j, j < i → anyB (okc ok j) N = false) _ ?_ ?_ 0 M0 (Nat.zero_le _) ⟨h0, fun j hj => absurd hj (Nat.not_lt_zero j)⟩
  · rintro i M hi ⟨g1, g2⟩
    obtain ⟨M', m1, m2⟩ := hs i M hi g1
    show (∃ s', ob (nI i, M) = some (.inl (nI (i + 1), s')) ∧ _) ∨ ∃ r', ob (nI i, M) = some (.inr r') ∧ _
    rw [m2]
    cases e : anyB (okc ok i) N
    · left
      refine ⟨M', rfl, m1, fun j hj => ?_⟩
      by_cases z : j = i
      · rw [z]; exact e
      · exact g2 j (by omega)
    · right
      have ek : bsK ok N = i := fstN_is (q := fun c => anyB (okc ok c) N) hi e g2
      refine ⟨_, rfl, ?_, m1⟩
      unfold bsA
      rw [ek, if_pos hi]
  · rintro M ⟨g1, g2⟩
    refine ⟨(-2, M), he M g1, ?_, g1⟩
    unfold bsA
    rw [if_neg (fun z => ?_)]
    rcases fstN_sp (fun c => anyB (okc ok c) N) 7 with ⟨h1, h2⟩ | ⟨h1, h2, h3⟩
    · unfold bsK at z
      omega
    · rw [g2 _ h1] at h2
      cases h2
/-- the best so far -/
def bsI (ok : Nat → Bool) (i : Nat) (x1 : Int32) : Prop := (x1 = -2 ∧ ∀ x, x < i → ok x = false) ∨ ∃ b, b < i ∧ x1 = nI b ∧ ok b = true ∧ ∀ x, x < i → ok x = true → bcN b < bcN x ∨ (bcN b = bcN x ∧ b ≤ x)
theorem bsI_end {ok : Nat → Bool} {N : Nat} (hN : N ≤ 64) {x1 : Int32} (h : bsI ok N x1) : x1 = bsA ok N := by
  unfold bsA
  rcases h with ⟨rfl, h⟩ | ⟨b, hb, rfl, hok, h⟩
  · rw [if_neg (fun z => ?_)]
    rcases fstN_sp (fun c => anyB (okc ok c) N) 7 with ⟨h1, h2⟩ | ⟨h1, h2, h3⟩
    · unfold bsK at z
      omega
    · obtain ⟨x, hx, hx2⟩ := anyB_iff.mp h2
      unfold okc at hx2
      rw [h x hx, Bool.and_false] at hx2
      cases hx2
  · have b6 := bcN_6 b (by omega)
    have ek : bsK ok N = bcN b := by
      refine fstN_is (q := fun c => anyB (okc ok c) N) (by omega) (anyB_iff.mpr ⟨b, hb, ?_⟩) (fun c hc => anyB_f.mpr (fun x hx => ?_))
      · unfold okc
        rw [hok, decide_eq_true rfl]
        rfl
      · unfold okc
        cases e : ok x
        · rw [Bool.and_false]
        · have := h x hx e
          rw [decide_eq_false (by omega)]
          rfl
    rw [ek, if_pos (by omega), fstN_is hb (show okc ok (bcN b) b = true by unfold okc; rw [hok, decide_eq_true rfl]; rfl) (fun x hx => ?_)]
    unfold okc
    cases e : ok x
    · rw [Bool.and_false]
    · have := h x (by omega) e
      rw [decide_eq_false (by omega)]
      rfl
theorem ref_loop {ok : Nat → Bool} {N : Nat} (hN : N ≤ 64) {I : Mem → Prop} {rb : Int32 × Int32 × Mem → Option ((Int32 × Int32 × Mem) ⊕ (Int32 × Mem))} (hs : ∀ x x1 M, x < N → I M → ∃ M', I M' ∧ rb (x1, nI x, M) = if x1 = -2 then some (.inl (if ok x = true then nI x else x1, nI (x + 1), M')) else if f_Int_bitCount (nI x) < f_Int_bitCount x1 then some (.inl (if ok x = true then nI x else x1, nI (x + 1), M')) else some (.inl (x1, nI (x + 1), M))) (he : ∀ x1 M, I M → rb (x1, nI N, M) = some (.inr (x1, M))) {M0 : Mem} (h0 : I M0) : ∃ M', loop rb ((-2 : Int32), (0 : Int32), M0) = some (bsA ok N, M') ∧ I M' := by
  suffices hh : ∃ e, loop rb ((fun (i : Nat) (s : Int32 × Mem) => (s.1, nI i, s.2)) 0 (-2, M0)) = some e ∧ e.1 = bsA ok N ∧ I e.2 by
    obtain ⟨e, e1, e2, e3⟩ := hh
    exact ⟨e.2, by rw [← e2]; exact e1, e3⟩
  refine loop_enc (fun i s => (s.1, nI i, s.2)) N (fun i (s : Int32 × Mem) => I s.2 ∧ bsI ok i s.1) _ ?_ ?_ 0 (-2, M0) (Nat.zero_le _) ⟨h0, Or.inl ⟨rfl, fun x hx => absurd hx (Nat.not_lt_zero x)⟩⟩
  · rintro i ⟨x1, M⟩ hi ⟨g1, g2⟩
    obtain ⟨M', m1, m2⟩ := hs i x1 M hi g1
    left
    show ∃ s' : Int32 × Mem, rb (x1, nI i, M) = some (.inl (s'.1, nI (i + 1), s'.2)) ∧ I s'.2 ∧ bsI ok (i + 1) s'.1
    have g2 : bsI ok i x1 := g2
    rw [m2]
    rcases g2 with ⟨rfl, g3⟩ | ⟨b, hb, rfl, hok, g3⟩
    · rw [if_pos rfl]
      refine ⟨(_, M'), rfl, m1, ?_⟩
      cases e : ok i
      · exact Or.inl ⟨rfl, fun x hx => by
          by_cases z : x = i
          · rw [z]; exact e
          · exact g3 x (by omega)⟩
      · refine Or.inr ⟨i, by omega, rfl, e, fun x hx hx2 => ?_⟩
        by_cases z : x = i
        · rw [z]; right; exact ⟨rfl, Nat.le_refl _⟩
        · rw [g3 x (by omega)] at hx2
          cases hx2
    · have nb : ¬ nI b = -2 := fun z => by
        have := congrArg Int32.toInt z
        rw [nI_toInt (by omega)] at this
        have e2 : (-2 : Int32).toInt = -2 := rfl
        omega
      have b6 := bcN_6 b (by omega)
      have i6 := bcN_6 i (by omega)
      rw [if_neg nb, bcN_I (by omega), bcN_I (by omega)]
      by_cases w : bcN i < bcN b
      · rw [if_pos (nI_lt w (by omega))]
        refine ⟨(_, M'), rfl, m1, ?_⟩
        cases e : ok i
        · refine Or.inr ⟨b, by omega, rfl, hok, fun x hx hx2 => ?_⟩
          by_cases z : x = i
          · rw [z, e] at hx2
            cases hx2
          · exact g3 x (by omega) hx2
        · refine Or.inr ⟨i, by omega, rfl, e, fun x hx hx2 => ?_⟩
          by_cases z : x = i
          · rw [z]; right; exact ⟨rfl, Nat.le_refl _⟩
          · have := g3 x (by omega) hx2
            omega
      · rw [if_neg (nI_nlt (by omega) (by omega))]
        refine ⟨(nI b, M), rfl, g1, Or.inr ⟨b, by omega, rfl, hok, fun x hx hx2 => ?_⟩⟩
        by_cases z : x = i
        · rw [z]; omega
        · exact g3 x (by omega) hx2
  · rintro ⟨x1, M⟩ ⟨g1, g2⟩
    exact ⟨(x1, M), he x1 M g1, bsI_end hN g2, g1⟩
