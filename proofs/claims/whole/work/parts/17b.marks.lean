/-! the reference sets decisions and the play aside -/
/-- rows that an asking of what would be leaves alone -/
def FrW (M M' : Mem) : Prop := (∀ a, a = 2 ∨ (4 ≤ a ∧ a ≤ 7) → M' a = M a) ∧ ∀ b, b ≠ 21 → b ≠ 25 → b ≠ 26 → (b < 28 ∨ 31 < b) → M' 0 b = M 0 b
theorem M_marksD {R : Nat → Nat} {Mc Mm : Mem} (h : RelP R Mc Mm) : ∃ N, f_MM_marksDecisions Mm = some N ∧ (∀ p, p < R 0 → N 20 p = nI (dcN R (NQ R) p)) ∧ (∀ b, b < 302 → N 3 b = Mm 1 b) ∧ N 1 = Mm 1 ∧ FrW Mm N ∧ N 0 28 = -1 := by
  obtain ⟨A, n1, n2, n3, n4, n5⟩ := RelP.run h
  have hV := h.1
  have hn := pv_n hV
  have hR3 := hV.2.2.2.1
  unfold f_MM_marksDecisions
  rw [n1, bnd_some]
  unfold f_MM_marksDecisions_J6
  rw [bnd_id]
  unfold f_MM_marksDecisions_W6
  suffices hh : ∃ N, loop (fun t => f_MM_marksDecisions_L6 t.1 t.2) ((fun (i : Nat) (s : Mem) => (nI i, s)) 0 A) = some N ∧ ((∀ p, p < R 0 → N 20 p = nI (dcN R (NQ R) p)) ∧ (∀ b, b < 302 → N 3 b = A 1 b) ∧ ∀ a, a ≠ 3 → a ≠ 20 → N a = A a) by
    obtain ⟨N, q1, q2, q3, q4⟩ := hh
    have e1 : A 1 = Mm 1 := n3.1 1 (by decide) (by decide)
    refine ⟨N, q1, q2, fun b hb => by rw [q3 b hb, e1], by rw [q4 1 (by decide) (by decide), e1], ⟨fun a ha => by rw [q4 a (by omega) (by omega), n3.1 a (by omega) (by omega)], fun b h1 h2 h3 _ => by rw [q4 0 (by decide) (by decide), n3.2 b h1 h2 h3]⟩, ?_⟩
    rw [q4 0 (by decide) (by decide), n3.2 28 (by decide) (by decide) (by decide)]
    exact h.2.2.2.2.1
  refine loop_enc (fun i s => (nI i, s)) (R 0) (fun i N => (∀ p, p < i → N 20 p = nI (dcN R (NQ R) p)) ∧ ∀ a, a ≠ 20 → N a = A a) _ ?_ ?_ 0 A (Nat.zero_le _) ⟨fun k hk => absurd hk (Nat.not_lt_zero k), fun _ _ => rfl⟩
  · rintro i N hi ⟨g1, g2⟩
    have hM : PM R (N 1) := by rw [g2 1 (by decide)]; exact n5.1
    have hQ : RM (NQ R) N := by
      unfold RM RMl at n2 ⊢
      simp (disch := omega) only [g2]
      exact n2
    have h10 : N 1 0 = nI (R 0) := hM.1 0 (by decide)
    refine Or.inl ⟨upM N 20 i (nI (dcN R (NQ R) i)), ?_, fun p hp => ?_, fun a ha => (upM_row ha).trans (g2 a ha)⟩
    · show f_MM_marksDecisions_L6 (nI i) N = _
      unfold f_MM_marksDecisions_L6
      rw [h10, if_neg (nI_ge hi (by omega)), M_decisionOf hV hM hQ (by omega) ((NQ_inv hV).n9 (by omega)), bnd_some, gIn_nI (by omega) (by decide), nI_clamp (by omega), lt1_eq, ← nI_succ]
    · by_cases e : p = i
      · subst e; exact upM_eq
      · exact (upM_ne (by omega)).trans (g1 p (by omega))
  · rintro N ⟨g1, g2⟩
    have h10 : N 1 0 = nI (R 0) := by rw [g2 1 (by decide)]; exact n5.1.1 0 (by decide)
    obtain ⟨B, b1, b2, b3, b4⟩ := M_moves (M := N) (a0 := 1) (n0 := 302) (a2 := 3) (n2 := 302) (p := 0) (q := 0) (by decide) (by decide) (by decide) (by decide) (by decide)
    refine ⟨B, ?_, fun p hp => by rw [b2 20 (by decide)]; exact g1 p hp, fun b hb => ?_, fun a h3 h20 => by rw [b2 a h3, g2 a h20]⟩
    · show f_MM_marksDecisions_L6 (nI (R 0)) N = _
      unfold f_MM_marksDecisions_L6
      rw [h10, if_pos ((nI_leI (by omega) (by omega)).mpr (Nat.le_refl _)), show (0 : Int32) = nI 0 from rfl, b1, bnd_some]
    · have := b3 b hb
      rw [Nat.zero_add] at this
      rw [this, g2 1 (by decide)]
