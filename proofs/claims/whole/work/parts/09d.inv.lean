/-! what holds all along a run: no mark of an honest party on a value that it hasn't extracted; at most 212 letters; at most eight marks -/
def sdH (R : Nat → Nat) : Prop := R 1 < R 0 ∧ lie R (R 1) = false
def LOK (R : Nat → Nat) (r : Nat) (Q : Tab) (i : Nat) : Prop := (1 ≤ Q (5 + i) 0 ∧ Q (5 + i) 0 ≤ r ∧ Q (5 + i) 1 < R 0 ∧ Q (5 + i) 2 < R 0 ∧ Q (5 + i) 3 < 4 ∧ 1 ≤ Q (5 + i) 4 ∧ Q (5 + i) 4 ≤ 8) ∧ (∀ j, j < Q (5 + i) 4 → Q (5 + i) (6 + j) < R 0 ∧ (lie R (Q (5 + i) (6 + j)) = false → Q 1 (4 * Q (5 + i) (6 + j) + Q (5 + i) 3) ≠ 99)) ∧ (∀ j e, j < e → e < Q (5 + i) 4 → Q (5 + i) (6 + j) ≠ Q (5 + i) (6 + e)) ∧ (Q (5 + i) 5 = 0 ∨ (Q (5 + i) 0 ≤ Q (5 + i) 5 ∧ Q (5 + i) 5 ≤ R 3)) ∧ (sdH R → (∃ j, j < Q (5 + i) 4 ∧ Q (5 + i) (6 + j) = R 1) → Q (5 + i) 3 = R 2)
def COK (R : Nat → Nat) (r : Nat) (Q : Tab) (c : Nat) : Prop := Q 3 c ≤ 1000 ∧ Q 2 c ≤ Q 0 0 ∧ (Q 2 c ≠ 0 ↔ 1 ≤ Q 1 c ∧ Q 1 c ≠ 99) ∧ (Q 1 c = 99 ∨ Q 1 c ≤ r) ∧ (Q 2 c ≠ 0 → Q (5 + (Q 2 c - 1)) 3 = c % 4 ∧ ∀ j, j < Q (5 + (Q 2 c - 1)) 4 → Q (5 + (Q 2 c - 1)) (6 + j) ≠ c / 4) ∧ (lie R (c / 4) = true ∨ R 0 ≤ c / 4 → Q 1 c = 99) ∧ (sdH R → Q 1 c ≠ 99 → c % 4 = R 2) ∧ (Q 1 c = 0 ↔ sdH R ∧ c = 4 * R 1 + R 2)
def UOK (R : Nat → Nat) (Q : Tab) (c : Nat) : Prop := (lie R (c / 4) = true → Q 3 c = 0) ∧ (lie R (c / 4) = false → (Q 3 c = 1000 ∨ ∃ i, i < Q 0 0 ∧ lie R (Q (5 + i) 2) = true ∧ Q (5 + i) 5 ≠ 0 ∧ Q 3 c = Q (5 + i) 5 + 1 ∧ Q (5 + i) 3 = c % 4 ∧ ∃ j, j < Q (5 + i) 4 ∧ Q (5 + i) (6 + j) = c / 4) ∧ ∀ i, i < Q 0 0 → lie R (Q (5 + i) 2) = true → Q (5 + i) 5 ≠ 0 → Q (5 + i) 3 = c % 4 → (∃ j, j < Q (5 + i) 4 ∧ Q (5 + i) (6 + j) = c / 4) → Q 3 c ≤ Q (5 + i) 5 + 1)
def INV (R : Nat → Nat) (r : Nat) (Q : Tab) : Prop := (∀ i, i < Q 0 0 → LOK R r Q i) ∧ (∀ c, c < 32 → COK R r Q c) ∧ ∀ c, c < 32 → UOK R Q c
/-- a letter that may be sent in round r -/
def ROK (R : Nat → Nat) (r : Nat) (Q : Tab) (f t v m : Nat) (mk : Nat → Nat) : Prop := 1 ≤ r ∧ f < R 0 ∧ t < R 0 ∧ v < 4 ∧ 1 ≤ m ∧ m ≤ 8 ∧ (∀ j, j < m → mk j < R 0 ∧ (lie R (mk j) = false → Q 1 (4 * mk j + v) ≠ 99)) ∧ (∀ j e, j < e → e < m → mk j ≠ mk e) ∧ (sdH R → (∃ j, j < m ∧ mk j = R 1) → v = R 2)
theorem LOK.congr {R : Nat → Nat} {r r' : Nat} {Q Q' : Tab} {i : Nat} (h : LOK R r Q i) (hr : r ≤ r') (e : ∀ b, Q' (5 + i) b = Q (5 + i) b) (e1 : ∀ c, Q 1 c ≠ 99 → Q' 1 c ≠ 99) : LOK R r' Q' i := by
  obtain ⟨⟨a1, a2, a3, a4, a5, a6, a7⟩, b, c, d, f⟩ := h
  unfold LOK
  simp only [e]
  exact ⟨⟨a1, by omega, a3, a4, a5, a6, a7⟩, fun j hj => ⟨(b j hj).1, fun z => e1 _ ((b j hj).2 z)⟩, c, d, f⟩
theorem INV.mono {R : Nat → Nat} {r r' : Nat} {Q : Tab} (h : INV R r Q) (hr : r ≤ r') : INV R r' Q := by
  obtain ⟨h1, h2, h3⟩ := h
  refine ⟨fun i hi => (h1 i hi).congr hr (fun _ => rfl) (fun _ q => q), fun c hc => ?_, h3⟩
  obtain ⟨a1, a2, a3, a4, a5⟩ := h2 c hc
  exact ⟨a1, a2, a3, by omega, a5⟩
set_option maxHeartbeats 1000000 in
theorem INV.send {R : Nat → Nat} {dl : Nat → Nat → Nat → Nat} {r : Nat} {Q : Tab} (h : INV R r Q) {f t v m : Nat} {mk : Nat → Nat} (hk : ROK R r Q f t v m mk) : INV R r (sSend R dl (lrec r f t v m mk) Q) := by
  obtain ⟨h1, h2, h3⟩ := h
  obtain ⟨k1, k2, k3, k4, k5, k6, k7, k8, k9⟩ := hk
  have hnew : ∀ b, sSend R dl (lrec r f t v m mk) Q (5 + Q 0 0) b = if b = 5 then cmN R dl r f t else lrec r f t v m mk b := fun b => sSend_new R dl _ Q b
  have n6 : ∀ j, sSend R dl (lrec r f t v m mk) Q (5 + Q 0 0) (6 + j) = mk j := fun j => by rw [hnew, if_neg (by omega), lrec_6]
  have hold : ∀ i b, i < Q 0 0 → sSend R dl (lrec r f t v m mk) Q (5 + i) b = Q (5 + i) b := fun i b hi => sSend_old R dl _ Q b (by omega)
  refine ⟨fun i hi => ?_, fun c hc => ?_, fun c hc => ?_⟩
  · rw [sSend_L] at hi
    by_cases e : i = Q 0 0
    · subst e
      unfold LOK
      simp only [n6, sSend_1]
      simp only [hnew]
      refine ⟨⟨k1, Nat.le_refl _, k2, k3, k4, k5, k6⟩, k7, k8, ?_, k9⟩
      show cmN R dl r f t = 0 ∨ r ≤ cmN R dl r f t ∧ _
      by_cases z : cmN R dl r f t = 0
      · exact Or.inl z
      · exact Or.inr (cmN_ge z)
    · exact (h1 i (by omega)).congr (Nat.le_refl _) (fun b => hold i b (by omega)) (fun c q => by rw [sSend_1]; exact q)
  · obtain ⟨a1, a2, a3, a4, a5, a6, a7, a8⟩ := h2 c hc
    unfold COK
    rw [sSend_1, sSend_2, sSend_L]
    refine ⟨?_, by omega, a3, a4, fun hz => ?_, a6, a7, a8⟩
    · rw [sSend_3]
      split <;> omega
    · have := hold (Q 2 c - 1)
      simp only [this _ (show Q 2 c - 1 < Q 0 0 by omega)]
      exact a5 hz
  · obtain ⟨a1, a2⟩ := h3 c hc
    have hB := (h2 c hc).1
    have e3 : sSend R dl (lrec r f t v m mk) Q 3 c = if (lie R t && decide (cmN R dl r f t ≠ 0) && anyB (fun i => c == 4 * mk i + v) m) = true then min (Q 3 c) (cmN R dl r f t + 1) else Q 3 c := by
      rw [sSend_3]
      simp only [lrec_6]
      rfl
    refine ⟨fun hz => ?_, fun hz => ?_⟩
    · rw [e3, a1 hz]
      split <;> omega
    · obtain ⟨b1, b2⟩ := a2 hz
      -- what is old stays
      have old : (Q 3 c = 1000 ∨ ∃ i, i < Q 0 0 + 1 ∧ lie R (sSend R dl (lrec r f t v m mk) Q (5 + i) 2) = true ∧ sSend R dl (lrec r f t v m mk) Q (5 + i) 5 ≠ 0 ∧ Q 3 c = sSend R dl (lrec r f t v m mk) Q (5 + i) 5 + 1 ∧ sSend R dl (lrec r f t v m mk) Q (5 + i) 3 = c % 4 ∧ ∃ j, j < sSend R dl (lrec r f t v m mk) Q (5 + i) 4 ∧ sSend R dl (lrec r f t v m mk) Q (5 + i) (6 + j) = c / 4) := by
        rcases b1 with b1 | ⟨i, c1, c2⟩
        · exact Or.inl b1
        · refine Or.inr ⟨i, by omega, ?_⟩
          simp only [hold i _ c1]
          exact c2
      by_cases hq : (lie R t && decide (cmN R dl r f t ≠ 0) && anyB (fun i => c == 4 * mk i + v) m) = true
      · rw [e3, if_pos hq]
        simp only [Bool.and_eq_true, decide_eq_true_eq] at hq
        obtain ⟨⟨q1, q2⟩, q3⟩ := hq
        obtain ⟨j, hj, hjc⟩ := anyB_iff.mp q3
        have hjc : c = 4 * mk j + v := by simpa using hjc
        refine ⟨?_, fun i hi => ?_⟩
        · by_cases hm : Q 3 c ≤ cmN R dl r f t + 1
          · rw [Nat.min_eq_left hm]
            exact old
          · rw [Nat.min_eq_right (by omega)]
            refine Or.inr ⟨Q 0 0, by rw [sSend_L]; omega, ?_⟩
            simp only [hnew]
            refine ⟨q1, q2, rfl, by show v = c % 4; omega, j, hj, ?_⟩
            rw [if_neg (by omega), lrec_6]
            omega
        · rw [sSend_L] at hi
          by_cases e : i = Q 0 0
          · subst e
            simp only [hnew]
            intro _ _ _ _
            exact Nat.min_le_right _ _
          · simp only [hold i _ (show i < Q 0 0 by omega)]
            intro d1 d2 d3 d4
            exact Nat.le_trans (Nat.min_le_left _ _) (b2 i (by omega) d1 d2 d3 d4)
      · rw [e3, if_neg hq]
        refine ⟨old, fun i hi => ?_⟩
        rw [sSend_L] at hi
        by_cases e : i = Q 0 0
        · subst e
          simp only [n6]
          simp only [hnew]
          intro d1 d2 d3 d4
          exfalso
          apply hq
          obtain ⟨j, hj, hjc⟩ := d4
          have d3 : v = c % 4 := d3
          simp only [Bool.and_eq_true, decide_eq_true_eq]
          refine ⟨⟨d1, d2⟩, anyB_iff.mpr ⟨j, hj, ?_⟩⟩
          have : c = 4 * mk j + v := by omega
          simpa using this
        · simp only [hold i _ (show i < Q 0 0 by omega)]
          exact b2 i (by omega)
theorem INV.fg {R : Nat → Nat} {r : Nat} {Q : Tab} (h : INV R r Q) (x : Nat) : INV R r (upN Q 0 1 x) := by
  obtain ⟨h1, h2, h3⟩ := h
  have e0 : upN Q 0 1 x 0 0 = Q 0 0 := rfl
  have e : ∀ a b, a ≠ 0 → upN Q 0 1 x a b = Q a b := fun a b ha => if_neg (fun q => ha q.1)
  refine ⟨fun i hi => (h1 i hi).congr (Nat.le_refl _) (fun b => e _ b (by omega)) (fun c q => by rw [e 1 c (by decide)]; exact q), fun c hc => ?_, fun c hc => ?_⟩
  · have := h2 c hc
    unfold COK at this ⊢
    simp only [e0, e 1 _ (by decide), e 2 _ (by decide), e 3 _ (by decide), e (5 + _) _ (show 5 + _ ≠ 0 by omega)]
    exact this
  · have := h3 c hc
    unfold UOK at this ⊢
    simp only [e0, e 3 _ (by decide), e (5 + _) _ (show 5 + _ ≠ 0 by omega)]
    exact this
