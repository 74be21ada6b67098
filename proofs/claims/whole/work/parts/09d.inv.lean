/-! what holds all along a run: no mark of an honest party on a value that it hasn't extracted; at most 212 letters; at most eight marks -/
def sdH (R : Nat → Nat) : Prop := R 1 < R 0 ∧ lie R (R 1) = false
def LOK (R : Nat → Nat) (r : Nat) (Q : Tab) (i : Nat) : Prop := (1 ≤ Q (5 + i) 0 ∧ Q (5 + i) 0 ≤ r ∧ Q (5 + i) 1 < R 0 ∧ Q (5 + i) 2 < R 0 ∧ Q (5 + i) 3 < 4 ∧ 1 ≤ Q (5 + i) 4 ∧ Q (5 + i) 4 ≤ 8) ∧ (∀ j, j < Q (5 + i) 4 → Q (5 + i) (6 + j) < R 0 ∧ (lie R (Q (5 + i) (6 + j)) = false → Q 1 (4 * Q (5 + i) (6 + j) + Q (5 + i) 3) ≠ 99)) ∧ (∀ j e, j < e → e < Q (5 + i) 4 → Q (5 + i) (6 + j) ≠ Q (5 + i) (6 + e)) ∧ (Q (5 + i) 5 = 0 ∨ (Q (5 + i) 0 ≤ Q (5 + i) 5 ∧ Q (5 + i) 5 ≤ R 3)) ∧ (sdH R → (∃ j, j < Q (5 + i) 4 ∧ Q (5 + i) (6 + j) = R 1) → Q (5 + i) 3 = R 2)
def COK (R : Nat → Nat) (r : Nat) (Q : Tab) (c : Nat) : Prop := Q 3 c ≤ 1000 ∧ Q 2 c ≤ Q 0 0 ∧ (Q 2 c ≠ 0 ↔ 1 ≤ Q 1 c ∧ Q 1 c ≠ 99) ∧ (Q 1 c = 99 ∨ Q 1 c ≤ r) ∧ (Q 2 c ≠ 0 → Q (5 + (Q 2 c - 1)) 3 = c % 4 ∧ ∀ j, j < Q (5 + (Q 2 c - 1)) 4 → Q (5 + (Q 2 c - 1)) (6 + j) ≠ c / 4) ∧ (lie R (c / 4) = true ∨ R 0 ≤ c / 4 → Q 1 c = 99) ∧ (sdH R → Q 1 c ≠ 99 → c % 4 = R 2) ∧ (Q 1 c = 0 ↔ sdH R ∧ c = 4 * R 1 + R 2)
def UOK (R : Nat → Nat) (Q : Tab) (c : Nat) : Prop := (lie R (c / 4) = true → Q 3 c = 0) ∧ (lie R (c / 4) = false → (Q 3 c = 1000 ∨ ∃ i, i < Q 0 0 ∧ lie R (Q (5 + i) 2) = true ∧ Q (5 + i) 5 ≠ 0 ∧ Q 3 c = Q (5 + i) 5 + 1 ∧ Q (5 + i) 3 = c % 4 ∧ ∃ j, j < Q (5 + i) 4 ∧ Q (5 + i) (6 + j) = c / 4) ∧ ∀ i, i < Q 0 0 → lie R (Q (5 + i) 2) = true → Q (5 + i) 5 ≠ 0 → Q (5 + i) 3 = c % 4 → (∃ j, j < Q (5 + i) 4 ∧ Q (5 + i) (6 + j) = c / 4) → Q 3 c ≤ Q (5 + i) 5 + 1)
def INV (R : Nat → Nat) (r : Nat) (Q : Tab) : Prop := (∀ i, i < Q 0 0 → LOK R r Q i) ∧ (∀ c, c < 32 → COK R r Q c) ∧ ∀ c, c < 32 → UOK R Q c
/-- a letter that may be sent in round r -/
def ROK (R : Nat → Nat) (r : Nat) (Q : Tab) (f t v m : Nat) (mk : Nat → Nat) : Prop := 1 ≤ r ∧ f < R 0 ∧ t < R 0 ∧ v < 4 ∧ 1 ≤ m ∧ m ≤ 8 ∧ (∀ j, j < m → mk j < R 0 ∧ (lie R (mk j) = false → Q 1 (4 * mk j + v) ≠ 99)) ∧ (∀ j e, j < e → e < m → mk j ≠ mk e) ∧ (sdH R → (∃ j, j < m ∧ mk j = R 1) → v = R 2)
theorem LOK.congr {R : Nat → Nat} {r r' : Nat} {Q Q' : Tab} {i : Nat} (h : LOK R r Q i) (hr : r ≤ r') (e : ∀ b, Q' (5 + i) b = Q (5 + i) b) (e1 : ∀ c, Q 1 c ≠ 99 → Q' 1 c ≠ 99) : LOK R r' Q' i := by
  obtain ⟨⟨a1, a2, a3, a4, a5, a6, a7⟩, b, c, d, f⟩ := h
  unfold LOK
  simp only [e]
  exact ⟨⟨a1, by omega, a3, a4, a5, a6, a7⟩, fun j hj => ⟨(b j hj).1, fun z => e1 _ ((b j hj).2 z)⟩, c, d, f⟩
theorem INV.mono {R : Nat → Nat} {r r' : Nat} {Q : Tab} (h : INV R r Q) (hr : r ≤ r') : INV R r' Q := by
  obtain ⟨h1, h2, h3⟩ := h
  refine ⟨fun i hi => (h1 i hi).congr hr (fun _ => rfl) (fun _ q => q), fun c hc => ?_, h3⟩
  obtain ⟨a1, a2, a3, a4, a5⟩ := h2 c hc
  exact ⟨a1, a2, a3, by omega, a5⟩
set_option maxHeartbeats 1000000 in
theorem INV.send {R : Nat → Nat} {dl : Nat → Nat → Nat → Nat} {r : Nat} {Q : Tab} (h : INV R r Q) {f t v m : Nat} {mk : Nat → Nat} (hk : ROK R r Q f t v m mk) : INV R r (sSend R dl (lrec r f t v m mk) Q) := by
  obtain ⟨h1, h2, h3⟩ := h
  obtain ⟨k1, k2, k3, k4, k5, k6, k7, k8, k9⟩ := hk
  have hnew : ∀ b, sSend R dl (lrec r f t v m mk) Q (5 + Q 0 0) b = if b = 5 then cmN R dl r f t else lrec r f t v m mk b := fun b => sSend_new R dl _ Q b
  have n6 : ∀ j, sSend R dl (lrec r f t v m mk) Q (5 + Q 0 0) (6 + j) = mk j := fun j => by rw [hnew, if_neg (by omega), lrec_6]
  have hold : ∀ i b, i < Q 0 0 → sSend R dl (lrec r f t v m mk) Q (5 + i) b = Q (5 + i) b := fun i b hi => sSend_old R dl _ Q b (by omega)
  refine ⟨fun i hi => ?_, fun c hc => ?_, fun c hc => ?_⟩
  · rw [sSend_L] at hi
    by_cases e : i = Q 0 0
    · subst e
      unfold LOK
      simp only [n6, sSend_1]
      simp only [hnew]
      refine ⟨⟨k1, Nat.le_refl _, k2, k3, k4, k5, k6⟩, k7, k8, ?_, k9⟩
      show cmN R dl r f t = 0 ∨ r ≤ cmN R dl r f t ∧ _
      by_cases z : cmN R dl r f t = 0
      · exact Or.inl z
      · exact Or.inr (cmN_ge z)
    · exact (h1 i (by omega)).congr (Nat.le_refl _) (fun b => hold i b (by omega)) (fun c q => by rw [sSend_1]; exact q)
  · obtain ⟨a1, a2, a3, a4, a5, a6, a7, a8⟩ := h2 c hc
    unfold COK
    rw [sSend_1, sSend_2, sSend_L]
    refine ⟨?_, by omega, a3, a4, fun hz => ?_, a6, a7, a8⟩
    · rw [sSend_3]
      split <;> omega
    · have := hold (Q 2 c - 1)
      simp only [this _ (show Q 2 c - 1 < Q 0 0 by omega)]
      exact a5 hz
  · obtain ⟨a1, a2⟩ := h3 c hc
    have hB := (h2 c hc).1
    have e3 : sSend R dl (lrec r f t v m mk) Q 3 c = if (lie R t && decide (cmN R dl r f t ≠ 0) && anyB (fun i => c == 4 * mk i + v) m) = true then min (Q 3 c) (cmN R dl r f t + 1) else Q 3 c := by
      rw [sSend_3]
      simp only [lrec_6]
      rfl
    refine ⟨fun hz => ?_, fun hz => ?_⟩
    · rw [e3, a1 hz]
      split <;> omega
    · obtain ⟨b1, b2⟩ := a2 hz
      -- what is old stays
      have old : (Q 3 c = 1000 ∨ ∃ i, i < Q 0 0 + 1 ∧ lie R (sSend R dl (lrec r f t v m mk) Q (5 + i) 2) = true ∧ sSend R dl (lrec r f t v m mk) Q (5 + i) 5 ≠ 0 ∧ Q 3 c = sSend R dl (lrec r f t v m mk) Q (5 + i) 5 + 1 ∧ sSend R dl (lrec r f t v m mk) Q (5 + i) 3 = c % 4 ∧ ∃ j, j < sSend R dl (lrec r f t v m mk) Q (5 + i) 4 ∧ sSend R dl (lrec r f t v m mk) Q (5 + i) (6 + j) = c / 4) := by
        rcases b1 with b1 | ⟨i, c1, c2⟩
        · exact Or.inl b1
        · refine Or.inr ⟨i, by omega, ?_⟩
          simp only [hold i _ c1]
          exact c2
      by_cases hq : (lie R t && decide (cmN R dl r f t ≠ 0) && anyB (fun i => c == 4 * mk i + v) m) = true
      · rw [e3, if_pos hq]
        simp only [Bool.and_eq_true, decide_eq_true_eq] at hq
        obtain ⟨⟨q1, q2⟩, q3⟩ := hq
        obtain ⟨j, hj, hjc⟩ := anyB_iff.mp q3
        have hjc : c = 4 * mk j + v := by simpa using hjc
        refine ⟨?_, fun i hi => ?_⟩
        · by_cases hm : Q 3 c ≤ cmN R dl r f t + 1
          · rw [Nat.min_eq_left hm]
            exact old
          · rw [Nat.min_eq_right (by omega)]
            refine Or.inr ⟨Q 0 0, by rw [sSend_L]; omega, ?_⟩
            simp only [hnew]
            refine ⟨q1, q2, rfl, by show v = c % 4; omega, j, hj, ?_⟩
            rw [if_neg (by omega), lrec_6]
            omega
        · rw [sSend_L] at hi
          by_cases e : i = Q 0 0
          · subst e
            simp only [hnew]
            intro _ _ _ _
            exact Nat.min_le_right _ _
          · simp only [hold i _ (show i < Q 0 0 by omega)]
            intro d1 d2 d3 d4
            exact Nat.le_trans (Nat.min_le_left _ _) (b2 i (by omega) d1 d2 d3 d4)
      · rw [e3, if_neg hq]
        refine ⟨old, fun i hi => ?_⟩
        rw [sSend_L] at hi
        by_cases e : i = Q 0 0
        · subst e
          simp only [n6]
          simp only [hnew]
          intro d1 d2 d3 d4
          exfalso
          apply hq
          obtain ⟨j, hj, hjc⟩ := d4
          have d3 : v = c % 4 := d3
          simp only [Bool.and_eq_true, decide_eq_true_eq]
          refine ⟨⟨d1, d2⟩, anyB_iff.mpr ⟨j, hj, ?_⟩⟩
          have : c = 4 * mk j + v := by omega
          simpa using this
        · simp only [hold i _ (show i < Q 0 0 by omega)]
          exact b2 i (by omega)
theorem INV.fg {R : Nat → Nat} {r : Nat} {Q : Tab} (h : INV R r Q) (x : Nat) : INV R r (upN Q 0 1 x) := by
  obtain ⟨h1, h2, h3⟩ := h
  have e0 : upN Q 0 1 x 0 0 = Q 0 0 := rfl
  have e : ∀ a b, a ≠ 0 → upN Q 0 1 x a b = Q a b := fun a b ha => if_neg (fun q => ha q.1)
  have e5 : ∀ i b, upN Q 0 1 x (5 + i) b = Q (5 + i) b := fun i b => e _ b (by omega)
  refine ⟨fun i hi => (h1 i hi).congr (Nat.le_refl _) (fun b => e _ b (by omega)) (fun c q => by rw [e 1 c (by decide)]; exact q), fun c hc => ?_, fun c hc => ?_⟩
  · have := h2 c hc
    unfold COK at this ⊢
    simp only [e0, e 1 _ (by decide), e 2 _ (by decide), e 3 _ (by decide), e5]
    exact this
  · have := h3 c hc
    unfold UOK at this ⊢
    simp only [e0, e 3 _ (by decide), e5]
    exact this

theorem upN_get (Q : Tab) (k i x a b : Nat) : upN Q k i x a b = if a = k ∧ b = i then x else Q a b := rfl
theorem upN_eq {Q : Tab} {k i x : Nat} : upN Q k i x k i = x := if_pos ⟨rfl, rfl⟩
theorem upN_ne {Q : Tab} {k i x a b : Nat} (h : a = k → b ≠ i) : upN Q k i x a b = Q a b := if_neg (fun q => h q.1 q.2)
/-- what a reading changes: how the letter was used, and one cell, if it was free -/
theorem sRd_sp (R : Nat → Nat) (r k : Nat) (Q : Tab) : (∀ b, sRd R r k Q 0 b = Q 0 b) ∧ (∀ b, sRd R r k Q 3 b = Q 3 b) ∧ (∀ i b, sRd R r k Q (5 + i) b = Q (5 + i) b) ∧ (∀ j, j ≠ k → sRd R r k Q 4 j = Q 4 j) := by
  unfold sRd
  split
  · split
    · refine ⟨fun b => ?_, fun b => ?_, fun i b => ?_, fun j hj => ?_⟩
      · rw [upN_ne (by omega), upN_ne (by omega), upN_ne (by omega)]
      · rw [upN_ne (by omega), upN_ne (by omega), upN_ne (by omega)]
      · rw [upN_ne (by omega), upN_ne (by omega), upN_ne (by omega)]
      · rw [upN_ne (by omega), upN_ne (by omega), upN_ne (by omega)]
    · exact ⟨fun b => upN_ne (by omega), fun b => upN_ne (by omega), fun i b => upN_ne (by omega), fun j hj => upN_ne (by omega)⟩
  · exact ⟨fun _ => rfl, fun _ => rfl, fun _ _ => rfl, fun _ _ => rfl⟩
set_option maxHeartbeats 1000000 in
theorem INV.read {R : Nat → Nat} {r k : Nat} {Q : Tab} (hV : PV R) (h : INV R r Q) (hk : k < Q 0 0) (hr : 1 ≤ r) (hr8 : r ≤ 8) : INV R r (sRd R r k Q) ∧ ∀ c, c < 32 → sRd R r k Q 1 c = Q 1 c ∨ (Q 1 c = 99 ∧ sRd R r k Q 1 c = r) := by
  have hn := pv_n hV
  obtain ⟨h1, h2, h3⟩ := h
  obtain ⟨z0, z3, z5, z4⟩ := sRd_sp R r k Q
  have hlk := h1 k hk
  obtain ⟨⟨a1, a2, a3, a4, a5, a6, a7⟩, b1, b2, b3, b4⟩ := hlk
  have U : ∀ c, c < 32 → UOK R (sRd R r k Q) c := fun c hc => by
    have := h3 c hc
    unfold UOK at this ⊢
    simp only [z0, z3, z5]
    exact this
  by_cases hq : (decide (Q (5 + k) 5 = r) && !lie R (Q (5 + k) 2) && decide (Q (5 + k) 6 = R 1) && decide (r ≤ Q (5 + k) 4)) = true
  · by_cases h99 : Q 1 (4 * Q (5 + k) 2 + Q (5 + k) 3) = 99
    · have e : sRd R r k Q = upN (upN (upN Q 4 k 2) 1 (4 * Q (5 + k) 2 + Q (5 + k) 3) r) 2 (4 * Q (5 + k) 2 + Q (5 + k) 3) (k + 1) := by unfold sRd; rw [if_pos hq, if_pos h99]
      simp only [Bool.and_eq_true, Bool.not_eq_true', decide_eq_true_eq] at hq
      obtain ⟨⟨⟨q1, q2⟩, q3⟩, q4⟩ := hq
      have e1 : ∀ c, sRd R r k Q 1 c = if c = 4 * Q (5 + k) 2 + Q (5 + k) 3 then r else Q 1 c := by
        intro c
        rw [e, upN_ne (by omega), upN_get]
        by_cases z : c = 4 * Q (5 + k) 2 + Q (5 + k) 3
        · rw [if_pos ⟨rfl, z⟩, if_pos z]
        · rw [if_neg (fun q => z q.2), if_neg z, upN_ne (by omega)]
      have e2 : ∀ c, sRd R r k Q 2 c = if c = 4 * Q (5 + k) 2 + Q (5 + k) 3 then k + 1 else Q 2 c := by
        intro c
        rw [e, upN_get]
        by_cases z : c = 4 * Q (5 + k) 2 + Q (5 + k) 3
        · rw [if_pos ⟨rfl, z⟩, if_pos z]
        · rw [if_neg (fun q => z q.2), if_neg z, upN_ne (by omega), upN_ne (by omega)]
      refine ⟨⟨fun i hi => ?_, fun c hc => ?_, U⟩, fun c hc => ?_⟩
      · rw [z0] at hi
        refine (h1 i hi).congr (Nat.le_refl _) (fun b => z5 i b) (fun c q => ?_)
        rw [e1]
        split <;> omega
      · obtain ⟨c1, c2, c3, c4, c5, c6, c7, c8⟩ := h2 c hc
        unfold COK
        simp only [z0, z3, z5, e1, e2]
        by_cases z : c = 4 * Q (5 + k) 2 + Q (5 + k) 3
        · simp only [if_pos z]
          have d1 : c / 4 = Q (5 + k) 2 := by omega
          have d2 : c % 4 = Q (5 + k) 3 := by omega
          refine ⟨c1, by omega, by omega, by omega, fun _ => ?_, fun w => ?_, fun w _ => ?_, ?_⟩
          · rw [Nat.add_sub_cancel]
            refine ⟨d2.symm, fun j hj w => ?_⟩
            rw [d1] at w
            exact (b1 j hj).2 (by rw [w]; exact q2) (by rw [w]; exact h99)
          · rw [d1] at w
            rcases w with w | w
            · rw [q2] at w; cases w
            · omega
          · rw [d2]
            exact b4 w ⟨0, by omega, q3⟩
          · rw [z] at c8
            constructor
            · intro w; omega
            · intro w
              have := c8.mpr (by rw [← z]; exact w)
              omega
        · simp only [if_neg z]
          exact ⟨c1, c2, c3, c4, c5, c6, c7, c8⟩
      · rw [e1]
        by_cases z : c = 4 * Q (5 + k) 2 + Q (5 + k) 3
        · rw [if_pos z, z]
          exact Or.inr ⟨h99, rfl⟩
        · rw [if_neg z]
          exact Or.inl rfl
    · have e : sRd R r k Q = upN Q 4 k 1 := by unfold sRd; rw [if_pos hq, if_neg h99]
      have e1 : ∀ c, sRd R r k Q 1 c = Q 1 c := fun c => by rw [e, upN_ne (by omega)]
      have e2 : ∀ c, sRd R r k Q 2 c = Q 2 c := fun c => by rw [e, upN_ne (by omega)]
      refine ⟨⟨fun i hi => ?_, fun c hc => ?_, U⟩, fun c hc => Or.inl (e1 c)⟩
      · rw [z0] at hi
        exact (h1 i hi).congr (Nat.le_refl _) (fun b => z5 i b) (fun c q => by rw [e1]; exact q)
      · have := h2 c hc
        unfold COK at this ⊢
        simp only [z0, z3, z5, e1, e2]
        exact this
  · have e : sRd R r k Q = Q := by unfold sRd; rw [if_neg hq]
    rw [e]
    exact ⟨⟨h1, h2, h3⟩, fun c hc => Or.inl rfl⟩
/-- sending to all others: what it does to the table -/
theorem sAll_sp {R : Nat → Nat} {dl : Nat → Nat → Nat → Nat} {r : Nat} {Q : Tab} (h : INV R r Q) {f v m : Nat} {mk : Nat → Nat} (hk : ∀ t, t < R 0 → t ≠ f → ROK R r Q f t v m mk) : ∀ i, i ≤ R 0 → INV R r (sAll R dl r f v m mk i Q) ∧ sAll R dl r f v m mk i Q 0 0 + (if f < i then 1 else 0) = Q 0 0 + i ∧ (∀ c, sAll R dl r f v m mk i Q 1 c = Q 1 c ∧ sAll R dl r f v m mk i Q 2 c = Q 2 c) ∧ (∀ j b, j < Q 0 0 → sAll R dl r f v m mk i Q (5 + j) b = Q (5 + j) b) ∧ sAll R dl r f v m mk i Q 0 1 = Q 0 1 := by
  intro i
  induction i with
  | zero => intro _; exact ⟨h, by rw [if_neg (Nat.not_lt_zero f)]; rfl, fun c => ⟨rfl, rfl⟩, fun _ _ _ => rfl, rfl⟩
  | succ i ih =>
    intro hi
    obtain ⟨g1, g2, g3, g4, g5⟩ := ih (by omega)
    have es : sAll R dl r f v m mk (i + 1) Q = if i = f then sAll R dl r f v m mk i Q else sSend R dl (lrec r f i v m mk) (sAll R dl r f v m mk i Q) := rfl
    rw [es]
    by_cases e : i = f
    · rw [if_pos e]
      refine ⟨g1, ?_, g3, g4, g5⟩
      rw [if_neg (by omega)] at g2
      rw [if_pos (by omega)]
      omega
    · rw [if_neg e]
      obtain ⟨k1, k2, k3, k4, k5, k6, k7, k8, k9⟩ := hk i (by omega) e
      refine ⟨g1.send ⟨k1, k2, k3, k4, k5, k6, fun j hj => ⟨(k7 j hj).1, fun w => by rw [(g3 _).1]; exact (k7 j hj).2 w⟩, k8, k9⟩, ?_, fun c => ?_, fun j b hj => ?_, ?_⟩
      · rw [sSend_L]
        by_cases w : f < i
        · rw [if_pos w] at g2
          rw [if_pos (by omega)]
          omega
        · rw [if_neg w] at g2
          rw [if_neg (by omega)]
          omega
      · rw [sSend_1, sSend_2]
        exact g3 c
      · rw [sSend_old _ _ _ _ _ (by split at g2 <;> omega)]
        exact g4 j b hj
      · rw [sSend_0]
        exact g5
