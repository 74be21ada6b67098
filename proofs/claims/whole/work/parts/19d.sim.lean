/-! a way on which nothing comes may as well be omitted -/
def HasW (r f t : Nat) (Q : Tab) : Prop := ∃ i, i < Q 0 0 ∧ Q (5 + i) 0 = r ∧ Q (5 + i) 1 = f ∧ Q (5 + i) 2 = t ∧ Q (5 + i) 5 ≠ 0
/-- behind a step from Q: A as it is, A' as it would be -/
def OKp (r f t : Nat) (Q A A' : Tab) : Prop := (HasW r f t Q → HasW r f t A) ∧ (HasW r f t A ∨ A' = A)
theorem OKp.rf {r f t : Nat} {Q : Tab} : OKp r f t Q Q Q := ⟨id, Or.inr rfl⟩
theorem OKp.tr {r f t : Nat} {Q A A' : Tab} {G G' : Tab → Tab} (h : OKp r f t Q A A') (hg : ∀ Q, OKp r f t Q (G Q) (G' Q)) : OKp r f t Q (G A) (G' A') := by
  refine ⟨fun q => (hg A).1 (h.1 q), ?_⟩
  rcases h.2 with w | w
  · exact Or.inl ((hg A).1 w)
  · rw [w]
    exact (hg A).2
theorem OKp.itr {r f t : Nat} {F F' : Nat → Tab → Tab} (h : ∀ i Q, OKp r f t Q (F i Q) (F' i Q)) : ∀ n Q, OKp r f t Q (itr F n Q) (itr F' n Q) := by
  intro n Q
  induction n with
  | zero => exact OKp.rf
  | succ n ih => exact ih.tr (h n)
theorem OKp.up {r f t : Nat} {Q : Tab} {a b x : Nat} (ha : a < 5) (hb : a = 0 → b ≠ 0) : OKp r f t Q (upN Q a b x) (upN Q a b x) := by
  refine ⟨?_, Or.inr rfl⟩
  rintro ⟨i, h1, h2, h3, h4, h5⟩
  have e : ∀ j, upN Q a b x (5 + i) j = Q (5 + i) j := fun j => if_neg (by omega)
  have e0 : upN Q a b x 0 0 = Q 0 0 := if_neg (fun z => hb z.1.symm z.2.symm)
  refine ⟨i, by rw [e0]; exact h1, ?_⟩
  rw [e, e, e, e]
  exact ⟨h2, h3, h4, h5⟩
theorem OKp.send {R : Nat → Nat} {dl dl' : Nat → Nat → Nat → Nat} {r f t : Nat} (hd : ∀ r' f' t', ¬ (r' = r ∧ f' = f ∧ t' = t) → cmN R dl' r' f' t' = cmN R dl r' f' t') (hz : cmN R dl' r f t = 0) (rc : Nat → Nat) (Q : Tab) : OKp r f t Q (sSend R dl rc Q) (sSend R dl' rc Q) := by
  refine ⟨?_, ?_⟩
  · rintro ⟨i, h1, h2, h3, h4, h5⟩
    refine ⟨i, by rw [sSend_L]; omega, ?_⟩
    rw [sSend_old R dl rc Q _ (by omega), sSend_old R dl rc Q _ (by omega), sSend_old R dl rc Q _ (by omega), sSend_old R dl rc Q _ (by omega)]
    exact ⟨h2, h3, h4, h5⟩
  · by_cases w : cmN R dl' (rc 0) (rc 1) (rc 2) = cmN R dl (rc 0) (rc 1) (rc 2)
    · right
      unfold sSend
      rw [w]
    · left
      have q : rc 0 = r ∧ rc 1 = f ∧ rc 2 = t := Classical.byContradiction (fun z => w (hd _ _ _ z))
      have w2 : cmN R dl (rc 0) (rc 1) (rc 2) ≠ 0 := fun z => w (by rw [z, q.1, q.2.1, q.2.2]; exact hz)
      refine ⟨Q 0 0, by rw [sSend_L]; omega, ?_⟩
      rw [sSend_new, sSend_new, sSend_new, sSend_new, if_neg (by decide), if_neg (by decide), if_neg (by decide), if_pos rfl]
      exact ⟨q.1, q.2.1, q.2.2, w2⟩
theorem OKp.run {R : Nat → Nat} {dl dl' : Nat → Nat → Nat → Nat} {r f t : Nat} (hd : ∀ r' f' t', ¬ (r' = r ∧ f' = f ∧ t' = t) → cmN R dl' r' f' t' = cmN R dl r' f' t') (hz : cmN R dl' r f t = 0) (np : Nat) (PL : Nat → Nat → Nat) (al : Nat → Bool) (n : Nat) : HasW r f t (sRun R dl np PL al n) ∨ sRun R dl' np PL al n = sRun R dl np PL al n := by
  have hs := OKp.send hd hz
  have hA : ∀ q p v m mk k Q, OKp r f t Q (sAll R dl q p v m mk k Q) (sAll R dl' q p v m mk k Q) := fun q p v m mk k Q => by
    unfold sAll
    refine OKp.itr (fun i Q => ?_) k Q
    by_cases w : i = p
    · rw [if_pos w, if_pos w]; exact OKp.rf
    · rw [if_neg w, if_neg w]; exact hs _ Q
  have hRel : ∀ q p v Q, OKp r f t Q (sRel R dl q p v Q) (sRel R dl' q p v Q) := fun q p v Q => by
    unfold sRel
    by_cases w : (decide (Q 1 (4 * p + v) = q - 1) && rlN R Q p v) = true
    · rw [if_pos w, if_pos w]; exact hA _ _ _ _ _ _ _
    · rw [if_neg w, if_neg w]; exact OKp.rf
  have hHon : ∀ q p Q, OKp r f t Q (sHon R dl q p Q) (sHon R dl' q p Q) := fun q p Q => by
    unfold sHon
    by_cases w : lie R p = true
    · rw [if_pos w, if_pos w]; exact OKp.rf
    · rw [if_neg w, if_neg w]
      by_cases w1 : q = 1
      · rw [if_pos w1, if_pos w1]
        by_cases w2 : p = R 1
        · rw [if_pos w2, if_pos w2]; exact hA _ _ _ _ _ _ _
        · rw [if_neg w2, if_neg w2]; exact OKp.rf
      · rw [if_neg w1, if_neg w1]
        exact OKp.itr (fun v Q => hRel q p v Q) 4 Q
  have hPl : ∀ q l pl a Q, OKp r f t Q (sPlan R dl q l pl a Q) (sPlan R dl' q l pl a Q) := fun q l pl a Q => by
    unfold sPlan
    by_cases w : (a && decide (pl 0 = q) && lie R (pl 1)) = true
    · rw [if_pos w, if_pos w]
      by_cases w1 : anyB (fun i => decide (q < Q 3 (4 * pl (5 + i) + pl 3))) (pl 4) = true
      · rw [if_pos w1, if_pos w1]; exact OKp.up (by decide) (by decide)
      · rw [if_neg w1, if_neg w1]; exact hs _ Q
    · rw [if_neg w, if_neg w]; exact OKp.rf
  have hRd : ∀ q k Q, OKp r f t Q (sRd R q k Q) (sRd R q k Q) := fun q k Q => by
    unfold sRd
    by_cases w : (decide (Q (5 + k) 5 = q) && !lie R (Q (5 + k) 2) && decide (Q (5 + k) 6 = R 1) && decide (q ≤ Q (5 + k) 4)) = true
    · rw [if_pos w]
      by_cases w1 : Q 1 (4 * Q (5 + k) 2 + Q (5 + k) 3) = 99
      · rw [if_pos w1]
        exact ((OKp.up (a := 4) (b := k) (x := 2) (by decide) (by omega)).tr (G := fun Q' => upN Q' 1 (4 * Q (5 + k) 2 + Q (5 + k) 3) q) (G' := fun Q' => upN Q' 1 (4 * Q (5 + k) 2 + Q (5 + k) 3) q) (fun Q' => OKp.up (by decide) (by omega))).tr (G := fun Q' => upN Q' 2 (4 * Q (5 + k) 2 + Q (5 + k) 3) (k + 1)) (G' := fun Q' => upN Q' 2 (4 * Q (5 + k) 2 + Q (5 + k) 3) (k + 1)) (fun Q' => OKp.up (by decide) (by omega))
      · rw [if_neg w1]; exact OKp.up (by decide) (by omega)
    · rw [if_neg w]; exact OKp.rf
  have hRnd : ∀ q Q, OKp r f t Q (sRnd R dl np PL al q Q) (sRnd R dl' np PL al q Q) := fun q Q => by
    unfold sRnd
    refine OKp.tr (G := sRds R q) (G' := sRds R q) (OKp.tr (G := sPlans R dl np PL al q) (G' := sPlans R dl' np PL al q) (?_ : OKp r f t Q (sHons R dl q Q) (sHons R dl' q Q)) (fun Q => ?_)) (fun Q => ?_)
    · exact OKp.itr (fun p Q => hHon q p Q) _ Q
    · exact OKp.itr (fun l Q => hPl q l (PL l) (al l) Q) _ Q
    · exact OKp.itr (fun k Q => hRd q k Q) (Q 0 0) Q
  have := (OKp.itr (fun i Q => hRnd (i + 1) Q) n (sQ0 R)).2
  exact this
