/-! parted: letters left out -/
/-- two tables that are alike but for which letters were forged -/
def EQ (Q Q' : Tab) : Prop := (∀ a, a ≠ 0 → Q' a = Q a) ∧ ∀ b, b ≠ 1 → Q' 0 b = Q 0 b
theorem EQ.rf {Q : Tab} : EQ Q Q := ⟨fun _ _ => rfl, fun _ _ => rfl⟩
theorem EQ.tr {Q Q' Q'' : Tab} (h : EQ Q Q') (h' : EQ Q' Q'') : EQ Q Q'' := ⟨fun a ha => (h'.1 a ha).trans (h.1 a ha), fun b hb => (h'.2 b hb).trans (h.2 b hb)⟩
theorem EQ.up {Q Q' : Tab} (h : EQ Q Q') (a b x : Nat) : EQ (upN Q a b x) (upN Q' a b x) := by
  refine ⟨fun c hc => ?_, fun d hd => ?_⟩
  · funext d
    show (if c = a ∧ d = b then x else Q' c d) = if c = a ∧ d = b then x else Q c d
    rw [h.1 c hc]
  · show (if 0 = a ∧ d = b then x else Q' 0 d) = if 0 = a ∧ d = b then x else Q 0 d
    rw [h.2 d hd]
theorem EQ.up1 {Q Q' : Tab} (h : EQ Q Q') (x y : Nat) : EQ (upN Q 0 1 x) (upN Q' 0 1 y) := by
  refine ⟨fun c hc => ?_, fun d hd => ?_⟩
  · funext d
    show (if c = 0 ∧ d = 1 then y else Q' c d) = if c = 0 ∧ d = 1 then x else Q c d
    rw [if_neg (fun z => hc z.1), if_neg (fun z => hc z.1), h.1 c hc]
  · show (if 0 = 0 ∧ d = 1 then y else Q' 0 d) = if 0 = 0 ∧ d = 1 then x else Q 0 d
    rw [if_neg (fun z => hd z.2), if_neg (fun z => hd z.2), h.2 d hd]
theorem EQ.it {F F' : Nat → Tab → Tab} (hF : ∀ i Q Q', EQ Q Q' → EQ (F i Q) (F' i Q')) : ∀ n Q Q', EQ Q Q' → EQ (itr F n Q) (itr F' n Q') := by
  intro n
  induction n with
  | zero => intro Q Q' h; exact h
  | succ n ih => intro Q Q' h; exact hF n _ _ (ih Q Q' h)
theorem EQ.send {R : Nat → Nat} {dl : Nat → Nat → Nat → Nat} {rc : Nat → Nat} {Q Q' : Tab} (h : EQ Q Q') : EQ (sSend R dl rc Q) (sSend R dl rc Q') := by
  have h0 := h.2 0 (by decide)
  refine ⟨fun a ha => ?_, fun b hb => ?_⟩
  · funext b
    unfold sSend
    rw [if_neg ha, if_neg ha, h.1 3 (by decide), h.1 4 (by decide), h0, h.1 a ha]
  · show (if b = 0 then Q' 0 0 + 1 else Q' 0 b) = if b = 0 then Q 0 0 + 1 else Q 0 b
    rw [h0, h.2 b hb]
theorem EQ.all {R : Nat → Nat} {dl : Nat → Nat → Nat → Nat} {r f v m n : Nat} {mk : Nat → Nat} {Q Q' : Tab} (h : EQ Q Q') : EQ (sAll R dl r f v m mk n Q) (sAll R dl r f v m mk n Q') := by
  unfold sAll
  refine EQ.it (fun i Q Q' h => ?_) n Q Q' h
  by_cases w : i = f
  · rw [if_pos w, if_pos w]; exact h
  · rw [if_neg w, if_neg w]; exact h.send
theorem EQ.rel {R : Nat → Nat} {dl : Nat → Nat → Nat → Nat} {r p v : Nat} {Q Q' : Tab} (h : EQ Q Q') : EQ (sRel R dl r p v Q) (sRel R dl r p v Q') := by
  unfold sRel rlN rkN
  rw [h.1 1 (by decide), h.1 2 (by decide), h.1 (5 + (Q 2 (4 * p + v) - 1)) (by omega)]
  by_cases w : (decide (Q 1 (4 * p + v) = r - 1) && (decide (1 ≤ Q 1 (4 * p + v)) && decide (fb_ct (fun o => decide (o ≠ v) && decide (Q 1 (4 * p + o) ≠ 99) && (decide (Q 1 (4 * p + o) < Q 1 (4 * p + v)) || (decide (Q 1 (4 * p + o) = Q 1 (4 * p + v)) && decide (o < v)))) 4 < R 5))) = true
  · rw [if_pos w, if_pos w]; exact h.all
  · rw [if_neg w, if_neg w]; exact h
theorem EQ.hon {R : Nat → Nat} {dl : Nat → Nat → Nat → Nat} {r p : Nat} {Q Q' : Tab} (h : EQ Q Q') : EQ (sHon R dl r p Q) (sHon R dl r p Q') := by
  unfold sHon
  by_cases w : lie R p = true
  · rw [if_pos w, if_pos w]; exact h
  · rw [if_neg w, if_neg w]
    by_cases w1 : r = 1
    · rw [if_pos w1, if_pos w1]
      by_cases w2 : p = R 1
      · rw [if_pos w2, if_pos w2]; exact h.all
      · rw [if_neg w2, if_neg w2]; exact h
    · rw [if_neg w1, if_neg w1]
      exact EQ.it (F := fun v Q => sRel R dl r p v Q) (F' := fun v Q => sRel R dl r p v Q) (fun v Q Q' h => h.rel) 4 Q Q' h
theorem EQ.plan {R : Nat → Nat} {dl : Nat → Nat → Nat → Nat} {r l l' : Nat} {pl : Nat → Nat} {al : Bool} {Q Q' : Tab} (h : EQ Q Q') : EQ (sPlan R dl r l pl al Q) (sPlan R dl r l' pl al Q') := by
  unfold sPlan
  rw [h.1 3 (by decide)]
  by_cases w : (al && decide (pl 0 = r) && lie R (pl 1)) = true
  · rw [if_pos w, if_pos w]
    by_cases w1 : anyB (fun i => decide (r < Q 3 (4 * pl (5 + i) + pl 3))) (pl 4) = true
    · rw [if_pos w1, if_pos w1]; exact h.up1 _ _
    · rw [if_neg w1, if_neg w1]; exact h.send
  · rw [if_neg w, if_neg w]; exact h
theorem EQ.rd {R : Nat → Nat} {r k : Nat} {Q Q' : Tab} (h : EQ Q Q') : EQ (sRd R r k Q) (sRd R r k Q') := by
  unfold sRd
  rw [h.1 (5 + k) (by omega), h.1 1 (by decide)]
  by_cases w : (decide (Q (5 + k) 5 = r) && !lie R (Q (5 + k) 2) && decide (Q (5 + k) 6 = R 1) && decide (r ≤ Q (5 + k) 4)) = true
  · rw [if_pos w, if_pos w]
    by_cases w1 : Q 1 (4 * Q (5 + k) 2 + Q (5 + k) 3) = 99
    · rw [if_pos w1, if_pos w1]; exact ((h.up _ _ _).up _ _ _).up _ _ _
    · rw [if_neg w1, if_neg w1]; exact h.up _ _ _
  · rw [if_neg w, if_neg w]; exact h
theorem EQ.rds {R : Nat → Nat} {r : Nat} {Q Q' : Tab} (h : EQ Q Q') : EQ (sRds R r Q) (sRds R r Q') := by
  unfold sRds
  rw [h.2 0 (by decide)]
  exact EQ.it (F := fun k Q => sRd R r k Q) (F' := fun k Q => sRd R r k Q) (fun k Q Q' h => h.rd) _ Q Q' h
theorem EQ.hons {R : Nat → Nat} {dl : Nat → Nat → Nat → Nat} {r : Nat} {Q Q' : Tab} (h : EQ Q Q') : EQ (sHons R dl r Q) (sHons R dl r Q') := EQ.it (F := fun p Q => sHon R dl r p Q) (F' := fun p Q => sHon R dl r p Q) (fun p Q Q' h => h.hon) _ Q Q' h
/-- a letter that isn't allowed may be left out -/
theorem EQ.plans {R : Nat → Nat} {dl : Nat → Nat → Nat → Nat} {np k r : Nat} {PL : Nat → Nat → Nat} {al : Nat → Bool} (hk : k < np) (ha : al k = false) {Q Q' : Tab} (h : EQ Q Q') : EQ (sPlans R dl np PL al r Q) (sPlans R dl (np - 1) (fun l => PL (sk k l)) (fun l => al (sk k l)) r Q') := by
  have key : ∀ n, EQ (itr (fun l Q => sPlan R dl r l (PL l) (al l) Q) n Q) (itr (fun l Q => sPlan R dl r l (PL (sk k l)) (al (sk k l)) Q) (if n ≤ k then n else n - 1) Q') := by
    intro n
    induction n with
    | zero => rw [if_pos (Nat.zero_le _)]; exact h
    | succ n ih =>
      by_cases w : n + 1 ≤ k
      · rw [if_pos w]
        rw [if_pos (by omega)] at ih
        show EQ (sPlan R dl r n (PL n) (al n) _) (sPlan R dl r n (PL (sk k n)) (al (sk k n)) _)
        rw [show sk k n = n from if_pos (by omega)]
        exact ih.plan
      · rw [if_neg w, Nat.add_sub_cancel]
        by_cases e : n = k
        · rw [if_pos (by omega)] at ih
          show EQ (sPlan R dl r n (PL n) (al n) _) _
          rw [e, ha]
          rw [e] at ih
          exact ih
        · rw [if_neg (by omega)] at ih
          show EQ (sPlan R dl r n (PL n) (al n) _) _
          rw [show n = n - 1 + 1 by omega]
          show EQ (sPlan R dl r (n - 1 + 1) (PL (n - 1 + 1)) (al (n - 1 + 1)) _) (sPlan R dl r (n - 1) (PL (sk k (n - 1))) (al (sk k (n - 1))) _)
          rw [show sk k (n - 1) = n - 1 + 1 from if_neg (by omega)]
          rw [show n = n - 1 + 1 by omega] at ih
          exact ih.plan
  have := key np
  rw [if_neg (by omega)] at this
  exact this
theorem EQ.run {R : Nat → Nat} {dl : Nat → Nat → Nat → Nat} {np k : Nat} {PL : Nat → Nat → Nat} {al : Nat → Bool} (hk : k < np) (ha : al k = false) (n : Nat) : EQ (sRun R dl np PL al n) (sRun R dl (np - 1) (fun l => PL (sk k l)) (fun l => al (sk k l)) n) := by
  unfold sRun
  refine EQ.it (fun i Q Q' h => ?_) n _ _ EQ.rf
  unfold sRnd
  exact (EQ.plans hk ha h.hons).rds
theorem EQ.dc {R : Nat → Nat} {Q Q' : Tab} (h : EQ Q Q') : dcN R Q' = dcN R Q := by
  funext p
  unfold dcN setN
  rw [h.1 1 (by decide)]
def alj (x j l : Nat) : Bool := if l < j then x.testBit l else true
def lvF (x : Nat) : Nat → (Nat → Nat) → (Nat → Nat)
  | 0, S => S
  | j + 1, S => lvF x j (if x.testBit j = true then S else rmR S 7 10 13 j)
def LI (R S : Nat → Nat) : Prop := PV S ∧ ∀ m, m ≠ 7 → (m < 10 ∨ 218 ≤ m) → S m = R m
theorem LI.rm {R S : Nat → Nat} (h : LI R S) {k : Nat} (hk : k < S 7) : LI R (rmR S 7 10 13 k) := by
  have v7 := h.1.2.2.2.2.2.2.2.2.1
  exact ⟨rmR_PV h.1 (Or.inl ⟨rfl, rfl, rfl⟩) hk, fun m h1 h2 => (rmR_out h1 (by omega)).trans (h.2 m h1 h2)⟩
theorem lv_run {R : Nat → Nat} {x : Nat} (dl : Nat → Nat → Nat → Nat) (n : Nat) : ∀ j S, LI R S → j ≤ S 7 → LI R (lvF x j S) ∧ ∃ PL : Nat → Nat → Nat, (∀ l, l < S 7 → ∀ i, i < 13 → PL l i = plR S l i) ∧ EQ (sRun R dl (S 7) PL (alj x j) n) (sRun R dl (lvF x j S 7) (plR (lvF x j S)) (fun _ => true) n) := by
  intro j
  induction j with
  | zero =>
    intro S hS _
    refine ⟨hS, plR S, fun _ _ _ _ => rfl, ?_⟩
    have : alj x 0 = fun _ => true := by
      funext l
      unfold alj
      rw [if_neg (by omega)]
    rw [this]
    exact EQ.rf
  | succ j ih =>
    intro S hS hj
    show LI R (lvF x j (if x.testBit j = true then S else rmR S 7 10 13 j)) ∧ ∃ PL : Nat → Nat → Nat, (∀ l, l < S 7 → ∀ i, i < 13 → PL l i = plR S l i) ∧ EQ (sRun R dl (S 7) PL (alj x (j + 1)) n) (sRun R dl (lvF x j (if x.testBit j = true then S else rmR S 7 10 13 j) 7) (plR (lvF x j (if x.testBit j = true then S else rmR S 7 10 13 j))) (fun _ => true) n)
    by_cases w : x.testBit j = true
    · rw [if_pos w]
      have e : alj x (j + 1) = alj x j := by
        funext l
        unfold alj
        by_cases q : l < j
        · rw [if_pos q, if_pos (by omega)]
        · rw [if_neg q]
          by_cases q2 : l = j
          · rw [q2, if_pos (by omega), w]
          · rw [if_neg (by omega)]
      rw [e]
      exact ih S hS (by omega)
    · rw [if_neg w]
      have w := Bool.eq_false_iff.mpr w
      have c7 : rmR S 7 10 13 j 7 = S 7 - 1 := rmR_c _ _ _ _ _
      obtain ⟨i1, PL', i2, i3⟩ := ih (rmR S 7 10 13 j) (hS.rm (by omega)) (by omega)
      rw [c7] at i2 i3
      refine ⟨i1, fun l => if l < j then PL' l else if l = j then plR S j else PL' (l - 1), fun l hl i hi => ?_, ?_⟩
      · show (if l < j then PL' l else if l = j then plR S j else PL' (l - 1)) i = _
        by_cases q : l < j
        · rw [if_pos q, i2 l (by omega) i hi]
          show rmR S 7 10 13 j (10 + 13 * l + i) = S (10 + 13 * l + i)
          rw [rm7 (by omega) hi, show sk j l = l from if_pos q]
        · rw [if_neg q]
          by_cases q2 : l = j
          · rw [if_pos q2, q2]
          · rw [if_neg q2, i2 (l - 1) (by omega) i hi]
            show rmR S 7 10 13 j (10 + 13 * (l - 1) + i) = S (10 + 13 * l + i)
            rw [rm7 (by omega) hi, show sk j (l - 1) = l - 1 + 1 from if_neg (by omega), show l - 1 + 1 = l by omega]
      · have r := EQ.run (R := R) (dl := dl) (np := S 7) (k := j) (PL := fun l => if l < j then PL' l else if l = j then plR S j else PL' (l - 1)) (al := alj x (j + 1)) (by omega) (by unfold alj; rw [if_pos (by omega), w]) n
        have e1 : (fun l => (fun l => if l < j then PL' l else if l = j then plR S j else PL' (l - 1)) (sk j l)) = PL' := by
          funext l
          show (if sk j l < j then PL' (sk j l) else if sk j l = j then plR S j else PL' (sk j l - 1)) = PL' l
          by_cases q : l < j
          · rw [show sk j l = l from if_pos q, if_pos q]
          · rw [show sk j l = l + 1 from if_neg q, if_neg (by omega), if_neg (by omega), Nat.add_sub_cancel]
        have e2 : (fun l => alj x (j + 1) (sk j l)) = alj x j := by
          funext l
          unfold alj
          by_cases q : l < j
          · rw [show sk j l = l from if_pos q, if_pos q, if_pos (by omega)]
          · rw [show sk j l = l + 1 from if_neg q, if_neg q, if_neg (by omega)]
        rw [e1, e2] at r
        exact r.tr i3
