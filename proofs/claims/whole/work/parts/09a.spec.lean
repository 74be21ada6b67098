/-! THE PLAY, PLAYED OUT IN NATURAL NUMBERS: what both programs compute. R: a play as the reference lays it out (0 parties, 1 sender, 2 value, 3 rounds, 4 default, 5 cut, 6 liars, 7 8 9 how many letters, omits, lates; 10 + 13 l: letters; 218 + 3 l: omits; 254 + 4 l: lates).
Q: the table of a run: Q 0 0 how many letters, Q 0 1 forged ones; Q 1 c the round in which the cell c = 4 party + value was extracted (99 never), Q 2 c by which letter (one more; 0 none), Q 3 c usable from (1000 never), Q 4 k what became of the letter k, Q (5 + k) the letter k: 0 round 1 from 2 to 3 value 4 marks 5 comes (0 not) 6 .. the marks. -/
abbrev Tab : Type := Nat → Nat → Nat
def anyB (p : Nat → Bool) : Nat → Bool
  | 0 => false
  | n + 1 => anyB p n || p n
theorem anyB_iff {p : Nat → Bool} : ∀ {n : Nat}, anyB p n = true ↔ ∃ i, i < n ∧ p i = true := by
  intro n
  induction n with
  | zero => exact ⟨fun h => (by cases h), fun h => (by obtain ⟨i, h, -⟩ := h; omega)⟩
  | succ n ih =>
    unfold anyB
    rw [Bool.or_eq_true, ih]
    constructor
    · rintro (⟨i, h1, h2⟩ | h)
      · exact ⟨i, by omega, h2⟩
      · exact ⟨n, by omega, h⟩
    · rintro ⟨i, h1, h2⟩
      by_cases e : i = n
      · subst e; exact Or.inr h2
      · exact Or.inl ⟨i, by omega, h2⟩
theorem anyB_f {p : Nat → Bool} {n : Nat} : anyB p n = false ↔ ∀ i, i < n → p i = false := by
  rw [← Bool.not_eq_true, anyB_iff]
  constructor
  · intro h i hi
    exact Bool.eq_false_iff.mpr (fun q => h ⟨i, hi, q⟩)
  · rintro h ⟨i, hi, q⟩
    rw [h i hi] at q
    cases q
def itr {σ : Type} (f : Nat → σ → σ) : Nat → σ → σ
  | 0, s => s
  | n + 1, s => f n (itr f n s)
theorem itr_ind {σ : Type} {f : Nat → σ → σ} {s : σ} (I : Nat → σ → Prop) {n : Nat} (h0 : I 0 s) (hs : ∀ i t, i < n → I i t → I (i + 1) (f i t)) : I n (itr f n s) := by
  have key : ∀ m, m ≤ n → I m (itr f m s) := by
    intro m
    induction m with
    | zero => intro _; exact h0
    | succ m ih => intro hm; exact hs m _ (by omega) (ih (by omega))
  exact key n (Nat.le_refl n)
def upN (Q : Tab) (k i x : Nat) : Tab := fun a b => if a = k ∧ b = i then x else Q a b
def lie (R : Nat → Nat) (p : Nat) : Bool := (R 6).testBit p
def cmN (R : Nat → Nat) (dl : Nat → Nat → Nat → Nat) (r f t : Nat) : Nat := if r + dl r f t ≤ R 3 then r + dl r f t else 0
/-- a letter is sent -/
def sSend (R : Nat → Nat) (dl : Nat → Nat → Nat → Nat) (rc : Nat → Nat) (Q : Tab) : Tab := fun a b =>
  if a = 0 then (if b = 0 then Q 0 0 + 1 else Q 0 b)
  else if a = 3 then (if (lie R (rc 2) && decide (cmN R dl (rc 0) (rc 1) (rc 2) ≠ 0) && anyB (fun i => b == 4 * rc (6 + i) + rc 3) (rc 4)) = true then min (Q 3 b) (cmN R dl (rc 0) (rc 1) (rc 2) + 1) else Q 3 b)
  else if a = 4 then (if b = Q 0 0 then 0 else Q 4 b)
  else if a = 5 + Q 0 0 then (if b = 5 then cmN R dl (rc 0) (rc 1) (rc 2) else rc b)
  else Q a b
def lrec (r f t v m : Nat) (mk : Nat → Nat) : Nat → Nat := fun i => match i with
  | 0 => r
  | 1 => f
  | 2 => t
  | 3 => v
  | 4 => m
  | 5 => 0
  | i + 6 => mk i
theorem lrec_6 (r f t v m : Nat) (mk : Nat → Nat) (i : Nat) : lrec r f t v m mk (6 + i) = mk i := by
  rw [Nat.add_comm]
  rfl
def sAll (R : Nat → Nat) (dl : Nat → Nat → Nat → Nat) (r f v m : Nat) (mk : Nat → Nat) (n : Nat) (Q : Tab) : Tab := itr (fun t Q => if t = f then Q else sSend R dl (lrec r f t v m mk) Q) n Q
def rkN (Q : Tab) (p v : Nat) : Nat := fb_ct (fun o => decide (o ≠ v) && decide (Q 1 (4 * p + o) ≠ 99) && (decide (Q 1 (4 * p + o) < Q 1 (4 * p + v)) || (decide (Q 1 (4 * p + o) = Q 1 (4 * p + v)) && decide (o < v)))) 4
def rlN (R : Nat → Nat) (Q : Tab) (p v : Nat) : Bool := decide (1 ≤ Q 1 (4 * p + v)) && decide (rkN Q p v < R 5)
/-- an honest party of the value v -/
def sRel (R : Nat → Nat) (dl : Nat → Nat → Nat → Nat) (r p v : Nat) (Q : Tab) : Tab :=
  if (decide (Q 1 (4 * p + v) = r - 1) && rlN R Q p v) = true then sAll R dl r p v (Q (5 + (Q 2 (4 * p + v) - 1)) 4 + 1) (fun i => if i = Q (5 + (Q 2 (4 * p + v) - 1)) 4 then p else Q (5 + (Q 2 (4 * p + v) - 1)) (6 + i)) (R 0) Q else Q
def sHon (R : Nat → Nat) (dl : Nat → Nat → Nat → Nat) (r p : Nat) (Q : Tab) : Tab :=
  if lie R p = true then Q
  else if r = 1 then (if p = R 1 then sAll R dl 1 p (R 2) 1 (fun _ => p) (R 0) Q else Q)
  else itr (fun v Q => sRel R dl r p v Q) 4 Q
def prec (pl : Nat → Nat) : Nat → Nat := lrec (pl 0) (pl 1) (pl 2) (pl 3) (pl 4) (fun i => pl (5 + i))
def sPlan (R : Nat → Nat) (dl : Nat → Nat → Nat → Nat) (r l : Nat) (pl : Nat → Nat) (al : Bool) (Q : Tab) : Tab :=
  if (al && decide (pl 0 = r) && lie R (pl 1)) = true then (if anyB (fun i => decide (r < Q 3 (4 * pl (5 + i) + pl 3))) (pl 4) = true then upN Q 0 1 (Q 0 1 ||| 2 ^ l) else sSend R dl (prec pl) Q) else Q
def sRd (R : Nat → Nat) (r k : Nat) (Q : Tab) : Tab :=
  if (decide (Q (5 + k) 5 = r) && !lie R (Q (5 + k) 2) && decide (Q (5 + k) 6 = R 1) && decide (r ≤ Q (5 + k) 4)) = true then
    (if Q 1 (4 * Q (5 + k) 2 + Q (5 + k) 3) = 99 then upN (upN (upN Q 4 k 2) 1 (4 * Q (5 + k) 2 + Q (5 + k) 3) r) 2 (4 * Q (5 + k) 2 + Q (5 + k) 3) (k + 1) else upN Q 4 k 1)
  else Q
def sHons (R : Nat → Nat) (dl : Nat → Nat → Nat → Nat) (r : Nat) (Q : Tab) : Tab := itr (fun p Q => sHon R dl r p Q) (R 0) Q
def sPlans (R : Nat → Nat) (dl : Nat → Nat → Nat → Nat) (np : Nat) (PL : Nat → Nat → Nat) (al : Nat → Bool) (r : Nat) (Q : Tab) : Tab := itr (fun l Q => sPlan R dl r l (PL l) (al l) Q) np Q
def sRds (R : Nat → Nat) (r : Nat) (Q : Tab) : Tab := itr (fun k Q => sRd R r k Q) (Q 0 0) Q
def sRnd (R : Nat → Nat) (dl : Nat → Nat → Nat → Nat) (np : Nat) (PL : Nat → Nat → Nat) (al : Nat → Bool) (r : Nat) (Q : Tab) : Tab := sRds R r (sPlans R dl np PL al r (sHons R dl r Q))
def sQ0 (R : Nat → Nat) : Tab := fun a b => match a with
  | 0 => 0
  | 1 => if R 1 < R 0 ∧ lie R (R 1) = false ∧ b = 4 * R 1 + R 2 then 0 else 99
  | 2 => 0
  | 3 => if lie R (b / 4) = true then 0 else 1000
  | _ => 0
def sRun (R : Nat → Nat) (dl : Nat → Nat → Nat → Nat) (np : Nat) (PL : Nat → Nat → Nat) (al : Nat → Bool) (n : Nat) : Tab := itr (fun i Q => sRnd R dl np PL al (i + 1) Q) n (sQ0 R)
-- the two programs' tables hold Q
def cmI (x : Nat) : Int32 := if x = 0 then -1 else nI x
def exI (x : Nat) : Int32 := if x = 99 then -1 else nI x
def byI (x : Nat) : Int32 := if x = 0 then -1 else nI (x - 1)
def setN (Q : Tab) (p r : Nat) : Nat := (if Q 1 (4 * p) ≤ r then 1 else 0) + (if Q 1 (4 * p + 1) ≤ r then 2 else 0) + (if Q 1 (4 * p + 2) ≤ r then 4 else 0) + (if Q 1 (4 * p + 3) ≤ r then 8 else 0)
def RCl (k : Nat) (Q : Tab) (M : Mem) (i : Nat) : Prop := M (k + 2) i = nI (64 * Q (5 + i) 0 + 8 * Q (5 + i) 1 + Q (5 + i) 2) ∧ M (k + 3) i = nI (Q (5 + i) 3) ∧ Chn (M (k + 4) i) (Q (5 + i) 4) (fun j => Q (5 + i) (6 + j)) ∧ M (k + 5) i = cmI (Q (5 + i) 5) ∧ M (k + 6) i = nI (Q 4 i)
def RCc (k : Nat) (Q : Tab) (M : Mem) (c : Nat) : Prop := M (k + 7) c = nI (Q 1 c) ∧ (Q 2 c = 0 → M (k + 8) c = -1 ∧ M (k + 9) c = 0) ∧ (Q 2 c ≠ 0 → M (k + 8) c = nI (Q (5 + (Q 2 c - 1)) 1) ∧ Chn (M (k + 9) c) (Q (5 + (Q 2 c - 1)) 4) (fun j => Q (5 + (Q 2 c - 1)) (6 + j)))
/-- the class's run at k holds Q: usable as known ahead of round r, the sets up to round sr -/
def RC (k r sr : Nat) (Q : Tab) (M : Mem) : Prop := M k 4 = nI (Q 0 0) ∧ M k 3 = nI (Q 0 1) ∧ (∀ i, i < Q 0 0 → RCl k Q M i) ∧ (∀ c, c < 32 → RCc k Q M c) ∧ (∀ c, c < 32 → M (k + 10) c = nI (if Q 3 c ≤ r then Q 3 c else 99)) ∧ (∀ q p, q ≤ sr → p < 8 → M (k + 11) (8 * q + p) = nI (setN Q p q))
def RMl (Q : Tab) (M : Mem) (i : Nat) : Prop := M 9 i = nI (Q (5 + i) 0) ∧ M 10 i = nI (Q (5 + i) 1) ∧ M 11 i = nI (Q (5 + i) 2) ∧ M 12 i = nI (Q (5 + i) 3) ∧ M 13 i = nI (Q (5 + i) 4) ∧ M 14 i = cmI (Q (5 + i) 5) ∧ M 15 i = nI (Q 4 i) ∧ ∀ j, j < Q (5 + i) 4 → M 16 (8 * i + j) = nI (Q (5 + i) (6 + j))
def RM (Q : Tab) (M : Mem) : Prop := M 0 21 = nI (Q 0 0) ∧ M 0 25 = nI (Q 0 1) ∧ (∀ i, i < Q 0 0 → RMl Q M i) ∧ (∀ c, c < 32 → M 17 c = exI (Q 1 c) ∧ M 18 c = byI (Q 2 c) ∧ M 19 c = nI (Q 3 c))
-- reading a table behind a sending
theorem sSend_L (R : Nat → Nat) (dl : Nat → Nat → Nat → Nat) (rc : Nat → Nat) (Q : Tab) : sSend R dl rc Q 0 0 = Q 0 0 + 1 := rfl
theorem sSend_0 (R : Nat → Nat) (dl : Nat → Nat → Nat → Nat) (rc : Nat → Nat) (Q : Tab) : sSend R dl rc Q 0 1 = Q 0 1 := rfl
theorem sSend_1 (R : Nat → Nat) (dl : Nat → Nat → Nat → Nat) (rc : Nat → Nat) (Q : Tab) (b : Nat) : sSend R dl rc Q 1 b = Q 1 b := by
  unfold sSend
  rw [if_neg (by omega), if_neg (by omega), if_neg (by omega), if_neg (by omega)]
theorem sSend_2 (R : Nat → Nat) (dl : Nat → Nat → Nat → Nat) (rc : Nat → Nat) (Q : Tab) (b : Nat) : sSend R dl rc Q 2 b = Q 2 b := by
  unfold sSend
  rw [if_neg (by omega), if_neg (by omega), if_neg (by omega), if_neg (by omega)]
theorem sSend_3 (R : Nat → Nat) (dl : Nat → Nat → Nat → Nat) (rc : Nat → Nat) (Q : Tab) (b : Nat) : sSend R dl rc Q 3 b = if (lie R (rc 2) && decide (cmN R dl (rc 0) (rc 1) (rc 2) ≠ 0) && anyB (fun i => b == 4 * rc (6 + i) + rc 3) (rc 4)) = true then min (Q 3 b) (cmN R dl (rc 0) (rc 1) (rc 2) + 1) else Q 3 b := rfl
theorem sSend_4 (R : Nat → Nat) (dl : Nat → Nat → Nat → Nat) (rc : Nat → Nat) (Q : Tab) (b : Nat) : sSend R dl rc Q 4 b = if b = Q 0 0 then 0 else Q 4 b := rfl
theorem sSend_old (R : Nat → Nat) (dl : Nat → Nat → Nat → Nat) (rc : Nat → Nat) (Q : Tab) {k : Nat} (b : Nat) (h : k ≠ Q 0 0) : sSend R dl rc Q (5 + k) b = Q (5 + k) b := by
  unfold sSend
  rw [if_neg (by omega), if_neg (by omega), if_neg (by omega), if_neg (by omega)]
theorem sSend_new (R : Nat → Nat) (dl : Nat → Nat → Nat → Nat) (rc : Nat → Nat) (Q : Tab) (b : Nat) : sSend R dl rc Q (5 + Q 0 0) b = if b = 5 then cmN R dl (rc 0) (rc 1) (rc 2) else rc b := by
  unfold sSend
  rw [if_neg (by omega), if_neg (by omega), if_neg (by omega), if_pos rfl]
theorem cmN_ge {R : Nat → Nat} {dl : Nat → Nat → Nat → Nat} {r f t : Nat} (h : cmN R dl r f t ≠ 0) : r ≤ cmN R dl r f t ∧ cmN R dl r f t ≤ R 3 := by
  unfold cmN at h ⊢
  split at h <;> rename_i h1
  · rw [if_pos h1]; omega
  · exact absurd rfl h
-- what a class's run leaves as it is: all but the run's own rows; in these its delays, rounds, allowed plans
def FrC (k : Nat) (M M' : Mem) : Prop := (∀ a, ¬ (k ≤ a ∧ a ≤ k + 11) → M' a = M a) ∧ M' (k + 1) = M (k + 1) ∧ M' k 1 = M k 1 ∧ M' k 2 = M k 2
theorem FrC.rf {k : Nat} {M : Mem} : FrC k M M := ⟨fun _ _ => rfl, rfl, rfl, rfl⟩
theorem FrC.tr {k : Nat} {M M' M'' : Mem} (h : FrC k M M') (h' : FrC k M' M'') : FrC k M M'' := ⟨fun a ha => (h'.1 a ha).trans (h.1 a ha), h'.2.1.trans h.2.1, h'.2.2.1.trans h.2.2.1, h'.2.2.2.trans h.2.2.2⟩
theorem FrC.up {k : Nat} {M M' : Mem} (h : FrC k M M') {a i : Nat} (x : Int32) (ha : k + 2 ≤ a ∧ a ≤ k + 11 ∨ a = k ∧ i ≠ 1 ∧ i ≠ 2) : FrC k M (upM M' a i x) := by
  refine ⟨fun b hb => (upM_row (by omega)).trans (h.1 b hb), (upM_row (by omega)).trans h.2.1, (upM_ne (by omega)).trans h.2.2.1, (upM_ne (by omega)).trans h.2.2.2⟩
/-- the scenario that the class's run at k is prepared for -/
def SC (k : Nat) (R : Nat → Nat) (dl : Nat → Nat → Nat → Nat) (M : Mem) : Prop := M k 1 = nI (R 3) ∧ (∀ r f t, 1 ≤ r → r ≤ 8 → f < 8 → t < 8 → M (k + 1) (64 * r + 8 * f + t) = nI (dl r f t)) ∧ (∀ r f t, dl r f t ≤ 99) ∧ R 3 ≤ 8
theorem SC.fr {k : Nat} {R : Nat → Nat} {dl : Nat → Nat → Nat → Nat} {M M' : Mem} (h : SC k R dl M) (hf : FrC k M M') : SC k R dl M' := ⟨hf.2.2.1.trans h.1, fun r f t a b c d => by rw [hf.2.1]; exact h.2.1 r f t a b c d, h.2.2⟩
theorem cmI_le {x : Nat} {y : Int32} (h : y = if x = 0 then -1 else nI x) : y = cmI x := h
theorem cmI_cmN {R : Nat → Nat} {dl : Nat → Nat → Nat → Nat} {r f t : Nat} (h : 1 ≤ r) : cmI (cmN R dl r f t) = if R 3 < r + dl r f t then -1 else nI (r + dl r f t) := by
  unfold cmI cmN
  by_cases hq : R 3 < r + dl r f t
  · rw [if_neg (show ¬ r + dl r f t ≤ R 3 by omega), if_pos hq, if_pos rfl]
  · rw [if_pos (show r + dl r f t ≤ R 3 by omega), if_neg hq, if_neg (by omega)]
set_option maxHeartbeats 1000000 in
/-- the class's sending -/
theorem C_post {k r sr : Nat} {R : Nat → Nat} {dl : Nat → Nat → Nat → Nat} {Q : Tab} {M : Mem} (hS : SC k R dl M) (hC : RC k r sr Q M) (hL : Q 0 0 < 212) {f t v m : Nat} {mk : Nat → Nat} {c : Int32} (hr1 : 1 ≤ r) (hr : r ≤ 8) (hf : f < 8) (ht : t < 8) (hc : Chn c m mk) (hb : ∀ a, a < 32 → Q 2 a ≤ Q 0 0) : ∃ M', f_Run_post k M (nI (64 * r + 8 * f + t)) (nI v) c = some M' ∧ RC k r sr (sSend R dl (lrec r f t v m mk) Q) M' ∧ FrC k M M' := by
  obtain ⟨h1, h2, h3, h4, h5, h6⟩ := hC
  obtain ⟨s1, s2, s3, s4⟩ := hS
  have s3' := s3 r f t
  have e0 : (nI (64 * r + 8 * f + t)).toNatClampNeg = 64 * r + 8 * f + t := nI_clamp (by omega)
  have e1 : (nI (Q 0 0)).toNatClampNeg = Q 0 0 := nI_clamp (by omega)
  obtain ⟨M', hM'⟩ : ∃ M', M' = upM (upM (upM (upM (upM (upM M (k + 2) (Q 0 0) (nI (64 * r + 8 * f + t))) (k + 3) (Q 0 0) (nI v)) (k + 4) (Q 0 0) c) (k + 5) (Q 0 0) (cmI (cmN R dl r f t))) (k + 6) (Q 0 0) 0) k 4 (nI (Q 0 0 + 1)) := ⟨_, rfl⟩
  have hnew : ∀ b, sSend R dl (lrec r f t v m mk) Q (5 + Q 0 0) b = if b = 5 then cmN R dl r f t else lrec r f t v m mk b := fun b => sSend_new R dl _ Q b
  refine ⟨M', ?_, ⟨?_, ?_, ?_, ?_, ?_, ?_⟩, ?_⟩
  · have key : ∀ x : Int32, f_Run_post_J77 k (upM (upM (upM M (k + 2) (Q 0 0) (nI (64 * r + 8 * f + t))) (k + 3) (Q 0 0) (nI v)) (k + 4) (Q 0 0) c) x (nI (Q 0 0)) = some (upM (upM (upM (upM (upM (upM M (k + 2) (Q 0 0) (nI (64 * r + 8 * f + t))) (k + 3) (Q 0 0) (nI v)) (k + 4) (Q 0 0) c) (k + 5) (Q 0 0) x) (k + 6) (Q 0 0) 0) k 4 (nI (Q 0 0 + 1))) := by
      intro x
      unfold f_Run_post_J77
      simp (disch := omega) only [gIn_nI, e1, lt1_eq, upM_row, h1, nI_succ]
    unfold f_Run_post
    simp (disch := omega) only [h1, j212, nI_ltI, hL, ↓reduceIte, gIn_nI, e0, e1, lt1_eq, upM_row, s1, way_round hf ht, s2 r f t hr1 hr hf ht, nI_add, key]
    rw [hM', cmI_cmN hr1]
    by_cases hq : R 3 < r + dl r f t
    · rw [if_pos hq, if_pos hq]
    · rw [if_neg hq, if_neg hq]
  · rw [hM', upM_eq]
    rfl
  · rw [hM']
    simp (disch := omega) only [upM_row, upM_ne]
    exact h2
  · intro i hi
    rw [sSend_L] at hi
    by_cases e : i = Q 0 0
    · subst e
      unfold RCl
      simp only [hnew, sSend_4, ↓reduceIte]
      rw [hM']
      simp (disch := omega) only [upM_row, upM_ne, upM_eq]
      exact ⟨rfl, rfl, hc.congr (fun i _ => by rw [if_neg (by omega), lrec_6]), trivial, rfl⟩
    · obtain ⟨g1, g2, g3, g4, g5⟩ := h3 i (by omega)
      unfold RCl
      simp only [sSend_old R dl _ Q _ e, sSend_4, if_neg e]
      rw [hM']
      simp (disch := omega) only [upM_row, upM_ne]
      exact ⟨g1, g2, g3, g4, g5⟩
  · intro a ha
    obtain ⟨g1, g2, g3⟩ := h4 a ha
    have hba := hb a ha
    unfold RCc
    rw [sSend_1, sSend_2, hM']
    simp (disch := omega) only [upM_row, upM_ne]
    refine ⟨g1, g2, fun hz => ?_⟩
    have hne : Q 2 a - 1 ≠ Q 0 0 := by omega
    simp only [sSend_old R dl _ Q _ hne]
    exact g3 hz
  · intro a ha
    rw [hM']
    simp (disch := omega) only [upM_row, upM_ne]
    rw [h5 a ha, sSend_3]
    congr 1
    show (if Q 3 a ≤ r then Q 3 a else 99) = _
    by_cases hq : (lie R (lrec r f t v m mk 2) && decide (cmN R dl (lrec r f t v m mk 0) (lrec r f t v m mk 1) (lrec r f t v m mk 2) ≠ 0) && anyB (fun i => a == 4 * lrec r f t v m mk (6 + i) + lrec r f t v m mk 3) (lrec r f t v m mk 4)) = true
    · rw [if_pos hq]
      simp only [Bool.and_eq_true, decide_eq_true_eq] at hq
      have := (cmN_ge hq.1.2).1
      show (if Q 3 a ≤ r then Q 3 a else 99) = if min (Q 3 a) (cmN R dl r f t + 1) ≤ r then min (Q 3 a) (cmN R dl r f t + 1) else 99
      change r ≤ cmN R dl r f t at this
      by_cases h9 : Q 3 a ≤ r
      · rw [if_pos h9, if_pos (by omega)]
        omega
      · rw [if_neg h9, if_neg (by omega)]
    · rw [if_neg hq]
  · intro q p hq hp
    rw [hM']
    simp (disch := omega) only [upM_row, upM_ne]
    rw [h6 q p hq hp]
    unfold setN
    simp only [sSend_1]
  · rw [hM']
    exact ((((((FrC.rf.up _ (by omega)).up _ (by omega)).up _ (by omega)).up _ (by omega)).up _ (by omega)).up _ (by omega))
-- plays
def way (R : Nat → Nat) (q : Nat) : Nat := 64 * R q + 8 * R (q + 1) + R (q + 2)
def wayOK (R : Nat → Nat) (q : Nat) : Prop := 1 ≤ R q ∧ R q ≤ 8 ∧ R (q + 1) < R 0 ∧ R (q + 2) < R 0 ∧ R (q + 1) ≠ R (q + 2)
def planOK (R : Nat → Nat) (q : Nat) : Prop := wayOK R q ∧ R (q + 3) < 4 ∧ 1 ≤ R (q + 4) ∧ R (q + 4) ≤ 8 ∧ (∀ i, i < R (q + 4) → R (q + 5 + i) < R 0) ∧ ∀ i j, i < j → j < R (q + 4) → R (q + 5 + i) ≠ R (q + 5 + j)
/-- R is a play -/
def PV (R : Nat → Nat) : Prop := ((R 0 = 0 ∧ R 1 = 0) ∨ (3 ≤ R 0 ∧ R 0 ≤ 8 ∧ R 1 < R 0)) ∧ R 2 < 4 ∧ 1 ≤ R 3 ∧ R 3 ≤ 8 ∧ R 4 < 4 ∧ 1 ≤ R 5 ∧ R 5 ≤ 4 ∧ R 6 < 2 ^ R 0 ∧ R 7 ≤ 16 ∧ R 8 ≤ 12 ∧ R 9 ≤ 12 ∧ (∀ l, l < R 7 → planOK R (10 + 13 * l)) ∧ (∀ l, l < R 8 → wayOK R (218 + 3 * l)) ∧ (∀ l, l < R 9 → wayOK R (254 + 4 * l) ∧ 1 ≤ R (254 + 4 * l + 3) ∧ R (254 + 4 * l + 3) ≤ 7) ∧ (∀ i j, i < j → j < R 8 → way R (218 + 3 * i) ≠ way R (218 + 3 * j)) ∧ (∀ i j, i < j → j < R 9 → way R (254 + 4 * i) ≠ way R (254 + 4 * j))
/-- the class's play at the cell b is R -/
def PC (R : Nat → Nat) (M : Mem) (b : Nat) : Prop := M b 0 = nI (R 0) ∧ M b 1 = nI (R 6) ∧ M b 2 = nI (R 7) ∧ M b 3 = nI (R 8) ∧ M b 4 = nI (R 9) ∧ (∀ i, i < 5 → M (b + 1) i = nI (R (1 + i))) ∧ (∀ l, l < R 7 → M (b + 2) l = nI (way R (10 + 13 * l)) ∧ M (b + 3) l = nI (R (10 + 13 * l + 3)) ∧ Chn (M (b + 4) l) (R (10 + 13 * l + 4)) (fun i => R (10 + 13 * l + 5 + i))) ∧ (∀ l, l < R 8 → M (b + 5) l = nI (way R (218 + 3 * l))) ∧ (∀ l, l < R 9 → M (b + 6) l = nI (way R (254 + 4 * l)) ∧ M (b + 7) l = nI (R (254 + 4 * l + 3)))
/-- the reference's row is R -/
def PM (R : Nat → Nat) (row : Nat → Int32) : Prop := (∀ i, i < 10 → row i = nI (R i)) ∧ (∀ l i, l < R 7 → i < 5 + R (10 + 13 * l + 4) → row (10 + 13 * l + i) = nI (R (10 + 13 * l + i))) ∧ (∀ l i, l < R 8 → i < 3 → row (218 + 3 * l + i) = nI (R (218 + 3 * l + i))) ∧ (∀ l i, l < R 9 → i < 4 → row (254 + 4 * l + i) = nI (R (254 + 4 * l + i)))
/-- the first place below n with the property; n: none -/
def fstN (p : Nat → Bool) : Nat → Nat
  | 0 => 0
  | n + 1 => if fstN p n < n then fstN p n else if p n = true then n else n + 1
theorem fstN_le (p : Nat → Bool) : ∀ n, fstN p n ≤ n := by
  intro n
  induction n with
  | zero => exact Nat.le_refl 0
  | succ n ih =>
    unfold fstN
    split
    · omega
    · split <;> omega
theorem fstN_of {p : Nat → Bool} {n i : Nat} (hi : i < n) (hp : p i = true) (hn : ∀ j, j < i → p j = false) : fstN p n = i := by
  have none : ∀ m, m ≤ i → fstN p m = m := by
    intro m
    induction m with
    | zero => intro _; rfl
    | succ m ih =>
      intro hm
      unfold fstN
      rw [ih (by omega), if_neg (by omega), if_neg (by rw [hn m (by omega)]; decide)]
  have key : ∀ d, fstN p (i + 1 + d) = i := by
    intro d
    induction d with
    | zero => show fstN p (i + 1) = i; unfold fstN; rw [none i (Nat.le_refl i), if_neg (by omega), if_pos hp]
    | succ d ih => show fstN p (i + 1 + d + 1) = i; unfold fstN; rw [ih, if_pos (by omega)]
  obtain ⟨d, rfl⟩ : ∃ d, n = i + 1 + d := ⟨n - i - 1, by omega⟩
  exact key d
theorem fstN_no {p : Nat → Bool} {n : Nat} (h : ∀ j, j < n → p j = false) : fstN p n = n := by
  induction n with
  | zero => rfl
  | succ n ih =>
    unfold fstN
    rw [ih (fun j hj => h j (by omega)), if_neg (by omega), if_neg (by rw [h n (by omega)]; decide)]
theorem fstN_sp (p : Nat → Bool) (n : Nat) : (fstN p n = n ∧ ∀ j, j < n → p j = false) ∨ (fstN p n < n ∧ p (fstN p n) = true ∧ ∀ j, j < fstN p n → p j = false) := by
  by_cases h : ∀ j, j < n → p j = false
  · exact Or.inl ⟨fstN_no h, h⟩
  · right
    have h' : ∃ j, j < n ∧ p j = true := Classical.byContradiction (fun q => h (fun j hj => by
      cases e : p j with
      | false => rfl
      | true => exact absurd ⟨j, hj, e⟩ q))
    obtain ⟨i, ⟨h1, h2⟩, h3⟩ := pk_least (fun j => j < n ∧ p j = true) h'
    have h4 : ∀ j, j < i → p j = false := fun j hj => by
      cases e : p j with
      | false => rfl
      | true => exact absurd ⟨by omega, e⟩ (h3 j hj)
    rw [fstN_of h1 h2 h4]
    exact ⟨h1, h2, h4⟩
def isW (R : Nat → Nat) (q r f t : Nat) : Bool := decide (R q = r) && decide (R (q + 1) = f) && decide (R (q + 2) = t)
def omI (R : Nat → Nat) (r f t : Nat) : Nat := fstN (fun l => isW R (218 + 3 * l) r f t) (R 8)
def ltI (R : Nat → Nat) (r f t : Nat) : Nat := fstN (fun l => isW R (254 + 4 * l) r f t) (R 9)
/-- by how much what goes this way is late (99: it never comes); x: what is told aside (round, from, to, by) -/
def dlM (R x : Nat → Nat) (r f t : Nat) : Nat := if omI R r f t < R 8 then 99 else if x 0 = r ∧ x 1 = f ∧ x 2 = t then (if x 3 = 0 then 99 else x 3) else if ltI R r f t < R 9 then R (254 + 4 * ltI R r f t + 3) else 0
