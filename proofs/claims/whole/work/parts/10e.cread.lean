/-! the class's reading -/
def RCx (k sr : Nat) (Q : Tab) (M : Mem) : Prop := M k 4 = nI (Q 0 0) ∧ M k 3 = nI (Q 0 1) ∧ (∀ i, i < Q 0 0 → RCl k Q M i) ∧ (∀ c, c < 32 → RCc k Q M c) ∧ (∀ q p, q ≤ sr → p < 8 → M (k + 11) (8 * q + p) = nI (setN Q p q))
theorem RC.x {k r sr : Nat} {Q : Tab} {M : Mem} (h : RC k r sr Q M) : RCx k sr Q M := ⟨h.1, h.2.1, h.2.2.1, h.2.2.2.1, h.2.2.2.2.2⟩
theorem RCx.rc {k r sr : Nat} {Q : Tab} {M : Mem} (h : RCx k sr Q M) (hu : ∀ c, c < 32 → M (k + 10) c = nI (if Q 3 c ≤ r then Q 3 c else 99)) : RC k r sr Q M := ⟨h.1, h.2.1, h.2.2.1, h.2.2.2.1, hu, h.2.2.2.2⟩
theorem C_learn {k r v m : Nat} {M : Mem} {mk U : Nat → Nat} {c : Int32} (hr : r ≤ 8) (hv : v < 4) (hc : Chn c m mk) (hU : ∀ a, a < 32 → M (k + 10) a = nI (U a) ∧ U a ≤ 99) : ∃ M', f_Run_learn k M c (nI v) (nI r) = some M' ∧ (∀ a, a ≠ k + 10 → M' a = M a) ∧ ∀ a, a < 32 → M' (k + 10) a = nI (if anyB (fun i => a == 4 * mk i + v) m = true then min (U a) (r + 1) else U a) := by
  have hm := hc.le
  unfold f_Run_learn f_Run_learn_J3
  rw [bnd_id]
  unfold f_Run_learn_W3
  refine loop_enc (fun i s => (nI i, s)) m (fun i N => (∀ a, a ≠ k + 10 → N a = M a) ∧ ∀ a, a < 32 → N (k + 10) a = nI (if anyB (fun i => a == 4 * mk i + v) i = true then min (U a) (r + 1) else U a)) _ ?_ ?_ 0 M (Nat.zero_le _) ⟨fun _ _ => rfl, fun a ha => (hU a ha).1⟩
  · rintro i N hi ⟨h1, h2⟩
    have hmk := hc.lt hi
    have hcl : 4 * mk i + v < 32 := by omega
    have e2 := h2 _ hcl
    have hUb := (hU _ hcl).2
    refine Or.inl ⟨upM N (k + 10) (4 * mk i + v) (nI (min (if anyB (fun i_1 => 4 * mk i + v == 4 * mk i_1 + v) i = true then min (U (4 * mk i + v)) (r + 1) else U (4 * mk i + v)) (r + 1))), ?_, fun a ha => (upM_row ha).trans (h1 a ha), fun a ha => ?_⟩
    · show f_Run_learn_L3 k c (nI v) (nI r) (nI i) N = _
      unfold f_Run_learn_L3
      rw [Chn_size hc, if_neg (nI_ge hi (by omega)), Chn_mark hc hi, cell_of, gIn_nI hcl (by decide), nI_clamp (by omega), lt1_eq, e2, j1, nI_add, nI_add, miI_nI (by split <;> omega) (by omega)]
    · by_cases q : a = 4 * mk i + v
      · subst q
        rw [upM_eq]
        congr 1
        have : anyB (fun i_1 => 4 * mk i + v == 4 * mk i_1 + v) (i + 1) = true := anyB_iff.mpr ⟨i, by omega, by simp⟩
        rw [if_pos this]
        split <;> omega
      · rw [upM_ne (fun _ => q), h2 a ha]
        congr 1
        have : anyB (fun i_1 => a == 4 * mk i_1 + v) (i + 1) = anyB (fun i_1 => a == 4 * mk i_1 + v) i := by
          show (anyB _ i || (a == 4 * mk i + v)) = _
          rw [show (a == 4 * mk i + v) = false by simpa using q, Bool.or_false]
        rw [this]
  · rintro N ⟨h1, h2⟩
    refine ⟨N, ?_, h1, h2⟩
    show f_Run_learn_L3 k c (nI v) (nI r) (nI m) N = _
    unfold f_Run_learn_L3
    rw [Chn_size hc, if_pos ((nI_leI (by omega) (by omega)).mpr (Nat.le_refl _))]
theorem setN_lt (Q : Tab) (p r : Nat) : setN Q p r < 16 := by
  unfold setN
  split <;> split <;> split <;> split <;> decide
theorem setN_and {Q : Tab} {p r v : Nat} (hv : v < 4) : nI (setN Q p r) &&& ((1 : Int32) <<< (nI v &&& 31)) = 0 ↔ ¬ Q 1 (4 * p + v) ≤ r := by
  unfold setN
  rcases (show v = 0 ∨ v = 1 ∨ v = 2 ∨ v = 3 by omega) with rfl | rfl | rfl | rfl
  · show _ ↔ ¬ Q 1 (4 * p) ≤ r
    by_cases h0 : Q 1 (4 * p) ≤ r <;> by_cases h1 : Q 1 (4 * p + 1) ≤ r <;> by_cases h2 : Q 1 (4 * p + 2) ≤ r <;> by_cases h3 : Q 1 (4 * p + 3) ≤ r <;> simp only [h0, h1, h2, h3, ↓reduceIte] <;> decide
  · by_cases h0 : Q 1 (4 * p) ≤ r <;> by_cases h1 : Q 1 (4 * p + 1) ≤ r <;> by_cases h2 : Q 1 (4 * p + 2) ≤ r <;> by_cases h3 : Q 1 (4 * p + 3) ≤ r <;> simp only [h0, h1, h2, h3, ↓reduceIte] <;> decide
  · by_cases h0 : Q 1 (4 * p) ≤ r <;> by_cases h1 : Q 1 (4 * p + 1) ≤ r <;> by_cases h2 : Q 1 (4 * p + 2) ≤ r <;> by_cases h3 : Q 1 (4 * p + 3) ≤ r <;> simp only [h0, h1, h2, h3, ↓reduceIte] <;> decide
  · by_cases h0 : Q 1 (4 * p) ≤ r <;> by_cases h1 : Q 1 (4 * p + 1) ≤ r <;> by_cases h2 : Q 1 (4 * p + 2) ≤ r <;> by_cases h3 : Q 1 (4 * p + 3) ≤ r <;> simp only [h0, h1, h2, h3, ↓reduceIte] <;> decide
theorem setN_or {Q Q' : Tab} {p r v : Nat} (hv : v < 4) (h : ¬ Q 1 (4 * p + v) ≤ r) (h' : Q' 1 (4 * p + v) ≤ r) (ho : ∀ o, o < 4 → o ≠ v → Q' 1 (4 * p + o) = Q 1 (4 * p + o)) : nI (setN Q p r) ||| ((1 : Int32) <<< (nI v &&& 31)) = nI (setN Q' p r) := by
  have h0 := ho 0 (by decide)
  have h1 := ho 1 (by decide)
  have h2 := ho 2 (by decide)
  have h3 := ho 3 (by decide)
  unfold setN
  rw [Nat.add_zero] at h0
  rcases (show v = 0 ∨ v = 1 ∨ v = 2 ∨ v = 3 by omega) with rfl | rfl | rfl | rfl
  · rw [Nat.add_zero] at h h'
    rw [if_neg h, if_pos h', h1 (by decide), h2 (by decide), h3 (by decide)]
    split <;> split <;> split <;> decide
  · rw [if_neg h, if_pos h', h0 (by decide), h2 (by decide), h3 (by decide)]
    split <;> split <;> split <;> decide
  · rw [if_neg h, if_pos h', h0 (by decide), h1 (by decide), h3 (by decide)]
    split <;> split <;> split <;> decide
  · rw [if_neg h, if_pos h', h0 (by decide), h1 (by decide), h2 (by decide)]
    split <;> split <;> split <;> decide
theorem setN_cong {Q Q' : Tab} {p q : Nat} (h : ∀ o, o < 4 → (Q' 1 (4 * p + o) ≤ q ↔ Q 1 (4 * p + o) ≤ q)) : setN Q' p q = setN Q p q := by
  unfold setN
  have h0 := h 0 (by decide)
  rw [Nat.add_zero] at h0
  simp only [h0, h 1 (by decide), h 2 (by decide), h 3 (by decide)]
set_option maxHeartbeats 1000000 in
/-- a letter that counts is read by the class -/
theorem C_take {k r i : Nat} {R : Nat → Nat} {Q : Tab} {M : Mem} (hV : PV R) (hC : RCx k r Q M) (hI : INV R r Q) (hr1 : 1 ≤ r) (hr : r ≤ 8) (hi : i < Q 0 0) (hL : Q 0 0 ≤ 212) (hc : (decide (Q (5 + i) 5 = r) && !lie R (Q (5 + i) 2) && decide (Q (5 + i) 6 = R 1) && decide (r ≤ Q (5 + i) 4)) = true) : ∃ y M', f_Run_takes k M (nI i) (nI (Q (5 + i) 2)) (nI r) = some (y, M') ∧ RCx k r (sRd R r i Q) (upM M' (k + 6) i (if y = true then 2 else 1)) ∧ FrC k M (upM M' (k + 6) i (if y = true then 2 else 1)) ∧ (upM M' (k + 6) i (if y = true then 2 else 1)) (k + 10) = M (k + 10) ∧ (∀ b, M' k b = M k b) := by
  have hn := pv_n hV
  obtain ⟨h1, h2, h3, h4, h5⟩ := hC
  obtain ⟨i1, i2, i3⟩ := hI
  obtain ⟨⟨a1, a2, a3, a4, a5, a6, a7⟩, b1, b2, b3, b4⟩ := i1 i hi
  obtain ⟨l1, l2, l3, l4, l5⟩ := h3 i hi
  have hcl : 4 * Q (5 + i) 2 + Q (5 + i) 3 < 32 := by omega
  obtain ⟨c1, c2, c3, c4, c5, c6, c7, c8⟩ := i2 _ hcl
  have hset := h5 r (Q (5 + i) 2) (Nat.le_refl _) (by omega)
  have erow : f_Run_rowOf (nI r) + nI (Q (5 + i) 2) = nI (8 * r + Q (5 + i) 2) := by
    unfold f_Run_rowOf
    rw [j8, pk_mul, nI_add, Nat.mul_comm]
  have hand := setN_and (Q := Q) (p := Q (5 + i) 2) (r := r) a5
  have start : f_Run_takes k M (nI i) (nI (Q (5 + i) 2)) (nI r) = if (nI (setN Q (Q (5 + i) 2) r) &&& ((1 : Int32) <<< (nI (Q (5 + i) 3) &&& 31))) = 0 then some (true, upM (upM (upM (upM M (k + 11) (8 * r + Q (5 + i) 2) (nI (setN Q (Q (5 + i) 2) r) ||| ((1 : Int32) <<< (nI (Q (5 + i) 3) &&& 31)))) (k + 7) (4 * Q (5 + i) 2 + Q (5 + i) 3) (nI r)) (k + 8) (4 * Q (5 + i) 2 + Q (5 + i) 3) (nI (Q (5 + i) 1))) (k + 9) (4 * Q (5 + i) 2 + Q (5 + i) 3) (M (k + 4) i)) else some (false, M) := by
    unfold f_Run_takes
    rw [gIn_nI (by omega) (by decide), erow, gIn_nI (by omega) (by decide), nI_clamp (by omega), nI_clamp (by omega), hset, l2]
    split
    · simp (disch := omega) only [lt1_eq, upM_row, l2, cell_of, gIn_nI, nI_clamp, l1]
      rw [way_from (by omega) (by omega) (by omega)]
    · rfl
  by_cases h99 : Q 1 (4 * Q (5 + i) 2 + Q (5 + i) 3) = 99
  · have e : sRd R r i Q = upN (upN (upN Q 4 i 2) 1 (4 * Q (5 + i) 2 + Q (5 + i) 3) r) 2 (4 * Q (5 + i) 2 + Q (5 + i) 3) (i + 1) := by unfold sRd; rw [if_pos hc, if_pos h99]
    obtain ⟨z0, z3, z5, z4⟩ := sRd_sp R r i Q
    have z4' : sRd R r i Q 4 i = 2 := by rw [e, upN_ne (by omega), upN_ne (by omega), upN_eq]
    have e1 : ∀ c, sRd R r i Q 1 c = if c = 4 * Q (5 + i) 2 + Q (5 + i) 3 then r else Q 1 c := by
      intro c
      rw [e, upN_ne (by omega), upN_get]
      by_cases z : c = 4 * Q (5 + i) 2 + Q (5 + i) 3
      · rw [if_pos ⟨rfl, z⟩, if_pos z]
      · rw [if_neg (fun q => z q.2), if_neg z, upN_ne (by omega)]
    have e2 : ∀ c, sRd R r i Q 2 c = if c = 4 * Q (5 + i) 2 + Q (5 + i) 3 then i + 1 else Q 2 c := by
      intro c
      rw [e, upN_get]
      by_cases z : c = 4 * Q (5 + i) 2 + Q (5 + i) 3
      · rw [if_pos ⟨rfl, z⟩, if_pos z]
      · rw [if_neg (fun q => z q.2), if_neg z, upN_ne (by omega), upN_ne (by omega)]
    refine ⟨true, _, by rw [start, if_pos (hand.mpr (by omega))], ⟨?_, ?_, ?_, ?_, ?_⟩, ?_, ?_, ?_⟩
    · simp (disch := omega) only [upM_row]
      rw [z0]
      exact h1
    · simp (disch := omega) only [upM_row]
      rw [z0]
      exact h2
    · intro j hj
      rw [z0] at hj
      obtain ⟨m1, m2, m3, m4, m5⟩ := h3 j hj
      unfold RCl
      simp only [z5]
      simp (disch := omega) only [upM_row]
      refine ⟨m1, m2, m3, m4, ?_⟩
      by_cases w : j = i
      · subst w
        rw [upM_eq, z4']
        rfl
      · rw [upM_ne (fun _ => w), z4 j w]
        simp (disch := omega) only [upM_row]
        exact m5
    · intro c hc'
      obtain ⟨m1, m2, m3⟩ := h4 c hc'
      unfold RCc
      simp only [z5, e1, e2]
      simp (disch := omega) only [upM_row]
      by_cases z : c = 4 * Q (5 + i) 2 + Q (5 + i) 3
      · simp only [if_pos z]
        subst z
        simp (disch := omega) only [upM_row, upM_eq]
        exact ⟨by first | trivial | rfl, fun w => absurd w (by omega), fun _ => ⟨rfl, l3⟩⟩
      · simp only [if_neg z]
        simp (disch := omega) only [upM_row, upM_ne]
        exact ⟨m1, m2, m3⟩
    · intro q p hq hp
      simp (disch := omega) only [upM_row]
      by_cases z : q = r ∧ p = Q (5 + i) 2
      · obtain ⟨rfl, rfl⟩ := z
        rw [upM_eq]
        refine setN_or a5 (by omega) (by rw [e1, if_pos rfl]; omega) (fun o ho hne => ?_)
        rw [e1, if_neg (by omega)]
      · rw [upM_ne (fun _ w => z (by omega)), h5 q p hq hp]
        congr 1
        refine (setN_cong (fun o ho => ?_)).symm
        rw [e1]
        by_cases w : 4 * p + o = 4 * Q (5 + i) 2 + Q (5 + i) 3
        · rw [if_pos w, w, h99]
          omega
        · rw [if_neg w]
    · exact (((((FrC.rf.up _ (by omega)).up _ (by omega)).up _ (by omega)).up _ (by omega)).up _ (by omega))
    · simp (disch := omega) only [upM_row]
    · intro b
      simp (disch := omega) only [upM_row]
  · have e : sRd R r i Q = upN Q 4 i 1 := by unfold sRd; rw [if_pos hc, if_neg h99]
    obtain ⟨z0, z3, z5, z4⟩ := sRd_sp R r i Q
    have z4' : sRd R r i Q 4 i = 1 := by rw [e, upN_eq]
    have e1 : ∀ c, sRd R r i Q 1 c = Q 1 c := fun c => by rw [e, upN_ne (by omega)]
    have e2 : ∀ c, sRd R r i Q 2 c = Q 2 c := fun c => by rw [e, upN_ne (by omega)]
    refine ⟨false, M, by rw [start, if_neg (fun w => (hand.mp w) (by omega))], ⟨?_, ?_, ?_, ?_, ?_⟩, ?_, ?_, fun _ => rfl⟩
    · simp (disch := omega) only [upM_row]
      rw [z0]
      exact h1
    · simp (disch := omega) only [upM_row]
      rw [z0]
      exact h2
    · intro j hj
      rw [z0] at hj
      obtain ⟨m1, m2, m3, m4, m5⟩ := h3 j hj
      unfold RCl
      simp only [z5]
      simp (disch := omega) only [upM_row]
      refine ⟨m1, m2, m3, m4, ?_⟩
      by_cases w : j = i
      · subst w
        rw [upM_eq, z4']
        rfl
      · rw [upM_ne (fun _ => w), z4 j w]
        exact m5
    · intro c hc'
      have := h4 c hc'
      unfold RCc at this ⊢
      simp only [z5, e1, e2]
      simp (disch := omega) only [upM_row]
      exact this
    · intro q p hq hp
      simp (disch := omega) only [upM_row]
      rw [h5 q p hq hp]
      congr 1
      exact (setN_cong (fun o ho => by rw [e1])).symm
    · exact FrC.rf.up _ (by omega)
    · simp (disch := omega) only [upM_row]

def lrn (R : Nat → Nat) (Q : Tab) (r a i : Nat) : Bool := decide (Q (5 + i) 5 = r) && lie R (Q (5 + i) 2) && anyB (fun e => a == 4 * Q (5 + i) (6 + e) + Q (5 + i) 3) (Q (5 + i) 4)
def uR (R : Nat → Nat) (Q : Tab) (r j a : Nat) : Nat := if Q 3 a ≤ r then Q 3 a else if anyB (fun i => lrn R Q r a i) j = true then r + 1 else 99
theorem uR_end {R : Nat → Nat} {Q : Tab} {r a : Nat} (hI : INV R r Q) (ha : a < 32) (hr1 : 1 ≤ r) (hr : r ≤ 8) : uR R Q r (Q 0 0) a = if Q 3 a ≤ r + 1 then Q 3 a else 99 := by
  obtain ⟨u1, u2⟩ := hI.2.2 a ha
  unfold uR
  by_cases h : Q 3 a ≤ r
  · rw [if_pos h, if_pos (by omega)]
  · rw [if_neg h]
    have hl : lie R (a / 4) = false := by
      cases e : lie R (a / 4) with
      | false => rfl
      | true => have := u1 e; omega
    obtain ⟨w1, w2⟩ := u2 hl
    by_cases h1 : Q 3 a ≤ r + 1
    · rw [if_pos h1]
      rcases w1 with w1 | ⟨i, c1, c2, c3, c4, c5, j, c6, c7⟩
      · omega
      · rw [if_pos]
        · omega
        · refine anyB_iff.mpr ⟨i, c1, ?_⟩
          unfold lrn
          simp only [Bool.and_eq_true, decide_eq_true_eq]
          refine ⟨⟨by omega, c2⟩, anyB_iff.mpr ⟨j, c6, ?_⟩⟩
          have : a = 4 * Q (5 + i) (6 + j) + Q (5 + i) 3 := by omega
          simpa using this
    · rw [if_neg h1, if_neg]
      intro w
      obtain ⟨i, c1, c2⟩ := anyB_iff.mp w
      unfold lrn at c2
      simp only [Bool.and_eq_true, decide_eq_true_eq] at c2
      obtain ⟨⟨c3, c4⟩, c5⟩ := c2
      obtain ⟨j, c6, c7⟩ := anyB_iff.mp c5
      have c7 : a = 4 * Q (5 + i) (6 + j) + Q (5 + i) 3 := by simpa using c7
      have hq3 := (hI.1 i c1).1.2.2.2.2.1
      have := w2 i c1 c4 (by omega) (by omega) ⟨j, c6, by omega⟩
      omega
theorem RCx.fr10 {k sr : Nat} {Q : Tab} {M M' : Mem} (h : RCx k sr Q M) (he : ∀ a, a ≠ k + 10 → M' a = M a) : RCx k sr Q M' := by
  unfold RCx RCl RCc at h ⊢
  simp (disch := omega) only [he]
  exact h
set_option maxHeartbeats 1000000 in
theorem C_readAll {k r : Nat} {R : Nat → Nat} {Q : Tab} {M : Mem} (hk : 112 ≤ k) (hV : PV R) (hcs : CS R M) (hC : RC k r r Q M) (hI : INV R r Q) (hr1 : 1 ≤ r) (hr : r ≤ 8) (hL : Q 0 0 ≤ 212) : ∃ M', f_Run_readAll k M (nI r) = some M' ∧ RC k (r + 1) r (sRds R r Q) M' ∧ FrC k M M' := by
  have hn := pv_n hV
  unfold f_Run_readAll f_Run_readAll_J2
  rw [bnd_id]
  unfold f_Run_readAll_W2 sRds
  suffices hh : ∃ M', loop (fun t => f_Run_readAll_L2 k (nI r) t.1 t.2) (nI 0, M) = some M' ∧ (RCx k r (itr (fun k Q => sRd R r k Q) (Q 0 0) Q) M' ∧ (∀ a, a < 32 → M' (k + 10) a = nI (uR R Q r (Q 0 0) a)) ∧ FrC k M M') by
    obtain ⟨M', h1, h2, h3, h4⟩ := hh
    refine ⟨M', h1, h2.rc (fun c hc => ?_), h4⟩
    obtain ⟨-, -, m3, -, -⟩ := sRds_sp hV hI hr1 hr (Q 0 0) (Nat.le_refl _)
    rw [h3 c hc, uR_end hI hc hr1 hr, m3]
  refine loop_enc (fun i s => (nI i, s)) (Q 0 0) (fun i N => RCx k r (itr (fun k Q => sRd R r k Q) i Q) N ∧ (∀ a, a < 32 → N (k + 10) a = nI (uR R Q r i a)) ∧ FrC k M N) _ ?_ ?_ 0 M (Nat.zero_le _) ⟨hC.x, fun a ha => ?_, FrC.rf⟩
  · rintro i N hi ⟨h1, h2, h3⟩
    left
    have ei : itr (fun k Q => sRd R r k Q) (i + 1) Q = sRd R r i (itr (fun k Q => sRd R r k Q) i Q) := rfl
    obtain ⟨g1, g2, g3, g4, g5⟩ := sRds_sp hV hI hr1 hr i (by omega)
    have hcN := hcs.fr hk h3
    rw [ei]
    generalize itr (fun k Q => sRd R r k Q) i Q = T at *
    have hiT : i < T 0 0 := by rw [g2]; exact hi
    obtain ⟨l1, l2, l3, l4, l5⟩ := h1.2.2.1 i hiT
    obtain ⟨⟨a1, a2, a3, a4, a5, a6, a7⟩, b1, b2, b3, b4⟩ := g1.1 i hiT
    have hR3 := hV.2.2.2.1
    have start : f_Run_readAll_L2 k (nI r) (nI i) N = if T (5 + i) 5 = r then (if lie R (T (5 + i) 2) = true then bnd (f_Run_learn k N (N (k + 4) i) (nI (T (5 + i) 3)) (nI r)) (fun M8 => some (.inl (nI i + (1 : Int32), M8))) else if (decide (T (5 + i) 6 = R 1) && decide (r ≤ T (5 + i) 4)) = true then bnd2 (f_Run_takes k N (nI i) (nI (T (5 + i) 2)) (nI r)) (fun y6 M5 => if (bI y6) = 0 then f_Run_readAll_J95 k M5 (nI r) (nI i) (1 : Int32) (nI i) else f_Run_readAll_J95 k M5 (nI r) (nI i) (2 : Int32) (nI i)) else some (.inl (nI i + (1 : Int32), N))) else some (.inl (nI i + (1 : Int32), N)) := by
      unfold f_Run_readAll_L2
      rw [h1.1, g2, if_neg (nI_ge hi (by omega)), gIn_nI (by omega) (by decide), nI_clamp (by omega), l4, l1, way_to (by omega) (by omega) (by omega), C_isLiar hV hcN.1 hcN.2.1 (by omega), l2]
      have e5 : cmI (T (5 + i) 5) = nI r ↔ T (5 + i) 5 = r := by
        unfold cmI
        by_cases z : T (5 + i) 5 = 0
        · rw [if_pos z]
          constructor
          · intro w; exact absurd w.symm (nI_neg1 (by omega))
          · intro w; omega
        · rw [if_neg z, nI_eq (by omega) (by omega)]
      by_cases w5 : T (5 + i) 5 = r
      · rw [if_pos w5, if_pos (e5.mpr w5)]
        by_cases wl : lie R (T (5 + i) 2) = true
        · rw [wl, if_neg (by decide), if_pos rfl]
        · have wl' : lie R (T (5 + i) 2) = false := by simpa using wl
          rw [wl', if_pos (show bI false = 0 from rfl), if_neg (show ¬ false = true by decide)]
          have ec : f_Run_counts k N (N (k + 4) i) (nI r) = (decide (T (5 + i) 6 = R 1) && decide (r ≤ T (5 + i) 4)) := by
            unfold f_Run_counts f_Run_counts_J29
            have := Chn_mark l3 (i := 0) (by omega)
            rw [show (0 : Int32) = nI 0 from rfl, this, Chn_size l3, hcN.2.2.1]
            have q0 : T (5 + i) 6 < R 0 := (b1 0 (by omega)).1
            have hR1 : R 1 < 8 := by have := hV.1; omega
            show (if nI (T (5 + i) (6 + 0)) = nI (R 1) then _ else _) = _
            by_cases z1 : T (5 + i) 6 = R 1
            · rw [if_pos (by rw [show 6 + 0 = 6 from rfl, z1])]
              by_cases z2 : r ≤ T (5 + i) 4
              · rw [if_neg (nI_nlt z2 (by omega))]
                simp [z1, z2]
              · rw [if_pos (nI_lt (by omega) (by omega))]
                simp [z2]
            · rw [if_neg (fun w => z1 ((nI_eq (by omega) (by omega)).mp w))]
              simp [z1]
          rw [ec]
          by_cases wc : (decide (T (5 + i) 6 = R 1) && decide (r ≤ T (5 + i) 4)) = true
          · rw [wc, if_neg (by decide), if_pos rfl]
          · have wc' : (decide (T (5 + i) 6 = R 1) && decide (r ≤ T (5 + i) 4)) = false := by simpa using wc
            rw [wc', if_pos (by decide), if_neg (by decide)]
      · rw [if_neg w5, if_neg (fun w => w5 (e5.mp w))]
    have huB : ∀ a, a < 32 → uR R Q r i a ≤ 99 := fun a ha => by
      unfold uR
      split
      · omega
      · split <;> omega
    have hlrn : ∀ a, lrn R Q r a i = (decide (T (5 + i) 5 = r) && lie R (T (5 + i) 2) && anyB (fun e => a == 4 * T (5 + i) (6 + e) + T (5 + i) 3) (T (5 + i) 4)) := fun a => by
      unfold lrn
      simp only [← g4]
    have hkeep : (∀ a, a < 32 → lrn R Q r a i = false) → ∀ a, a < 32 → uR R Q r (i + 1) a = uR R Q r i a := fun hz a ha => by
      unfold uR
      have : anyB (fun i => lrn R Q r a i) (i + 1) = anyB (fun i => lrn R Q r a i) i := by
        show (anyB _ i || lrn R Q r a i) = _
        rw [hz a ha, Bool.or_false]
      rw [this]
    by_cases w5 : T (5 + i) 5 = r
    · by_cases wl : lie R (T (5 + i) 2) = true
      · obtain ⟨N', p1, p2, p3⟩ := C_learn (k := k) (r := r) (v := T (5 + i) 3) (M := N) (U := uR R Q r i) hr a5 l3 (fun a ha => ⟨h2 a ha, huB a ha⟩)
        refine ⟨N', ?_, ?_, fun a ha => ?_, h3.tr ⟨fun b hb => p2 b (by omega), p2 _ (by omega), by rw [p2 k (by omega)], by rw [p2 k (by omega)]⟩⟩
        · show f_Run_readAll_L2 k (nI r) (nI i) N = _
          rw [start, if_pos w5, if_pos wl, p1, bnd_some, nI_succ]
        · have es : sRd R r i T = T := by unfold sRd; rw [if_neg (by rw [wl]; simp)]
          rw [es]
          exact h1.fr10 p2
        · rw [p3 a ha]
          congr 1
          unfold uR
          have hs : anyB (fun i => lrn R Q r a i) (i + 1) = (anyB (fun i => lrn R Q r a i) i || anyB (fun e => a == 4 * T (5 + i) (6 + e) + T (5 + i) 3) (T (5 + i) 4)) := by
            show (anyB _ i || lrn R Q r a i) = _
            rw [hlrn, w5, wl]
            simp
          rw [hs]
          by_cases z1 : Q 3 a ≤ r
          · simp only [if_pos z1]
            split <;> omega
          · simp only [if_neg z1]
            by_cases z2 : anyB (fun e => a == 4 * T (5 + i) (6 + e) + T (5 + i) 3) (T (5 + i) 4) = true
            · rw [if_pos z2, z2, Bool.or_true, if_pos rfl]
              split <;> omega
            · have z2' : anyB (fun e => a == 4 * T (5 + i) (6 + e) + T (5 + i) 3) (T (5 + i) 4) = false := by simpa using z2
              rw [z2', Bool.or_false, if_neg (by decide)]
      · have wl' : lie R (T (5 + i) 2) = false := by simpa using wl
        have hz : ∀ a, a < 32 → lrn R Q r a i = false := fun a _ => by rw [hlrn, wl']; simp
        by_cases wc : (decide (T (5 + i) 6 = R 1) && decide (r ≤ T (5 + i) 4)) = true
        · have wc2 : (decide (T (5 + i) 5 = r) && !lie R (T (5 + i) 2) && decide (T (5 + i) 6 = R 1) && decide (r ≤ T (5 + i) 4)) = true := by
            simp only [Bool.and_eq_true, decide_eq_true_eq] at wc
            simp [w5, wl', wc.1, wc.2]
          obtain ⟨y, N', p1, p2, p3, p4, p5⟩ := C_take hV h1 g1 hr1 hr hiT (by rw [g2]; exact hL) wc2
          refine ⟨upM N' (k + 6) i (if y = true then 2 else 1), ?_, p2, fun a ha => ?_, h3.tr p3⟩
          · show f_Run_readAll_L2 k (nI r) (nI i) N = _
            rw [start, if_pos w5, if_neg wl, if_pos wc, p1, bnd2_some]
            unfold f_Run_readAll_J95
            cases y
            · rw [if_pos (by decide), gIn_nI (by omega) (by decide), nI_clamp (by omega), lt1_eq, nI_succ]
              rfl
            · rw [if_neg (by decide), gIn_nI (by omega) (by decide), nI_clamp (by omega), lt1_eq, nI_succ]
              rfl
          · rw [p4, h2 a ha, hkeep hz a ha]
        · refine ⟨N, ?_, ?_, fun a ha => by rw [h2 a ha, hkeep hz a ha], h3⟩
          · show f_Run_readAll_L2 k (nI r) (nI i) N = _
            rw [start, if_pos w5, if_neg wl, if_neg wc, nI_succ]
          · have es : sRd R r i T = T := by
              unfold sRd
              rw [if_neg]
              intro z
              apply wc
              simp only [Bool.and_eq_true, decide_eq_true_eq] at z ⊢
              exact ⟨z.1.2, z.2⟩
            rw [es]
            exact h1
    · have hz : ∀ a, a < 32 → lrn R Q r a i = false := fun a _ => by rw [hlrn]; simp [w5]
      refine ⟨N, ?_, ?_, fun a ha => by rw [h2 a ha, hkeep hz a ha], h3⟩
      · show f_Run_readAll_L2 k (nI r) (nI i) N = _
        rw [start, if_neg w5, nI_succ]
      · have es : sRd R r i T = T := by
          unfold sRd
          rw [if_neg (by simp [w5])]
        rw [es]
        exact h1
  · rintro N ⟨h1, h2, h3⟩
    refine ⟨N, ?_, h1, h2, h3⟩
    obtain ⟨g1, g2, -⟩ := sRds_sp hV hI hr1 hr (Q 0 0) (Nat.le_refl _)
    show f_Run_readAll_L2 k (nI r) (nI (Q 0 0)) N = _
    unfold f_Run_readAll_L2
    rw [h1.1, g2, if_pos ((nI_leI (by omega) (by omega)).mpr (Nat.le_refl _))]
  · rw [hC.2.2.2.2.1 a ha]
    rfl
