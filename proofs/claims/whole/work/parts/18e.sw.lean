/-! two parties traded -/
def swN (x a b : Nat) : Nat := if x = a then b else if x = b then a else x
theorem swN_lt {x a b n : Nat} (hx : x < n) (ha : a < n) (hb : b < n) : swN x a b < n := by
  unfold swN
  split
  · exact hb
  · split
    · exact ha
    · exact hx
theorem swN_inj {x y a b : Nat} (h : swN x a b = swN y a b) : x = y := by
  unfold swN at h
  split at h <;> split at h <;> (try split at h) <;> (try split at h) <;> omega
theorem swN_sw (x a b : Nat) : swN (swN x a b) a b = x := by
  unfold swN
  split
  · split <;> (try split) <;> omega
  · split
    · split <;> (try split) <;> omega
    · rfl
theorem swN_id {x a b n : Nat} (hx : n ≤ x) (ha : a < n) (hb : b < n) : swN x a b = x := by
  unfold swN
  rw [if_neg (by omega), if_neg (by omega)]
def swL (R : Nat → Nat) (a b : Nat) : Nat := orN (fun p => lie R (swN p a b)) 8
def swR (R : Nat → Nat) (a b : Nat) : Nat → Nat := fun j =>
  if j = 1 then swN (R 1) a b else if j = 6 then swL R a b
  else if 10 ≤ j ∧ j < 218 ∧ ((j - 10) % 13 = 1 ∨ (j - 10) % 13 = 2 ∨ 5 ≤ (j - 10) % 13) then swN (R j) a b
  else if 218 ≤ j ∧ j < 254 ∧ (j - 218) % 3 ≠ 0 then swN (R j) a b
  else if 254 ≤ j ∧ ((j - 254) % 4 = 1 ∨ (j - 254) % 4 = 2) then swN (R j) a b else R j
theorem swR_lo {R : Nat → Nat} {a b j : Nat} (h : j < 10) (h1 : j ≠ 1) (h6 : j ≠ 6) : swR R a b j = R j := by
  unfold swR
  rw [if_neg h1, if_neg h6, if_neg (by omega), if_neg (by omega), if_neg (by omega)]
theorem swR_1 {R : Nat → Nat} {a b : Nat} : swR R a b 1 = swN (R 1) a b := if_pos rfl
theorem swR_6 {R : Nat → Nat} {a b : Nat} : swR R a b 6 = swL R a b := rfl
theorem swR_pl {R : Nat → Nat} {a b l i : Nat} (hl : l < 16) (hi : i < 13) : swR R a b (10 + 13 * l + i) = if i = 1 ∨ i = 2 ∨ 5 ≤ i then swN (R (10 + 13 * l + i)) a b else R (10 + 13 * l + i) := by
  unfold swR
  rw [if_neg (by omega), if_neg (by omega)]
  by_cases w : i = 1 ∨ i = 2 ∨ 5 ≤ i
  · rw [if_pos w, if_pos ⟨by omega, by omega, by omega⟩]
  · rw [if_neg w, if_neg (by omega), if_neg (by omega), if_neg (by omega)]
theorem swR_om {R : Nat → Nat} {a b l i : Nat} (hl : l < 12) (hi : i < 3) : swR R a b (218 + 3 * l + i) = if i = 0 then R (218 + 3 * l + i) else swN (R (218 + 3 * l + i)) a b := by
  unfold swR
  rw [if_neg (by omega), if_neg (by omega), if_neg (by omega)]
  by_cases w : i = 0
  · rw [if_pos w, if_neg (by omega), if_neg (by omega)]
  · rw [if_neg w, if_pos ⟨by omega, by omega, by omega⟩]
theorem swR_lt {R : Nat → Nat} {a b l i : Nat} (hi : i < 4) : swR R a b (254 + 4 * l + i) = if i = 1 ∨ i = 2 then swN (R (254 + 4 * l + i)) a b else R (254 + 4 * l + i) := by
  unfold swR
  rw [if_neg (by omega), if_neg (by omega), if_neg (by omega), if_neg (by omega)]
  by_cases w : i = 1 ∨ i = 2
  · rw [if_pos w, if_pos ⟨by omega, by omega⟩]
  · rw [if_neg w, if_neg (by omega)]
theorem swL_bit {R : Nat → Nat} {a b : Nat} (hV : PV R) (ha : a < R 0) (hb : b < R 0) (p : Nat) : (swL R a b).testBit p = lie R (swN p a b) := by
  have hn := pv_n hV
  have v6 := hV.2.2.2.2.2.2.2.1
  unfold swL
  rw [orN_bit]
  by_cases w : p < 8
  · rw [decide_eq_true w, Bool.true_and]
  · rw [decide_eq_false w, Bool.false_and, swN_id (n := R 0) (by omega) ha hb]
    unfold lie
    rw [Nat.testBit_lt_two_pow (Nat.lt_of_lt_of_le v6 (Nat.pow_le_pow_right (by decide) (by omega)))]
theorem wayOK.sw {R : Nat → Nat} {a b q : Nat} (h : wayOK R q) (ha : a < R 0) (hb : b < R 0) (e0 : swR R a b q = R q) (e1 : swR R a b (q + 1) = swN (R (q + 1)) a b) (e2 : swR R a b (q + 2) = swN (R (q + 2)) a b) : wayOK (swR R a b) q := by
  obtain ⟨h1, h2, h3, h4, h5⟩ := h
  have z : swR R a b 0 = R 0 := swR_lo (by decide) (by decide) (by decide)
  unfold wayOK
  rw [e0, e1, e2, z]
  exact ⟨h1, h2, swN_lt h3 ha hb, swN_lt h4 ha hb, fun y => h5 (swN_inj y)⟩
theorem way_sw {R : Nat → Nat} {a b q q' : Nat} (hn : R 0 ≤ 8) (h : wayOK R q) (h' : wayOK R q') (ha : a < R 0) (hb : b < R 0) (e0 : swR R a b q = R q) (e1 : swR R a b (q + 1) = swN (R (q + 1)) a b) (e2 : swR R a b (q + 2) = swN (R (q + 2)) a b) (f0 : swR R a b q' = R q') (f1 : swR R a b (q' + 1) = swN (R (q' + 1)) a b) (f2 : swR R a b (q' + 2) = swN (R (q' + 2)) a b) (hne : way R q ≠ way R q') : way (swR R a b) q ≠ way (swR R a b) q' := by
  unfold way
  rw [e0, e1, e2, f0, f1, f2]
  intro y
  have l1 := swN_lt h.2.2.1 ha hb
  have l2 := swN_lt h.2.2.2.1 ha hb
  have l3 := swN_lt h'.2.2.1 ha hb
  have l4 := swN_lt h'.2.2.2.1 ha hb
  have y1 : R q = R q' := by omega
  have y2 : R (q + 1) = R (q' + 1) := swN_inj (a := a) (b := b) (by omega)
  have y3 : R (q + 2) = R (q' + 2) := swN_inj (a := a) (b := b) (by omega)
  apply hne
  unfold way
  rw [y1, y2, y3]
theorem swR_PV {R : Nat → Nat} {a b : Nat} (hV : PV R) (ha : a < R 0) (hb : b < R 0) : PV (swR R a b) := by
  have hn := pv_n hV
  have hb6 := swL_bit hV ha hb
  obtain ⟨v0, v2, v3, v3', v4, v5, v5', v6, v7, v8, v9, va, vb, vc, vd, ve⟩ := hV
  have lo : ∀ j, j < 10 → j ≠ 1 → j ≠ 6 → swR R a b j = R j := fun j h h1 h2 => swR_lo h h1 h2
  have e0 : swR R a b 0 = R 0 := lo 0 (by decide) (by decide) (by decide)
  have om : ∀ l, l < 12 → swR R a b (218 + 3 * l) = R (218 + 3 * l) ∧ swR R a b (218 + 3 * l + 1) = swN (R (218 + 3 * l + 1)) a b ∧ swR R a b (218 + 3 * l + 2) = swN (R (218 + 3 * l + 2)) a b := fun l hl => ⟨swR_om (i := 0) hl (by decide), swR_om (i := 1) hl (by decide), swR_om (i := 2) hl (by decide)⟩
  have lt : ∀ l, swR R a b (254 + 4 * l) = R (254 + 4 * l) ∧ swR R a b (254 + 4 * l + 1) = swN (R (254 + 4 * l + 1)) a b ∧ swR R a b (254 + 4 * l + 2) = swN (R (254 + 4 * l + 2)) a b ∧ swR R a b (254 + 4 * l + 3) = R (254 + 4 * l + 3) := fun l => ⟨swR_lt (i := 0) (by decide), swR_lt (i := 1) (by decide), swR_lt (i := 2) (by decide), swR_lt (i := 3) (by decide)⟩
  refine ⟨?_, ?_, ?_, ?_, ?_, ?_, ?_, ?_, ?_, ?_, ?_, fun l hl => ?_, fun l hl => ?_, fun l hl => ?_, fun i j hij hj => ?_, fun i j hij hj => ?_⟩
  · rw [e0, swR_1]
    right
    have := swN_lt (x := R 1) (n := R 0) (by omega) ha hb
    omega
  · rw [lo 2 (by decide) (by decide) (by decide)]; exact v2
  · rw [lo 3 (by decide) (by decide) (by decide)]; exact v3
  · rw [lo 3 (by decide) (by decide) (by decide)]; exact v3'
  · rw [lo 4 (by decide) (by decide) (by decide)]; exact v4
  · rw [lo 5 (by decide) (by decide) (by decide)]; exact v5
  · rw [lo 5 (by decide) (by decide) (by decide)]; exact v5'
  · rw [e0, swR_6]
    refine Nat.lt_pow_two_of_testBit _ (fun p hp => ?_)
    rw [hb6, swN_id hp ha hb]
    unfold lie
    exact Nat.testBit_lt_two_pow (Nat.lt_of_lt_of_le v6 (Nat.pow_le_pow_right (by decide) hp))
  · rw [lo 7 (by decide) (by decide) (by decide)]; exact v7
  · rw [lo 8 (by decide) (by decide) (by decide)]; exact v8
  · rw [lo 9 (by decide) (by decide) (by decide)]; exact v9
  · rw [lo 7 (by decide) (by decide) (by decide)] at hl
    obtain ⟨b0, b3, b4, b4', b5, b6⟩ := va l hl
    have p0 : swR R a b (10 + 13 * l) = R (10 + 13 * l) := swR_pl (i := 0) (by omega) (by decide)
    have p1 : swR R a b (10 + 13 * l + 1) = swN (R (10 + 13 * l + 1)) a b := swR_pl (i := 1) (by omega) (by decide)
    have p2 : swR R a b (10 + 13 * l + 2) = swN (R (10 + 13 * l + 2)) a b := swR_pl (i := 2) (by omega) (by decide)
    have p3 : swR R a b (10 + 13 * l + 3) = R (10 + 13 * l + 3) := swR_pl (i := 3) (by omega) (by decide)
    have p4 : swR R a b (10 + 13 * l + 4) = R (10 + 13 * l + 4) := swR_pl (i := 4) (by omega) (by decide)
    have p5 : ∀ i, i < 8 → swR R a b (10 + 13 * l + 5 + i) = swN (R (10 + 13 * l + 5 + i)) a b := fun i hi => by
      rw [Nat.add_assoc (10 + 13 * l), swR_pl (by omega) (by omega), if_pos (by omega)]
    refine ⟨b0.sw ha hb p0 p1 p2, by rw [p3]; exact b3, by rw [p4]; exact b4, by rw [p4]; exact b4', fun i hi => ?_, fun i j hij hj => ?_⟩
    · rw [p4] at hi
      rw [p5 i (by omega), e0]
      exact swN_lt (b5 i hi) ha hb
    · rw [p4] at hj
      rw [p5 i (by omega), p5 j (by omega)]
      exact fun y => b6 i j hij hj (swN_inj y)
  · rw [lo 8 (by decide) (by decide) (by decide)] at hl
    obtain ⟨q0, q1, q2⟩ := om l (by omega)
    exact (vb l hl).sw ha hb q0 q1 q2
  · rw [lo 9 (by decide) (by decide) (by decide)] at hl
    obtain ⟨q0, q1, q2, q3⟩ := lt l
    rw [q3]
    exact ⟨(vc l hl).1.sw ha hb q0 q1 q2, (vc l hl).2⟩
  · rw [lo 8 (by decide) (by decide) (by decide)] at hj
    obtain ⟨q0, q1, q2⟩ := om i (by omega)
    obtain ⟨r0, r1, r2⟩ := om j (by omega)
    exact way_sw hn (vb i (by omega)) (vb j hj) ha hb q0 q1 q2 r0 r1 r2 (vd i j hij hj)
  · rw [lo 9 (by decide) (by decide) (by decide)] at hj
    obtain ⟨q0, q1, q2, -⟩ := lt i
    obtain ⟨r0, r1, r2, -⟩ := lt j
    exact way_sw hn (vc i (by omega)).1 (vc j hj).1 ha hb q0 q1 q2 r0 r1 r2 (ve i j hij hj)
theorem C_sw {x a b : Nat} (hx : x < 2 ^ 31) (ha : a < 2 ^ 31) (hb : b < 2 ^ 31) : f_MC_swapped (nI x) (nI a) (nI b) = nI (swN x a b) := by
  unfold f_MC_swapped swN
  by_cases w : x = a
  · rw [if_pos w, if_pos (by rw [w])]
  · rw [if_neg w, if_neg (fun z => w ((nI_eq hx ha).mp z))]
    by_cases w2 : x = b
    · rw [if_pos w2, if_pos (by rw [w2])]
    · rw [if_neg w2, if_neg (fun z => w2 ((nI_eq hx hb).mp z))]
theorem M_sw {x a b : Nat} (hx : x < 2 ^ 31) (ha : a < 2 ^ 31) (hb : b < 2 ^ 31) : f_MM_traded (nI x) (nI a) (nI b) = nI (swN x a b) := C_sw hx ha hb
theorem C_swChain {c : Int32} {m a b : Nat} {f : Nat → Nat} (h : Chn c m f) (ha : a < 8) (hb : b < 8) : ∃ c', f_Chain_traded c (nI a) (nI b) = some c' ∧ Chn c' m (fun i => swN (f i) a b) := by
  have hm := h.le
  unfold f_Chain_traded f_Chain_traded_J5
  rw [bnd_id]
  unfold f_Chain_traded_W5
  suffices hh : ∃ r, loop (fun t => f_Chain_traded_L5 c (nI a) (nI b) t.1 t.2) ((fun (i : Nat) (s : Int32) => (s, nI i)) 0 0) = some r ∧ Chn r m (fun i => swN (f i) a b) from hh
  refine loop_enc (fun i s => (s, nI i)) m (fun i s => Chn s i (fun i => swN (f i) a b)) _ ?_ ?_ 0 0 (Nat.zero_le _) (Chn_0 _)
  · intro i s hi g
    left
    have hf := h.lt hi
    refine ⟨f_Chain_with s (nI (swN (f i) a b)), ?_, Chn_with g (by omega) (swN_lt hf ha hb) (fun _ _ => rfl) rfl⟩
    show f_Chain_traded_L5 c (nI a) (nI b) s (nI i) = _
    unfold f_Chain_traded_L5
    rw [Chn_size h, if_neg (nI_ge hi (by omega)), Chn_mark h hi, C_sw (by omega) (by omega) (by omega), ← nI_succ]
  · intro s g
    refine ⟨s, ?_, g⟩
    show f_Chain_traded_L5 c (nI a) (nI b) s (nI m) = _
    unfold f_Chain_traded_L5
    rw [Chn_size h, if_pos ((nI_leI (by omega) (by omega)).mpr (Nat.le_refl _))]
theorem C_swWay {r f t a b : Nat} (hr : r < 64) (hf : f < 8) (ht : t < 8) (ha : a < 8) (hb : b < 8) : f_Route_traded (nI (64 * r + 8 * f + t)) (nI a) (nI b) = nI (64 * r + 8 * swN f a b + swN t a b) := by
  unfold f_Route_traded
  rw [way_round hf ht hr, way_from hf ht hr, way_to hf ht hr, C_sw (by omega) (by omega) (by omega), C_sw (by omega) (by omega) (by omega), way_of]
theorem C_swBits {R : Nat → Nat} {a b : Nat} (hV : PV R) (ha : a < R 0) (hb : b < R 0) : nI (R 6) ^^^ (((((nI (R 6) >>> (nI a &&& 31)) ^^^ (nI (R 6) >>> (nI b &&& 31))) &&& (1 : Int32)) <<< (nI a &&& 31)) ||| ((((nI (R 6) >>> (nI a &&& 31)) ^^^ (nI (R 6) >>> (nI b &&& 31))) &&& (1 : Int32)) <<< (nI b &&& 31))) = nI (swL R a b) := by
  have hn := pv_n hV
  have v6 := hV.2.2.2.2.2.2.2.1
  have L8 : R 6 < 256 := Nat.lt_of_lt_of_le v6 (Nat.pow_le_pow_right (n := 2) (j := 8) (by decide) hn)
  have hb6 := swL_bit hV ha hb
  have key : ∀ y : Nat, y < 2 → (y = 1 ↔ ((R 6).testBit a ^^ (R 6).testBit b) = true) → nI (R 6) ^^^ ((nI y <<< (nI a &&& 31)) ||| (nI y <<< (nI b &&& 31))) = nI (swL R a b) := by
    intro y hy he
    rcases (show y = 0 ∨ y = 1 by omega) with rfl | rfl
    · rw [pk_shlN _ a (shk a (by omega)) (by omega), pk_shlN _ b (shk b (by omega)) (by omega), Nat.zero_mul, Nat.zero_mul, fa_or, fa_xor]
      congr 1
      refine Nat.eq_of_testBit_eq (fun p => ?_)
      rw [hb6]
      show (R 6 ^^^ 0).testBit p = (R 6).testBit (swN p a b)
      rw [Nat.xor_zero]
      have e : (R 6).testBit a = (R 6).testBit b := by
        cases h1 : (R 6).testBit a <;> cases h2 : (R 6).testBit b <;> simp [h1, h2] at he ⊢
      unfold swN
      split
      · next h => rw [h, e]
      · split
        · next h => rw [h, e]
        · rfl
    · rw [show nI 1 <<< (nI a &&& 31) = nI (2 ^ a) from sh1 a (by omega), show nI 1 <<< (nI b &&& 31) = nI (2 ^ b) from sh1 b (by omega), fa_or, fa_xor]
      congr 1
      refine Nat.eq_of_testBit_eq (fun p => ?_)
      rw [hb6, Nat.testBit_xor, endsB]
      show _ = (R 6).testBit (swN p a b)
      have e := he.mp rfl
      unfold swN
      by_cases h1 : p = a
      · rw [if_pos h1, h1]
        cases q1 : (R 6).testBit a <;> cases q2 : (R 6).testBit b <;> simp [q1, q2] at e ⊢
      · rw [if_neg h1]
        by_cases h2 : p = b
        · rw [if_pos h2, h2]
          cases q1 : (R 6).testBit a <;> cases q2 : (R 6).testBit b <;> simp [q1, q2] at e ⊢
        · rw [if_neg h2, decide_eq_false (fun z => h1 z.symm), decide_eq_false (fun z => h2 z.symm)]
          simp
  have e1 : ((nI (R 6) >>> (nI a &&& 31)) ^^^ (nI (R 6) >>> (nI b &&& 31))) &&& (1 : Int32) = nI ((R 6 / 2 ^ a ^^^ R 6 / 2 ^ b) &&& 1) := by
    rw [pk_shrN (by omega) _ a (shk a (by omega)), pk_shrN (by omega) _ b (shk b (by omega)), fa_xor, show (1 : Int32) = nI 1 from rfl, fa_and]
  rw [e1]
  refine key _ ?_ ?_
  · rw [Nat.and_one_is_mod]; omega
  · rw [Nat.and_one_is_mod]
    have t0 : ∀ x : Nat, x % 2 = 1 ↔ x.testBit 0 = true := fun x => by rw [Nat.testBit_zero]; simp
    rw [t0, Nat.testBit_xor, Nat.testBit_div_two_pow, Nat.testBit_div_two_pow, Nat.zero_add, Nat.zero_add]
