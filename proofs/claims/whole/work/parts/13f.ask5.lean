/-! asking: sound, alike, valid -/
theorem fa_xor (a b : Nat) : nI a ^^^ nI b = nI (a ^^^ b) := by
  apply Int32.toBitVec_inj.1
  show BitVec.ofNat 32 a ^^^ BitVec.ofNat 32 b = BitVec.ofNat 32 (a ^^^ b)
  apply BitVec.eq_of_getLsbD_eq
  intro i hi
  simp [hi]
def noN (x : Nat) : Nat := x ^^^ 4294967295
theorem noN_of (x : Nat) : nI x ^^^ (-1 : Int32) = nI (noN x) := by
  rw [show (-1 : Int32) = nI 4294967295 from rfl, fa_xor]
  rfl
theorem noN_bit {x p : Nat} (hp : p < 32) : (noN x).testBit p = !x.testBit p := by
  unfold noN
  rw [Nat.testBit_xor, show (4294967295 : Nat) = 2 ^ 32 - 1 by decide, Nat.testBit_two_pow_sub_one, decide_eq_true hp, Bool.xor_true]
theorem loop_first {τ ρ : Type} {body : τ → Option (τ ⊕ ρ)} (e : Nat → τ) (bad : Nat → Bool) (n : Nat) (r1 : Nat → ρ) (r2 : ρ) (hs : ∀ i, i < n → bad i = false → body (e i) = some (.inl (e (i + 1)))) (hb : ∀ i, i < n → bad i = true → body (e i) = some (.inr (r1 i))) (he : body (e n) = some (.inr r2)) : loop body (e 0) = some (if fstN bad n < n then r1 (fstN bad n) else r2) := by
  rcases fstN_sp bad n with ⟨h1, h2⟩ | ⟨h1, h2, h3⟩
  · rw [h1, if_neg (by omega)]
    exact loop_fn e n r2 (fun i hi => hs i hi (h2 i hi)) he
  · rw [if_pos h1]
    exact loop_fn e (fstN bad n) (r1 (fstN bad n)) (fun i hi => hs i (by omega) (h3 i hi)) (hb _ h1 h2)
/-- the parties at either end of a fault -/
def enB (R : Nat → Nat) (q p : Nat) : Bool := decide (R (q + 1) = p) || decide (R (q + 2) = p)
def tcB (R : Nat → Nat) (p : Nat) : Bool := anyB (fun l => enB R (218 + 3 * l) p) (R 8) || anyB (fun l => enB R (254 + 4 * l) p) (R 9)
def snB (R : Nat → Nat) (p : Nat) : Bool := !lie R p && !tcB R p
def snN (R : Nat → Nat) : Nat := orN (snB R) (R 0)
def hnN (R : Nat → Nat) : Nat := orN (fun p => !lie R p) (R 0)
theorem orN_lt9 (p : Nat → Bool) {n : Nat} (hn : n ≤ 8) : orN p n < 256 := Nat.lt_of_lt_of_le (orN_lt p n) (Nat.pow_le_pow_right (n := 2) (by decide) hn)
theorem endsB {a b p : Nat} : (2 ^ a ||| 2 ^ b).testBit p = (decide (a = p) || decide (b = p)) := by
  rw [Nat.testBit_or, Nat.testBit_two_pow, Nat.testBit_two_pow]
theorem C_ends {r f t : Nat} (hf : f < 8) (ht : t < 8) (hr : r < 64) : f_Play_endsOf (nI (64 * r + 8 * f + t)) = nI (2 ^ f ||| 2 ^ t) := by
  unfold f_Play_endsOf
  rw [way_from hf ht hr, way_to hf ht hr, sh1 f (by omega), sh1 t (by omega), fa_or]
def tcN (R : Nat → Nat) (q w x : Nat) : Nat → Nat
  | 0 => x
  | l + 1 => tcN R q w x l ||| (2 ^ R (q + w * l + 1) ||| 2 ^ R (q + w * l + 2))
theorem tcN_bit (R : Nat → Nat) (q w x p : Nat) : ∀ n, (tcN R q w x n).testBit p = (x.testBit p || anyB (fun l => enB R (q + w * l) p) n) := by
  intro n
  induction n with
  | zero => show x.testBit p = (x.testBit p || false); rw [Bool.or_false]
  | succ n ih =>
    show (tcN R q w x n ||| (2 ^ R (q + w * n + 1) ||| 2 ^ R (q + w * n + 2))).testBit p = (x.testBit p || (anyB (fun l => enB R (q + w * l) p) n || enB R (q + w * n) p))
    rw [Nat.testBit_or, ih, endsB, Bool.or_assoc]
    rfl
theorem pow_sub1 : ∀ n, n ≤ 8 → ((1 : Int32) <<< (nI n &&& 31)) - 1 = nI (2 ^ n - 1) := by decide +kernel
theorem C_honestN {R : Nat → Nat} {M : Mem} {k : Nat} (hV : PV R) (h0 : M k 0 = nI (R 0)) (h1 : M k 1 = nI (R 6)) : f_Play_honest k M = nI (hnN R) := by
  have hn := pv_n hV
  unfold f_Play_honest
  rw [h0, h1, pow_sub1 _ hn, noN_of, fa_and]
  congr 1
  apply Nat.eq_of_testBit_eq
  intro i
  unfold hnN
  rw [Nat.testBit_and, Nat.testBit_two_pow_sub_one, orN_bit]
  by_cases hi : i < R 0
  · rw [noN_bit (by omega)]
    rfl
  · rw [decide_eq_false hi]
    rfl
theorem C_sound {R : Nat → Nat} {M : Mem} (hV : PV R) (hP : PC R M 0) : f_Play_soundParties 0 M = some (nI (snN R)) := by
  have hn := pv_n hV
  have h8 := hV.2.2.2.2.2.2.2.2.2.1
  have h9 := hV.2.2.2.2.2.2.2.2.2.2.1
  unfold f_Play_soundParties f_Play_soundParties_J4 f_Play_soundParties_W4
  have l1 : loop (fun t => f_Play_soundParties_L4 0 M t.1 t.2) ((0 : Int32), (0 : Int32)) = some (nI (tcN R 218 3 0 (R 8))) := by
    refine loop_fn (fun i => (nI (tcN R 218 3 0 i), nI i)) (R 8) _ (fun l hl => ?_) ?_
    · show f_Play_soundParties_L4 0 M _ (nI l) = _
      obtain ⟨a1, a2, a3, a4, a5⟩ := hV.2.2.2.2.2.2.2.2.2.2.2.2.1 l hl
      have c5 : M (0 + 5) l = nI (64 * R (218 + 3 * l) + 8 * R (218 + 3 * l + 1) + R (218 + 3 * l + 2)) := hP.2.2.2.2.2.2.2.1 l hl
      unfold f_Play_soundParties_L4
      rw [hP.2.2.2.1, if_neg (nI_ge hl (by omega)), gIn_nI (by omega) (by decide), nI_clamp (by omega), c5, C_ends (by omega) (by omega) (by omega), fa_or, ← nI_succ]
      rfl
    · show f_Play_soundParties_L4 0 M _ (nI (R 8)) = _
      unfold f_Play_soundParties_L4
      rw [hP.2.2.2.1, if_pos ((nI_leI (by omega) (by omega)).mpr (Nat.le_refl _))]
  rw [l1, bnd_some]
  unfold f_Play_soundParties_J32 f_Play_soundParties_W32
  rw [bnd_id]
  have l2 : loop (fun t => f_Play_soundParties_L32 0 M t.1 t.2) (nI (tcN R 218 3 0 (R 8)), (0 : Int32)) = some (nI (hnN R &&& noN (tcN R 254 4 (tcN R 218 3 0 (R 8)) (R 9)))) := by
    refine loop_fn (fun i => (nI (tcN R 254 4 (tcN R 218 3 0 (R 8)) i), nI i)) (R 9) _ (fun l hl => ?_) ?_
    · show f_Play_soundParties_L32 0 M _ (nI l) = _
      obtain ⟨⟨a1, a2, a3, a4, a5⟩, -⟩ := hV.2.2.2.2.2.2.2.2.2.2.2.2.2.1 l hl
      have c6 : M (0 + 6) l = nI (64 * R (254 + 4 * l) + 8 * R (254 + 4 * l + 1) + R (254 + 4 * l + 2)) := (hP.2.2.2.2.2.2.2.2 l hl).1
      unfold f_Play_soundParties_L32
      rw [hP.2.2.2.2.1, if_neg (nI_ge hl (by omega)), gIn_nI (by omega) (by decide), nI_clamp (by omega), c6, C_ends (by omega) (by omega) (by omega), fa_or, ← nI_succ]
      rfl
    · show f_Play_soundParties_L32 0 M _ (nI (R 9)) = _
      unfold f_Play_soundParties_L32
      rw [hP.2.2.2.2.1, if_pos ((nI_leI (by omega) (by omega)).mpr (Nat.le_refl _)), C_honestN hV hP.1 hP.2.1, noN_of, fa_and]
  rw [l2]
  congr 2
  apply Nat.eq_of_testBit_eq
  intro i
  unfold snN hnN
  rw [Nat.testBit_and, orN_bit, orN_bit]
  by_cases hi : i < R 0
  · rw [noN_bit (by omega), tcN_bit, tcN_bit, Nat.zero_testBit, Bool.false_or, decide_eq_true hi, Bool.true_and, Bool.true_and]
    rfl
  · rw [decide_eq_false hi]
    rfl
theorem M_honestSet {R x : Nat → Nat} {M : Mem} (hV : PV R) (hM : PM R (M 1)) : f_MM_soundSet_W4 M ((0 : Int32), (0 : Int32)) = some (nI (hnN R)) ∧ f_MM_honestSet M = some (nI (hnN R)) := by
  have hn := pv_n hV
  have h10 : M 1 0 = nI (R 0) := hM.1 0 (by decide)
  have e0 : (0 : Int32) = nI 0 := rfl
  constructor
  · unfold f_MM_soundSet_W4
    refine loop_fn (fun i => (nI (orN (fun p => !lie R p) i), nI i)) (R 0) _ (fun p hp => ?_) ?_
    · show f_MM_soundSet_L4 M _ (nI p) = _
      have hor : orN (fun p => !lie R p) (p + 1) = orN (fun p => !lie R p) p ||| (if (!lie R p) = true then 2 ^ p else 0) := rfl
      unfold f_MM_soundSet_L4 f_MM_soundSet_J30
      rw [h10, if_neg (nI_ge hp (by omega)), M_liar (x := x) hV hM (by omega), sh1 p (by omega), fa_or, e0, fa_or, hor, ← nI_succ]
      cases lie R p <;> rfl
    · show f_MM_soundSet_L4 M _ (nI (R 0)) = _
      unfold f_MM_soundSet_L4
      rw [h10, if_pos ((nI_leI (by omega) (by omega)).mpr (Nat.le_refl _))]
      rfl
  · unfold f_MM_honestSet f_MM_honestSet_J4
    rw [bnd_id]
    unfold f_MM_honestSet_W4
    refine loop_fn (fun i => (nI (orN (fun p => !lie R p) i), nI i)) (R 0) _ (fun p hp => ?_) ?_
    · show f_MM_honestSet_L4 M _ (nI p) = _
      have hor : orN (fun p => !lie R p) (p + 1) = orN (fun p => !lie R p) p ||| (if (!lie R p) = true then 2 ^ p else 0) := rfl
      unfold f_MM_honestSet_L4 f_MM_honestSet_J30
      rw [h10, if_neg (nI_ge hp (by omega)), M_liar (x := x) hV hM (by omega), sh1 p (by omega), fa_or, e0, fa_or, hor, ← nI_succ]
      cases lie R p <;> rfl
    · show f_MM_honestSet_L4 M _ (nI (R 0)) = _
      unfold f_MM_honestSet_L4
      rw [h10, if_pos ((nI_leI (by omega) (by omega)).mpr (Nat.le_refl _))]
      rfl
def mkN (R : Nat → Nat) (q w x : Nat) : Nat → Nat
  | 0 => x
  | l + 1 => mkN R q w x l &&& (noN (2 ^ R (q + w * l + 1)) &&& noN (2 ^ R (q + w * l + 2)))
theorem mkN_bit (R : Nat → Nat) (q w x p : Nat) (hp : p < 32) : ∀ n, (mkN R q w x n).testBit p = (x.testBit p && !anyB (fun l => enB R (q + w * l) p) n) := by
  intro n
  induction n with
  | zero => show x.testBit p = (x.testBit p && !false); rw [Bool.not_false, Bool.and_true]
  | succ n ih =>
    show (mkN R q w x n &&& (noN (2 ^ R (q + w * n + 1)) &&& noN (2 ^ R (q + w * n + 2)))).testBit p = (x.testBit p && !(anyB (fun l => enB R (q + w * l) p) n || enB R (q + w * n) p))
    rw [Nat.testBit_and, Nat.testBit_and, ih, noN_bit hp, noN_bit hp, Nat.testBit_two_pow, Nat.testBit_two_pow]
    have ee : enB R (q + w * n) p = (decide (R (q + w * n + 1) = p) || decide (R (q + w * n + 2) = p)) := rfl
    rw [ee]
    generalize anyB (fun l => enB R (q + w * l) p) n = A
    cases x.testBit p <;> cases A <;> cases decide (R (q + w * n + 1) = p) <;> cases decide (R (q + w * n + 2) = p) <;> rfl
theorem mkN_lt (R : Nat → Nat) (q w x : Nat) : ∀ n, mkN R q w x n ≤ x := by
  intro n
  induction n with
  | zero => exact Nat.le_refl _
  | succ n ih => exact Nat.le_trans Nat.and_le_left ih
theorem M_soundL {M : Mem} {R : Nat → Nat} {kd : Int32} {ci pl wd cnt x : Nat} (h7 : (7 : Int32) + kd = nI ci) (hci : ci < 302) (hp : f_MM_placeOf kd = nI pl) (hw : f_MM_wideOf kd = nI wd) (hc : M 1 ci = nI cnt) (hcnt : cnt ≤ 16) (hpl : pl + wd * cnt ≤ 302) (hw3 : 3 ≤ wd) (hrow : ∀ l i, l < cnt → i < 3 → M 1 (pl + wd * l + i) = nI (R (pl + wd * l + i))) (hsm : ∀ l i, l < cnt → 1 ≤ i → i < 3 → R (pl + wd * l + i) < 8) : f_MM_soundSet_W47 M kd (nI x, (0 : Int32)) = some (nI (mkN R pl wd x cnt)) := by
  have start : ∀ y l, l < cnt → f_MM_soundSet_L47 M kd y (nI l) = some (.inl (y &&& nI (noN (2 ^ R (pl + wd * l + 1)) &&& noN (2 ^ R (pl + wd * l + 2))), nI (l + 1))) := fun y l hl => by
    have hle : wd * l + wd ≤ wd * cnt := by
      rw [← Nat.mul_succ]
      exact Nat.mul_le_mul_left wd hl
    unfold f_MM_soundSet_L47
    rw [h7, gIn_nI hci (by decide), nI_clamp (show ci < 2 ^ 31 by omega), hc, if_neg (nI_ge hl (by omega)), hp, hw, pk_mul, nI_add, j1, j2, nI_add, nI_add, gIn_nI (by omega) (by decide), gIn_nI (by omega) (by decide), nI_clamp (show pl + wd * l + 1 < 2 ^ 31 by omega), nI_clamp (show pl + wd * l + 2 < 2 ^ 31 by omega), hrow l 1 hl (by decide), hrow l 2 hl (by decide), ← j1, sh1 _ (by have := hsm l 1 hl (by decide) (by decide); omega), sh1 _ (by have := hsm l 2 hl (by decide) (by decide); omega), noN_of, noN_of, fa_and, lt1_eq, nI_succ]
  unfold f_MM_soundSet_W47
  refine loop_fn (fun i => (nI (mkN R pl wd x i), nI i)) cnt _ (fun l hl => ?_) ?_
  · show f_MM_soundSet_L47 M kd (nI (mkN R pl wd x l)) (nI l) = _
    rw [start _ l hl, fa_and]
    rfl
  · show f_MM_soundSet_L47 M kd (nI (mkN R pl wd x cnt)) (nI cnt) = _
    unfold f_MM_soundSet_L47
    rw [h7, gIn_nI hci (by decide), nI_clamp (show ci < 2 ^ 31 by omega), hc, if_pos ((nI_leI (by omega) (by omega)).mpr (Nat.le_refl _))]
theorem M_sound {R : Nat → Nat} {M : Mem} (hV : PV R) (hM : PM R (M 1)) : f_MM_soundSet M = some (nI (snN R)) := by
  have hn := pv_n hV
  have h8 := hV.2.2.2.2.2.2.2.2.2.1
  have h9 := hV.2.2.2.2.2.2.2.2.2.2.1
  have h18 : M 1 8 = nI (R 8) := hM.1 8 (by decide)
  have h19 : M 1 9 = nI (R 9) := hM.1 9 (by decide)
  have w1 := M_soundL (M := M) (R := R) (kd := 1) (ci := 8) (pl := 218) (wd := 3) (cnt := R 8) (x := hnN R) rfl (by decide) rfl rfl h18 (by omega) (by omega) (by decide) (fun l i hl hi => hM.2.2.1 l i hl hi) (fun l i hl h1 hi => by
    obtain ⟨a1, a2, a3, a4, a5⟩ := hV.2.2.2.2.2.2.2.2.2.2.2.2.1 l hl
    rcases (show i = 1 ∨ i = 2 by omega) with rfl | rfl <;> omega)
  have w2 := M_soundL (M := M) (R := R) (kd := 2) (ci := 9) (pl := 254) (wd := 4) (cnt := R 9) (x := mkN R 218 3 (hnN R) (R 8)) rfl (by decide) rfl rfl h19 (by omega) (by omega) (by decide) (fun l i hl hi => hM.2.2.2 l i hl (by omega)) (fun l i hl h1 hi => by
    obtain ⟨⟨a1, a2, a3, a4, a5⟩, -⟩ := hV.2.2.2.2.2.2.2.2.2.2.2.2.2.1 l hl
    rcases (show i = 1 ∨ i = 2 by omega) with rfl | rfl <;> omega)
  have fin : mkN R 254 4 (mkN R 218 3 (hnN R) (R 8)) (R 9) = snN R := by
    apply Nat.eq_of_testBit_eq
    intro i
    by_cases hi : i < R 0
    · rw [mkN_bit _ _ _ _ _ (by omega), mkN_bit _ _ _ _ _ (by omega)]
      unfold hnN snN
      rw [orN_bit, orN_bit, decide_eq_true hi]
      unfold snB tcB
      cases lie R i <;> cases anyB (fun l => enB R (218 + 3 * l) i) (R 8) <;> cases anyB (fun l => enB R (254 + 4 * l) i) (R 9) <;> rfl
    · have z1 : mkN R 254 4 (mkN R 218 3 (hnN R) (R 8)) (R 9) < 2 ^ i := Nat.lt_of_le_of_lt (Nat.le_trans (mkN_lt _ _ _ _ _) (mkN_lt _ _ _ _ _)) (Nat.lt_of_lt_of_le (orN_lt _ _) (Nat.pow_le_pow_right (by decide) (by omega)))
      have z2 : snN R < 2 ^ i := Nat.lt_of_lt_of_le (orN_lt _ _) (Nat.pow_le_pow_right (by decide) (by omega))
      rw [Nat.testBit_lt_two_pow z1, Nat.testBit_lt_two_pow z2]
  unfold f_MM_soundSet f_MM_soundSet_J4
  rw [(M_honestSet (x := none0) hV hM).1, bnd_some]
  unfold f_MM_soundSet_J40
  rw [bnd_id]
  unfold f_MM_soundSet_W40
  rw [← fin]
  refine loop_fn (fun i => (nI (if i = 0 then hnN R else if i = 1 then mkN R 218 3 (hnN R) (R 8) else mkN R 254 4 (mkN R 218 3 (hnN R) (R 8)) (R 9)), nI (i + 1))) 2 _ (fun i hi => ?_) rfl
  show f_MM_soundSet_L40 M _ (nI (i + 1)) = _
  unfold f_MM_soundSet_L40 f_MM_soundSet_J47
  rcases (show i = 0 ∨ i = 1 by omega) with rfl | rfl
  · have w1' : f_MM_soundSet_W47 M (nI (0 + 1)) (nI (if (0 : Nat) = 0 then hnN R else if (0 : Nat) = 1 then mkN R 218 3 (hnN R) (R 8) else mkN R 254 4 (mkN R 218 3 (hnN R) (R 8)) (R 9)), (0 : Int32)) = some (nI (mkN R 218 3 (hnN R) (R 8))) := w1
    rw [if_neg (by decide), w1', bnd_some]
    rfl
  · have w2' : f_MM_soundSet_W47 M (nI (1 + 1)) (nI (if (1 : Nat) = 0 then hnN R else if (1 : Nat) = 1 then mkN R 218 3 (hnN R) (R 8) else mkN R 254 4 (mkN R 218 3 (hnN R) (R 8)) (R 9)), (0 : Int32)) = some (nI (mkN R 254 4 (mkN R 218 3 (hnN R) (R 8)) (R 9))) := w2
    rw [if_neg (by decide), w2', bnd_some]
    rfl
theorem q_sound {R : Nat → Nat} {Mc Mm : Mem} (h : RelP R Mc Mm) : Ask0 (f_MC_sound Mc) (f_MM_sound Mm) := by
  unfold f_MC_sound f_MM_sound
  rw [C_sound h.1 h.2.1, M_sound h.1 h.2.2.1]
  exact ⟨_, rfl, rfl⟩
/-! all of a set decide alike -/
def alS (s : Nat) (d : Nat → Nat) : Nat → Int32
  | 0 => -1
  | p + 1 => if s.testBit p = true then nI (d p) else alS s d p
def alX (s : Nat) (d : Nat → Nat) (p : Nat) : Bool := s.testBit p && decide (alS s d p ≠ -1) && decide (alS s d p ≠ nI (d p))
def alB (s : Nat) (d : Nat → Nat) (n : Nat) : Bool := if fstN (alX s d) n < n then false else true
theorem C_one {k : Nat} {R d : Nat → Nat} {M : Mem} {s : Nat} (hn : R 0 ≤ 8) (h0 : M 0 0 = nI (R 0)) (hs : s < 256) (hd : ∀ p, p < R 0 → s.testBit p = true → f_Run_decisionOf k M (nI p) = some (nI (d p))) : f_Run_haveOneDecision k M (nI s) = some (alB s d (R 0)) := by
  unfold f_Run_haveOneDecision f_Run_haveOneDecision_J4
  rw [bnd_id]
  unfold f_Run_haveOneDecision_W4 alB
  refine loop_first (fun p => (alS s d p, nI p)) (alX s d) (R 0) (fun _ => false) true (fun p hp hb => ?_) (fun p hp hb => ?_) ?_
  · show f_Run_haveOneDecision_L4 k M (nI s) (alS s d p) (nI p) = _
    have es : alS s d (p + 1) = if s.testBit p = true then nI (d p) else alS s d p := rfl
    unfold f_Run_haveOneDecision_L4 f_Run_haveOneDecision_J43
    rw [h0, if_neg (nI_ge hp (by omega)), es, ← nI_succ]
    cases e : s.testBit p
    · rw [if_pos ((bit_0 (by omega) (by omega)).mpr e), if_neg (by decide)]
    · rw [if_neg (fun z => by rw [bit_0 (by omega) (by omega), e] at z; cases z), hd p hp e, bnd_some, if_pos rfl]
      by_cases a : alS s d p = -1
      · rw [if_pos a]
      · rw [if_neg a, if_pos]
        refine Classical.byContradiction (fun z => ?_)
        unfold alX at hb
        rw [e, decide_eq_true a, decide_eq_true z] at hb
        cases hb
  · show f_Run_haveOneDecision_L4 k M (nI s) (alS s d p) (nI p) = _
    unfold alX at hb
    simp only [Bool.and_eq_true, decide_eq_true_eq] at hb
    obtain ⟨⟨e, a⟩, b⟩ := hb
    unfold f_Run_haveOneDecision_L4 f_Run_haveOneDecision_J43
    rw [h0, if_neg (nI_ge hp (by omega)), if_neg (fun z => by rw [bit_0 (by omega) (by omega), e] at z; cases z), hd p hp e, bnd_some, if_neg a, if_neg b]
  · show f_Run_haveOneDecision_L4 k M (nI s) (alS s d (R 0)) (nI (R 0)) = _
    unfold f_Run_haveOneDecision_L4
    rw [h0, if_pos ((nI_leI (by omega) (by omega)).mpr (Nat.le_refl _))]
theorem M_one {R d : Nat → Nat} {M : Mem} {s : Nat} (hn : R 0 ≤ 8) (h0 : M 1 0 = nI (R 0)) (hs : s < 256) (hd : ∀ p, p < R 0 → s.testBit p = true → f_MM_decisionOf M (nI p) = some (nI (d p))) : f_MM_decideAlike M (nI s) = some (alB s d (R 0)) := by
  unfold f_MM_decideAlike f_MM_decideAlike_J4
  rw [bnd_id]
  unfold f_MM_decideAlike_W4 alB
  refine loop_first (fun p => (alS s d p, nI p)) (alX s d) (R 0) (fun _ => false) true (fun p hp hb => ?_) (fun p hp hb => ?_) ?_
  · show f_MM_decideAlike_L4 M (nI s) (alS s d p) (nI p) = _
    have es : alS s d (p + 1) = if s.testBit p = true then nI (d p) else alS s d p := rfl
    unfold f_MM_decideAlike_L4 f_MM_decideAlike_J41
    rw [h0, if_neg (nI_ge hp (by omega)), M_has (by omega) (by omega), es, ← nI_succ]
    cases e : s.testBit p
    · rw [gF, if_neg (by decide)]
    · rw [gT, hd p hp e, bnd_some, bnd_some, if_pos rfl]
      by_cases a : alS s d p = -1
      · rw [if_pos a]
      · rw [if_neg a, if_pos]
        refine Classical.byContradiction (fun z => ?_)
        unfold alX at hb
        rw [e, decide_eq_true a, decide_eq_true (show alS s d p ≠ nI (d p) from fun y => z y.symm)] at hb
        cases hb
  · show f_MM_decideAlike_L4 M (nI s) (alS s d p) (nI p) = _
    unfold alX at hb
    simp only [Bool.and_eq_true, decide_eq_true_eq] at hb
    obtain ⟨⟨e, a⟩, b⟩ := hb
    unfold f_MM_decideAlike_L4 f_MM_decideAlike_J41
    rw [h0, if_neg (nI_ge hp (by omega)), M_has (by omega) (by omega), e, gT, hd p hp e, bnd_some, bnd_some, if_neg a, if_neg (fun y => b y.symm)]
  · show f_MM_decideAlike_L4 M (nI s) (alS s d (R 0)) (nI (R 0)) = _
    unfold f_MM_decideAlike_L4
    rw [h0, if_pos ((nI_leI (by omega) (by omega)).mpr (Nat.le_refl _))]
theorem RelP.dc {R : Nat → Nat} {Mc Mm : Mem} (h : RelP R Mc Mm) {p : Nat} (hp : p < 8) : f_Run_decisionOf 112 Mc (nI p) = some (nI (dcN R (NQ R) p)) := C_decisionOf (R := R) (h.2.1.2.2.2.2.2.1 3 (by decide)) h.2.2.2.1 h.2.2.2.2.2 hp h.1.2.2.2.1 (fun c hc => ((NQ_inv h.1).2.1 c hc).2.2.2.1)
theorem q_alike {R : Nat → Nat} {Mc Mm : Mem} (h : RelP R Mc Mm) : Ask (f_MC_alike Mc) (f_MM_alike Mm) Mm := by
  obtain ⟨N, n1, n2, n3, n4, n5⟩ := RelP.run h
  have hn := pv_n h.1
  have hs : snN R < 256 := orN_lt9 _ hn
  have hR3 := h.1.2.2.2.1
  unfold f_MC_alike f_MM_alike
  rw [n1, bnd_some, C_sound h.1 h.2.1, bnd_some, M_sound h.1 n5.1, bnd_some, C_one (d := dcN R (NQ R)) hn h.2.1.1 hs (fun p hp _ => h.dc (by omega)), bnd_some, M_one (d := dcN R (NQ R)) hn (n5.1.1 0 (by decide)) hs (fun p hp _ => M_decisionOf h.1 n5.1 n2 (by omega) ((NQ_inv h.1).n9 (by omega))), bnd_some]
  cases alB (snN R) (dcN R (NQ R)) (R 0)
  · exact ⟨_, N, rfl, rfl, n3⟩
  · exact ⟨_, N, rfl, rfl, n3⟩
theorem q_valid {R : Nat → Nat} {Mc Mm : Mem} (h : RelP R Mc Mm) : Ask (f_MC_valid Mc) (f_MM_valid Mm) Mm := by
  obtain ⟨N, n1, n2, n3, n4, n5⟩ := RelP.run h
  have hn := pv_n h.1
  have hs : snN R < 256 := orN_lt9 _ hn
  have hR3 := h.1.2.2.2.1
  have hR1 : R 1 < 8 := by have := h.1.1; omega
  have hR2 := h.1.2.1
  have hR4 := h.1.2.2.2.2.1
  have h10 : N 1 0 = nI (R 0) := n5.1.1 0 (by decide)
  have h11 : N 1 1 = nI (R 1) := n5.1.1 1 (by decide)
  have h12 : N 1 2 = nI (R 2) := n5.1.1 2 (by decide)
  have c10 : Mc 1 0 = nI (R 1) := h.2.1.2.2.2.2.2.1 0 (by decide)
  have c11 : Mc 1 1 = nI (R 2) := h.2.1.2.2.2.2.2.1 1 (by decide)
  have hdl : ∀ p, dcN R (NQ R) p < 4 := fun p => by
    unfold dcN
    split
    · omega
    · split
      · omega
      · split
        · omega
        · split <;> omega
  unfold f_MC_valid f_MM_valid
  rw [n1, bnd_some, C_sound h.1 h.2.1, bnd_some, M_sound h.1 n5.1, bnd_some, h10, h11, c10, M_has (by omega) (by omega)]
  cases e : (snN R).testBit (R 1)
  · rw [if_pos ((bit_0 (by omega) (by omega)).mpr e), gF, ite_self]
    exact ⟨_, N, rfl, rfl, n3⟩
  · have hR0 : R 0 ≠ 0 := fun z => by
      unfold snN at e
      rw [z] at e
      have : (orN (snB R) 0).testBit (R 1) = false := Nat.zero_testBit _
      rw [this] at e
      cases e
    rw [if_neg (fun z => by rw [bit_0 (by omega) (by omega), e] at z; cases z), gT, if_neg (fun z => hR0 ((nz (by omega)).mp z))]
    unfold f_MC_valid_J28 f_MM_valid_J35
    rw [bnd_id, bnd_id]
    unfold f_MC_valid_W28 f_MM_valid_W35
    refine ⟨if fstN (fun p => (snN R).testBit p && decide (dcN R (NQ R) p ≠ R 2)) (R 0) < R 0 then 0 else 1, N, ?_, ?_, n3⟩
    · refine loop_first (fun p => nI p) (fun p => (snN R).testBit p && decide (dcN R (NQ R) p ≠ R 2)) (R 0) (fun _ => (0 : Int32)) 1 (fun p hp hb => ?_) (fun p hp hb => ?_) ?_
      · unfold f_MC_valid_L28 f_MC_valid_J52
        rw [h.2.1.1, if_neg (nI_ge hp (by omega)), h.dc (by omega), bnd_some, c11, ← nI_succ]
        cases e2 : (snN R).testBit p
        · rw [if_pos ((bit_0 (by omega) (by omega)).mpr e2)]
          rfl
        · rw [if_neg (fun z => by rw [bit_0 (by omega) (by omega), e2] at z; cases z), if_neg (by decide), if_pos]
          refine congrArg nI (Classical.byContradiction (fun z => ?_))
          have hb' : ((snN R).testBit p && decide (dcN R (NQ R) p ≠ R 2)) = false := hb
          rw [e2, decide_eq_true z] at hb'
          cases hb'
      · have hb' : ((snN R).testBit p && decide (dcN R (NQ R) p ≠ R 2)) = true := hb
        simp only [Bool.and_eq_true, decide_eq_true_eq] at hb'
        have := hdl p
        unfold f_MC_valid_L28 f_MC_valid_J52
        rw [h.2.1.1, if_neg (nI_ge hp (by omega)), h.dc (by omega), bnd_some, c11, if_neg (fun z => by rw [bit_0 (by omega) (by omega), hb'.1] at z; cases z), if_neg (by decide), if_neg (fun z => hb'.2 ((nI_eq (by omega) (by omega)).mp z))]
      · unfold f_MC_valid_L28
        rw [h.2.1.1, if_pos ((nI_leI (by omega) (by omega)).mpr (Nat.le_refl _))]
    · have hdm : ∀ p, p < R 0 → f_MM_decisionOf N (nI p) = some (nI (dcN R (NQ R) p)) := fun p hp => M_decisionOf h.1 n5.1 n2 (by omega) ((NQ_inv h.1).n9 (by omega))
      refine (loop_first (fun p => nI p) (fun p => (snN R).testBit p && decide (dcN R (NQ R) p ≠ R 2)) (R 0) (fun _ => ((0 : Int32), N)) (1, N) (fun p hp hb => ?_) (fun p hp hb => ?_) ?_).trans ?_
      · unfold f_MM_valid_L35
        rw [h10, if_neg (nI_ge hp (by omega)), M_has (by omega) (by omega), hdm p hp, bnd_some, h12, ← nI_succ]
        cases e2 : (snN R).testBit p
        · rw [gF]
        · rw [gT, if_pos]
          refine congrArg nI (Classical.byContradiction (fun z => ?_))
          have hb' : ((snN R).testBit p && decide (dcN R (NQ R) p ≠ R 2)) = false := hb
          rw [e2, decide_eq_true z] at hb'
          cases hb'
      · have hb' : ((snN R).testBit p && decide (dcN R (NQ R) p ≠ R 2)) = true := hb
        simp only [Bool.and_eq_true, decide_eq_true_eq] at hb'
        have := hdl p
        unfold f_MM_valid_L35
        rw [h10, if_neg (nI_ge hp (by omega)), M_has (by omega) (by omega), hdm p hp, bnd_some, h12, hb'.1, gT, if_neg (fun z => hb'.2 ((nI_eq (by omega) (by omega)).mp z))]
      · unfold f_MM_valid_L35
        rw [h10, if_pos ((nI_leI (by omega) (by omega)).mpr (Nat.le_refl _))]
      · split <;> rfl
