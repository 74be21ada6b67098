/-! asking: fault, bits, load, wanting -/
theorem q_fault {R : Nat → Nat} {Mc Mm : Mem} (h : RelP R Mc Mm) (x1 x2 x3 : Int32) : Ask0 (f_MC_fault Mc x1 x2 x3) (f_MM_fault Mm x1 x2 x3) := by
  obtain ⟨hV, hP, hM, hC, h28, hk⟩ := h
  have hn := pv_n hV
  have h8 := hV.2.2.2.2.2.2.2.2.2.1
  have h9 := hV.2.2.2.2.2.2.2.2.2.2.1
  have e1 : (1 : Int32).toInt = 1 := rfl
  have e0 : (0 : Int32).toInt = 0 := rfl
  have lo : ∀ {n : Nat}, n < 2 ^ 31 → ∀ {α : Type} {a b : α}, (if x2 < 0 then a else if x2 < nI n then b else a) = if inB x2 n = true then b else a := by
    intro n hn α a b
    unfold inB
    by_cases z : x2 < 0
    · rw [if_pos z, if_neg]
      rw [Int32.lt_iff_toInt_lt] at z
      rw [decide_eq_false (by omega), Bool.false_and]
      decide
    · rw [if_neg z]
      rw [Int32.lt_iff_toInt_lt] at z
      by_cases y : x2 < nI n
      · rw [if_pos y, if_pos]
        rw [Int32.lt_iff_toInt_lt, nI_toInt hn] at y
        rw [decide_eq_true (by omega), decide_eq_true (by omega)]
        rfl
      · rw [if_neg y, if_neg]
        rw [Int32.lt_iff_toInt_lt, nI_toInt hn] at y
        rw [decide_eq_false (show ¬ x2.toInt < (n : Int) by omega), Bool.and_false]
        decide
  have out : ∀ x3 : Int32, inB x3 4 = false → x3 ≠ 0 ∧ x3 ≠ 1 ∧ x3 ≠ 2 ∧ x3 ≠ 3 := fun x3 w => by
    refine ⟨?_, ?_, ?_, ?_⟩ <;> intro z <;> rw [z] at w <;> exact absurd w (by decide)
  unfold f_MC_fault f_MM_fault
  rw [M_in, Int32.toInt_toInt64]
  by_cases k1 : x1 = 1
  · subst k1
    have s1 : f_Play_sizeOf 0 Mc 1 = nI (R 8) := hP.2.2.2.1
    have hg : f_MM_in (Int32.toInt64 x2) 0 ((Mm 1 ((7 : Int32) + 1).toNatClampNeg - 1).toInt64) = inB x2 (R 8) := by
      have : Mm 1 ((7 : Int32) + 1).toNatClampNeg = nI (R 8) := hM.1 8 (by decide)
      rw [this]
      exact M_inB x2 (R 8) _ (nI_pre64 _ (by omega))
    rw [s1, if_neg (by decide), lo (by omega), hg, M_inB x3 4 3 (by decide)]
    have g302 : ∀ (a : Option Int32), gIn ((7 : Int32) + 1) 302 a = a := fun a => gIn_nI (j := 8) (by decide) (by decide)
    rw [g302, show (decide ((1 : Int64).toInt ≤ (1 : Int32).toInt) && decide ((1 : Int32).toInt ≤ (2 : Int64).toInt)) = true from rfl, gT]
    rcases inB_cases x2 (R 8) with w | ⟨l, hl, -, rfl, w⟩
    · rw [w]
      exact ⟨-1, rfl, rfl⟩
    · obtain ⟨a1, a2, a3, a4, a5⟩ := hV.2.2.2.2.2.2.2.2.2.2.2.2.1 l hl
      have c5 : Mc 5 l = nI (64 * R (218 + 3 * l) + 8 * R (218 + 3 * l + 1) + R (218 + 3 * l + 2)) := hP.2.2.2.2.2.2.2.1 l hl
      have hrow := hM.2.2.1 l
      rw [w, gT, if_pos rfl, if_pos rfl, gIn_nI (by omega) (by decide), nI_clamp (by omega), c5]
      unfold f_MC_fault_J49
      rw [way_round (by omega) (by omega) (by omega), way_from (by omega) (by omega) (by omega), way_to (by omega) (by omega) (by omega)]
      rcases inB_cases x3 4 with w3 | ⟨a, ha, -, rfl, w3⟩
      · obtain ⟨q0, q1, q2, q3⟩ := out x3 w3
        rw [w3, if_neg q0, if_neg q1, if_neg q2, if_neg q3]
        exact ⟨-1, rfl, rfl⟩
      · rw [w3, gT]
        unfold f_MM_fault_J61
        have ep : f_MM_placeOf 1 = nI 218 := rfl
        have ew : f_MM_wideOf 1 = nI 3 := rfl
        rw [ep, ew, pk_mul, nI_add, nI_add, nI_clamp (show 218 + 3 * l + a < 2 ^ 31 by omega)]
        rcases (show a = 0 ∨ a = 1 ∨ a = 2 ∨ a = 3 by omega) with rfl | rfl | rfl | rfl
        · rw [if_neg (show ¬ nI 0 = (3 : Int32) by decide), gIn_nI (by omega) (by decide), hrow 0 hl (by decide)]
          exact ⟨_, rfl, rfl⟩
        · rw [if_neg (show ¬ nI 1 = (3 : Int32) by decide), gIn_nI (by omega) (by decide), hrow 1 hl (by decide)]
          exact ⟨_, rfl, rfl⟩
        · rw [if_neg (show ¬ nI 2 = (3 : Int32) by decide), gIn_nI (by omega) (by decide), hrow 2 hl (by decide)]
          exact ⟨_, rfl, rfl⟩
        · exact ⟨0, rfl, rfl⟩
  · by_cases k2 : x1 = 2
    · subst k2
      have s1 : f_Play_sizeOf 0 Mc 2 = nI (R 9) := hP.2.2.2.2.1
      have hg : f_MM_in (Int32.toInt64 x2) 0 ((Mm 1 ((7 : Int32) + 2).toNatClampNeg - 1).toInt64) = inB x2 (R 9) := by
        have : Mm 1 ((7 : Int32) + 2).toNatClampNeg = nI (R 9) := hM.1 9 (by decide)
        rw [this]
        exact M_inB x2 (R 9) _ (nI_pre64 _ (by omega))
      rw [s1, if_neg (by decide), lo (by omega), hg, M_inB x3 4 3 (by decide)]
      have g302 : ∀ (a : Option Int32), gIn ((7 : Int32) + 2) 302 a = a := fun a => gIn_nI (j := 9) (by decide) (by decide)
      rw [g302, show (decide ((1 : Int64).toInt ≤ (2 : Int32).toInt) && decide ((2 : Int32).toInt ≤ (2 : Int64).toInt)) = true from rfl, gT]
      rcases inB_cases x2 (R 9) with w | ⟨l, hl, -, rfl, w⟩
      · rw [w]
        exact ⟨-1, rfl, rfl⟩
      · obtain ⟨⟨a1, a2, a3, a4, a5⟩, b1, b7⟩ := hV.2.2.2.2.2.2.2.2.2.2.2.2.2.1 l hl
        have c6 : Mc 6 l = nI (64 * R (254 + 4 * l) + 8 * R (254 + 4 * l + 1) + R (254 + 4 * l + 2)) := (hP.2.2.2.2.2.2.2.2 l hl).1
        have c7 : Mc 7 l = nI (R (254 + 4 * l + 3)) := (hP.2.2.2.2.2.2.2.2 l hl).2
        have hrow := hM.2.2.2 l
        rw [w, gT, if_pos rfl, if_neg (show ¬ (2 : Int32) = 1 by decide), gIn_nI (by omega) (by decide), nI_clamp (by omega), c6]
        unfold f_MC_fault_J49
        rw [way_round (by omega) (by omega) (by omega), way_from (by omega) (by omega) (by omega), way_to (by omega) (by omega) (by omega), if_neg (show ¬ (2 : Int32) = 1 by decide), if_neg (show ¬ (2 : Int32) = 1 by decide), gIn_nI (show l < 12 by omega) (by decide), nI_clamp (by omega), c7]
        rcases inB_cases x3 4 with w3 | ⟨a, ha, -, rfl, w3⟩
        · obtain ⟨q0, q1, q2, q3⟩ := out x3 w3
          rw [w3, if_neg q0, if_neg q1, if_neg q2, if_neg q3]
          exact ⟨-1, rfl, rfl⟩
        · rw [w3, gT, ite_self]
          unfold f_MM_fault_J61
          have ep : f_MM_placeOf 2 = nI 254 := rfl
          have ew : f_MM_wideOf 2 = nI 4 := rfl
          rw [ep, ew, pk_mul, nI_add, nI_add, gIn_nI (by omega) (by decide), nI_clamp (by omega), hrow a hl ha]
          rcases (show a = 0 ∨ a = 1 ∨ a = 2 ∨ a = 3 by omega) with rfl | rfl | rfl | rfl
          · exact ⟨_, rfl, rfl⟩
          · exact ⟨_, rfl, rfl⟩
          · exact ⟨_, rfl, rfl⟩
          · exact ⟨_, rfl, rfl⟩
    · have hb : (decide ((1 : Int64).toInt ≤ x1.toInt) && decide (x1.toInt ≤ (2 : Int64).toInt)) = false := by
        have a1 : (1 : Int64).toInt = 1 := rfl
        have a2 : (2 : Int64).toInt = 2 := rfl
        rw [a1, a2, ← Bool.not_eq_true]
        intro z
        simp only [Bool.and_eq_true, decide_eq_true_eq] at z
        rcases (show x1.toInt = 1 ∨ x1.toInt = 2 by omega) with y | y
        · exact k1 (Int32.toInt_inj.mp (y.trans (by decide)))
        · exact k2 (Int32.toInt_inj.mp (y.trans (by decide)))
      rw [hb, gF]
      refine ⟨-1, ?_, rfl⟩
      by_cases z : x1 < 1
      · rw [if_pos z]
      · rw [if_neg z]
        have : f_Play_sizeOf 0 Mc x1 = 0 := by
          unfold f_Play_sizeOf
          rw [if_neg (fun y => by rw [y] at z; exact absurd z (by decide)), if_neg k1, if_neg k2]
        rw [this]
        by_cases y : x2 < 0
        · rw [if_pos y]
        · rw [if_neg y, if_neg y]
theorem M_unlike {R : Nat → Nat} {M : Mem} (hV : PV R) (hM : PM R (M 1)) (x1 x2 : Int32) : f_MM_areUnlike M x1 x2 = (inB x1 (R 0) && inB x2 (R 0) && decide (x1 ≠ x2)) := by
  unfold f_MM_areUnlike f_MM_areUnlike_J25
  rw [M_partyB hV hM, M_partyB hV hM]
  cases inB x1 (R 0)
  · rfl
  · cases inB x2 (R 0)
    · rfl
    · rw [gT, gT]
      by_cases e : x1 = x2
      · rw [if_pos e, e]; simp
      · rw [if_neg e]; simp [e]
def btN (Q : Tab) (i : Nat) : Int32 := 5 + 3 * nI (Q (5 + i) 4)
def btS (Q : Tab) (x : Int32) : Nat → Int32
  | 0 => 0
  | i + 1 => btS Q x i + (if nI (Q (5 + i) 0) = x then btN Q i else 0)
def btG (Q : Tab) : Nat → Int32
  | 0 => 0
  | i + 1 => maI (btG Q i) (btN Q i)
theorem q_bits {R : Nat → Nat} {Mc Mm : Mem} (h : RelP R Mc Mm) (x1 : Int32) : Ask (f_MC_bits Mc x1) (f_MM_bits Mm x1) Mm := by
  obtain ⟨N, n1, n2, n3, n4, n5⟩ := RelP.run h
  have h00 := R0_cases h
  obtain ⟨hV, hP, hM, hC, h28, hk⟩ := h
  have hn := pv_n hV
  have hi := NQ_inv hV
  have hL := NQ_le hV
  have hR3 := hV.2.2.2.1
  have one : ∀ i, i < NQ R 0 0 → f_Run_bitsOfLetter 112 Mc (nI i) = some (btN (NQ R) i) := fun i hi2 => by
    have c3 : f_Chain_size (Mc 116 i) = _ := Chn_size (hC.2.2.1 i hi2).2.2.1
    unfold f_Run_bitsOfLetter
    rw [gIn_nI (by omega) (by decide), nI_clamp (by omega), c3]
    rfl
  have mm : f_MM_bits_W39 N x1 (0, 0, 0) = some (btS (NQ R) x1 (NQ R 0 0), btG (NQ R) (NQ R 0 0)) := by
    unfold f_MM_bits_W39
    refine loop_fn (fun i => (btS (NQ R) x1 i, btG (NQ R) i, nI i)) (NQ R 0 0) _ (fun i hi2 => ?_) ?_
    · show f_MM_bits_L39 N x1 _ _ (nI i) = _
      have r5 := (n2.2.2.1 i hi2).2.2.2.2.1
      unfold f_MM_bits_L39 f_MM_bits_J86
      rw [n2.1, if_neg (nI_ge hi2 (by omega)), gIn_nI (by omega) (by decide), nI_clamp (by omega), (n2.2.2.1 i hi2).1, r5, ← nI_succ]
      have es : btS (NQ R) x1 (i + 1) = btS (NQ R) x1 i + (if nI (NQ R (5 + i) 0) = x1 then btN (NQ R) i else 0) := rfl
      rw [es]
      by_cases w : nI (NQ R (5 + i) 0) = x1
      · rw [if_pos w, if_pos w]
        rfl
      · rw [if_neg w, if_neg w]
        rfl
    · show f_MM_bits_L39 N x1 _ _ (nI (NQ R 0 0)) = _
      unfold f_MM_bits_L39
      rw [n2.1, if_pos ((nI_leI (by omega) (by omega)).mpr (Nat.le_refl _))]
  have hc4 : Mc 112 4 = nI (NQ R 0 0) := hC.1
  unfold f_MC_bits f_MM_bits
  rcases h00 with ⟨-, a, b⟩ | ⟨-, a, b⟩
  · rw [if_pos a, if_pos b]
    exact Ask.no rfl rfl
  · rw [if_neg a, if_neg b, C_roundOr, M_in18]
    unfold f_MM_bits_J28 f_MM_bits_J39
    rw [n1, bnd_some, mm, bnd_some]
    by_cases e : x1 = -1
    · subst e
      rw [if_pos rfl, if_pos rfl, if_pos rfl, decide_eq_true rfl, Bool.true_or, gT, bnd_id]
      refine ⟨btG (NQ R) (NQ R 0 0), N, ?_, rfl, n3⟩
      unfold f_Run_greatestBits f_Run_greatestBits_J4
      rw [bnd_id]
      unfold f_Run_greatestBits_W4
      refine loop_fn (fun i => (btG (NQ R) i, nI i)) (NQ R 0 0) _ (fun i hi2 => ?_) ?_
      · show f_Run_greatestBits_L4 112 Mc _ (nI i) = _
        unfold f_Run_greatestBits_L4
        rw [hc4, if_neg (nI_ge hi2 (by omega)), one i hi2, bnd_some, ← nI_succ]
        rfl
      · show f_Run_greatestBits_L4 112 Mc _ (nI (NQ R 0 0)) = _
        unfold f_Run_greatestBits_L4
        rw [hc4, if_pos ((nI_leI (by omega) (by omega)).mpr (Nat.le_refl _))]
    · rw [if_neg e, if_neg e, if_neg e, decide_eq_false e, Bool.false_or]
      cases w : in18 x1
      · exact Ask.no rfl rfl
      · rw [gT, gT, bnd_id]
        refine ⟨btS (NQ R) x1 (NQ R 0 0), N, ?_, rfl, n3⟩
        unfold f_Run_bitsOf f_Run_bitsOf_J4
        rw [bnd_id]
        unfold f_Run_bitsOf_W4
        refine loop_fn (fun i => (btS (NQ R) x1 i, nI i)) (NQ R 0 0) _ (fun i hi2 => ?_) ?_
        · show f_Run_bitsOf_L4 112 Mc x1 _ (nI i) = _
          obtain ⟨⟨l0, l0', l1, l2, l3, l4, l4'⟩, -⟩ := hi.1 i hi2
          have c1 : Mc 114 i = _ := (hC.2.2.1 i hi2).1
          unfold f_Run_bitsOf_L4
          rw [hc4, if_neg (nI_ge hi2 (by omega)), gIn_nI (by omega) (by decide), nI_clamp (by omega), c1, way_round (by omega) (by omega) (by omega), one i hi2, bnd_some, ← nI_succ]
          have es : btS (NQ R) x1 (i + 1) = btS (NQ R) x1 i + (if nI (NQ R (5 + i) 0) = x1 then btN (NQ R) i else 0) := rfl
          rw [es]
          by_cases w : nI (NQ R (5 + i) 0) = x1
          · rw [if_pos w, if_pos w]
          · rw [if_neg w, if_neg w, Int32.add_zero]
        · show f_Run_bitsOf_L4 112 Mc x1 _ (nI (NQ R 0 0)) = _
          unfold f_Run_bitsOf_L4
          rw [hc4, if_pos ((nI_leI (by omega) (by omega)).mpr (Nat.le_refl _))]
def ldN (Q : Tab) (a b : Int32) : Nat → Nat := fb_ct (fun i => decide (nI (Q (5 + i) 1) = a) && decide (nI (Q (5 + i) 2) = b))
def ldI (R : Nat → Nat) (Q : Tab) (x a : Int32) : Nat → Int32
  | 0 => x
  | j + 1 => maI (ldI R Q x a j) (nI (ldN Q a (nI j) (Q 0 0)))
def ldO (R : Nat → Nat) (Q : Tab) : Nat → Int32
  | 0 => 0
  | i + 1 => ldI R Q (ldO R Q i) (nI i) (R 0)
theorem q_load {R : Nat → Nat} {Mc Mm : Mem} (h : RelP R Mc Mm) (x1 x2 : Int32) : Ask (f_MC_load Mc x1 x2) (f_MM_load Mm x1 x2) Mm := by
  obtain ⟨N, n1, n2, n3, n4, n5⟩ := RelP.run h
  have h00 := R0_cases h
  obtain ⟨hV, hP, hM, hC, h28, hk⟩ := h
  have hn := pv_n hV
  have hi := NQ_inv hV
  have hL := NQ_le hV
  have hR3 := hV.2.2.2.1
  have hc4 : Mc 112 4 = nI (NQ R 0 0) := hC.1
  have h10 : N 1 0 = nI (R 0) := n5.1.1 0 (by decide)
  have cl : ∀ a b, f_Run_loadOf 112 Mc a b = some (nI (ldN (NQ R) a b (NQ R 0 0))) := fun a b => by
    unfold f_Run_loadOf f_Run_loadOf_J5
    rw [bnd_id]
    unfold f_Run_loadOf_W5
    refine loop_fn (fun i => (nI (ldN (NQ R) a b i), nI i)) (NQ R 0 0) _ (fun i hi2 => ?_) ?_
    · show f_Run_loadOf_L5 112 Mc a b _ (nI i) = _
      obtain ⟨⟨l0, l0', l1, l2, l3, l4, l4'⟩, -⟩ := hi.1 i hi2
      have c1 : Mc 114 i = _ := (hC.2.2.1 i hi2).1
      unfold f_Run_loadOf_L5 ldN
      rw [hc4, if_neg (nI_ge hi2 (by omega)), gIn_nI (by omega) (by decide), nI_clamp (by omega), c1, way_from (by omega) (by omega) (by omega), way_to (by omega) (by omega) (by omega), fb_ct_succ, ← nI_succ, ← nI_succ]
      by_cases w : nI (NQ R (5 + i) 1) = a
      · rw [if_pos w]
        by_cases w2 : nI (NQ R (5 + i) 2) = b
        · rw [if_pos w2, if_pos (by simp [w, w2])]
        · rw [if_neg w2, if_neg (by simp [w2])]
          rfl
      · rw [if_neg w, if_neg (by simp [w])]
        rfl
    · show f_Run_loadOf_L5 112 Mc a b _ (nI (NQ R 0 0)) = _
      unfold f_Run_loadOf_L5
      rw [hc4, if_pos ((nI_leI (by omega) (by omega)).mpr (Nat.le_refl _))]
  have ml : ∀ a b, f_MM_loadOf N a b = some (nI (ldN (NQ R) a b (NQ R 0 0))) := fun a b => by
    unfold f_MM_loadOf f_MM_loadOf_J5
    rw [bnd_id]
    unfold f_MM_loadOf_W5
    refine loop_fn (fun i => (nI (ldN (NQ R) a b i), nI i)) (NQ R 0 0) _ (fun i hi2 => ?_) ?_
    · show f_MM_loadOf_L5 N a b _ (nI i) = _
      obtain ⟨r1, r2, r3, -⟩ := n2.2.2.1 i hi2
      unfold f_MM_loadOf_L5 f_MM_loadOf_J41 f_MM_loadOf_J42 ldN
      rw [n2.1, if_neg (nI_ge hi2 (by omega)), gIn_nI (by omega) (by decide), nI_clamp (by omega), r2, r3, tr1, tr0, fb_ct_succ, ← nI_succ]
      by_cases w : nI (NQ R (5 + i) 1) = a
      · rw [if_pos w]
        by_cases w2 : nI (NQ R (5 + i) 2) = b
        · rw [if_pos w2, if_pos (by simp [w, w2])]
        · rw [if_neg w2, if_neg (by simp [w2])]
          rfl
      · rw [if_neg w, if_neg (by simp [w])]
        rfl
    · show f_MM_loadOf_L5 N a b _ (nI (NQ R 0 0)) = _
      unfold f_MM_loadOf_L5
      rw [n2.1, if_pos ((nI_leI (by omega) (by omega)).mpr (Nat.le_refl _))]
  unfold f_MC_load f_MM_load
  rcases h00 with ⟨-, a, b⟩ | ⟨-, a, b⟩
  · rw [if_pos a, if_pos b]
    exact Ask.no rfl rfl
  · rw [if_neg a, if_neg b, C_party hP.1 hn, C_party hP.1 hn, M_unlike hV hM, cl, bnd_some]
    unfold f_MM_load_J25
    rw [n1, bnd_some, ml, bnd_some]
    by_cases e : x1 = -1
    · subst e
      rw [if_pos rfl, if_pos rfl, if_pos rfl, bnd_id]
      refine ⟨ldO R (NQ R) (R 0), N, ?_, ?_, n3⟩
      · unfold f_Run_greatestLoad f_Run_greatestLoad_J4
        rw [bnd_id]
        unfold f_Run_greatestLoad_W4
        refine loop_fn (fun i => (ldO R (NQ R) i, nI i)) (R 0) _ (fun i hi2 => ?_) ?_
        · show f_Run_greatestLoad_L4 112 Mc _ (nI i) = _
          have inner : f_Run_greatestLoad_W17 112 Mc (nI i) (ldO R (NQ R) i, 0) = some (ldI R (NQ R) (ldO R (NQ R) i) (nI i) (R 0)) := by
            unfold f_Run_greatestLoad_W17
            refine loop_fn (fun j => (ldI R (NQ R) (ldO R (NQ R) i) (nI i) j, nI j)) (R 0) _ (fun j hj => ?_) ?_
            · show f_Run_greatestLoad_L17 112 Mc (nI i) _ (nI j) = _
              unfold f_Run_greatestLoad_L17
              rw [hP.1, if_neg (nI_ge hj (by omega)), cl, bnd_some, ← nI_succ]
              rfl
            · show f_Run_greatestLoad_L17 112 Mc (nI i) _ (nI (R 0)) = _
              unfold f_Run_greatestLoad_L17
              rw [hP.1, if_pos ((nI_leI (by omega) (by omega)).mpr (Nat.le_refl _))]
          unfold f_Run_greatestLoad_L4 f_Run_greatestLoad_J17
          rw [hP.1, if_neg (nI_ge hi2 (by omega)), inner, bnd_some, ← nI_succ]
          rfl
        · show f_Run_greatestLoad_L4 112 Mc _ (nI (R 0)) = _
          unfold f_Run_greatestLoad_L4
          rw [hP.1, if_pos ((nI_leI (by omega) (by omega)).mpr (Nat.le_refl _))]
      · unfold f_MM_load_J46
        rw [bnd_id]
        unfold f_MM_load_W46
        refine loop_fn (fun i => (ldO R (NQ R) i, nI i)) (R 0) _ (fun i hi2 => ?_) ?_
        · show f_MM_load_L46 N _ (nI i) = _
          have inner : f_MM_load_W60 N (nI i) (ldO R (NQ R) i, 0) = some (ldI R (NQ R) (ldO R (NQ R) i) (nI i) (R 0)) := by
            unfold f_MM_load_W60
            refine loop_fn (fun j => (ldI R (NQ R) (ldO R (NQ R) i) (nI i) j, nI j)) (R 0) _ (fun j hj => ?_) ?_
            · show f_MM_load_L60 N (nI i) _ (nI j) = _
              unfold f_MM_load_L60
              rw [h10, if_neg (nI_ge hj (by omega)), ml, bnd_some, ← nI_succ]
              rfl
            · show f_MM_load_L60 N (nI i) _ (nI (R 0)) = _
              unfold f_MM_load_L60
              rw [h10, if_pos ((nI_leI (by omega) (by omega)).mpr (Nat.le_refl _))]
          unfold f_MM_load_L46 f_MM_load_J60
          rw [h10, if_neg (nI_ge hi2 (by omega)), inner, bnd_some, ← nI_succ]
          rfl
        · show f_MM_load_L46 N _ (nI (R 0)) = _
          unfold f_MM_load_L46
          rw [h10, if_pos ((nI_leI (by omega) (by omega)).mpr (Nat.le_refl _))]
    · rw [if_neg e, if_neg e, if_neg e]
      cases inB x1 (R 0)
      · exact Ask.no rfl rfl
      · cases inB x2 (R 0)
        · exact Ask.no rfl rfl
        · rw [gT, gT]
          by_cases q : x1 = x2
          · rw [if_pos q, q, show (true && true && decide (x2 ≠ x2)) = false by simp]
            exact Ask.no rfl rfl
          · rw [if_neg q, show (true && true && decide (x1 ≠ x2)) = true by simp [q]]
            exact ⟨_, N, rfl, rfl, n3⟩
