/-! asking: sent, forged, holders, packed, planned, fault, wanting -/
def ctS (p : Nat → Bool) : Nat → Nat := fb_ct p
theorem R0_cases {R : Nat → Nat} {Mc Mm : Mem} (h : RelP R Mc Mm) : (R 0 = 0 ∧ Mc 0 0 = 0 ∧ Mm 1 0 = 0) ∨ (R 0 ≠ 0 ∧ Mc 0 0 ≠ 0 ∧ Mm 1 0 ≠ 0) := by
  have hn := pv_n h.1
  have a : Mc 0 0 = nI (R 0) := h.2.1.1
  have b : Mm 1 0 = nI (R 0) := h.2.2.1.1 0 (by decide)
  rw [a, b]
  by_cases w : R 0 = 0
  · left
    rw [w]
    exact ⟨rfl, rfl, rfl⟩
  · right
    exact ⟨w, fun z => w ((nz (by omega)).mp z), fun z => w ((nz (by omega)).mp z)⟩
/-- 1 to 8, or not -/
def in18 (x : Int32) : Bool := decide (1 ≤ x.toInt) && decide (x.toInt ≤ 8)
theorem in18_cases (x : Int32) : in18 x = false ∨ ∃ j, 1 ≤ j ∧ j ≤ 8 ∧ x = nI j ∧ in18 x = true := by
  by_cases h : 1 ≤ x.toInt ∧ x.toInt ≤ 8
  · right
    refine ⟨x.toInt.toNat, by omega, by omega, ?_, ?_⟩
    · apply Int32.toInt_inj.mp
      rw [nI_toInt (by omega)]
      omega
    · unfold in18
      rw [decide_eq_true h.1, decide_eq_true h.2]
      rfl
  · left
    unfold in18
    rw [← Bool.not_eq_true]
    simpa using h
theorem M_in18 (x : Int32) : f_MM_in x.toInt64 (1 : Int64) (8 : Int64) = in18 x := by
  rw [M_in, Int32.toInt_toInt64]
  rfl
theorem C_in18 {α : Type} (x : Int32) {a b : α} : (if x < 1 then a else if 8 < x then a else b) = if in18 x = true then b else a := by
  have e1 : (1 : Int32).toInt = 1 := rfl
  have e8 : (8 : Int32).toInt = 8 := rfl
  unfold in18
  by_cases h1 : x < 1
  · rw [if_pos h1, if_neg]
    rw [Int32.lt_iff_toInt_lt] at h1
    rw [decide_eq_false (by omega), Bool.false_and]
    decide
  · rw [if_neg h1]
    rw [Int32.lt_iff_toInt_lt] at h1
    by_cases h2 : 8 < x
    · rw [if_pos h2, if_neg]
      rw [Int32.lt_iff_toInt_lt] at h2
      rw [decide_eq_false (show ¬ x.toInt ≤ 8 by omega), Bool.and_false]
      decide
    · rw [if_neg h2, if_pos]
      rw [Int32.lt_iff_toInt_lt] at h2
      rw [decide_eq_true (by omega), decide_eq_true (by omega)]
      rfl
theorem C_roundOr (x : Int32) : f_MC_isRoundOrNone x = (decide (x = -1) || in18 x) := by
  unfold f_MC_isRoundOrNone f_MC_isRoundOrNone_J16 f_MC_isRoundOrNone_J20
  rw [C_in18]
  by_cases e : x = -1
  · rw [if_pos e, decide_eq_true e, Bool.true_or]
  · rw [if_neg e, decide_eq_false e, Bool.false_or]
    cases in18 x <;> rfl
theorem fb_ct_true (n : Nat) : fb_ct (fun _ => true) n = n := by
  induction n with
  | zero => rfl
  | succ n ih => rw [fb_ct_succ, ih]; rfl
theorem C_lettersOf {k r sr : Nat} {R : Nat → Nat} {rr : Nat} {Q : Tab} {M : Mem} (hC : RC k r sr Q M) (hI : INV R rr Q) (hr : rr ≤ 8) (hn : R 0 ≤ 8) (hL : Q 0 0 ≤ 212) {q : Nat} (hq : q ≤ 8) : f_Run_lettersOf k M (nI q) = some (nI (fb_ct (fun i => decide (Q (5 + i) 0 = q)) (Q 0 0))) := by
  unfold f_Run_lettersOf f_Run_lettersOf_J4
  rw [bnd_id]
  unfold f_Run_lettersOf_W4
  refine loop_fn (fun i => (nI (fb_ct (fun i => decide (Q (5 + i) 0 = q)) i), nI i)) (Q 0 0) _ (fun i hi => ?_) ?_
  · show f_Run_lettersOf_L4 k M (nI q) (nI _) (nI i) = _
    obtain ⟨⟨l0, l0', l1, l2, l3, l4, l4'⟩, -⟩ := hI.1 i hi
    unfold f_Run_lettersOf_L4
    rw [hC.1, if_neg (nI_ge hi (by omega)), gIn_nI (by omega) (by decide), nI_clamp (by omega), (hC.2.2.1 i hi).1, way_round (by omega) (by omega) (by omega), fb_ct_succ, ← nI_succ, ← nI_succ]
    by_cases w : Q (5 + i) 0 = q
    · rw [if_pos (by rw [w]), if_pos (by simp [w])]
    · rw [if_neg (fun z => w ((nI_eq (by omega) (by omega)).mp z)), if_neg (by simp [w])]
      rfl
  · show f_Run_lettersOf_L4 k M (nI q) (nI _) (nI (Q 0 0)) = _
    unfold f_Run_lettersOf_L4
    rw [hC.1, if_pos ((nI_leI (by omega) (by omega)).mpr (Nat.le_refl _))]
theorem tr1 (n : Nat) : nI n + f_MM_truth 1 = nI (n + 1) := by
  rw [nI_succ]
  rfl
theorem tr0 (n : Nat) : nI n + f_MM_truth 0 = nI n := Int32.add_zero _
theorem q_sent {R : Nat → Nat} {Mc Mm : Mem} (h : RelP R Mc Mm) (x1 : Int32) : Ask (f_MC_sent Mc x1) (f_MM_sent Mm x1) Mm := by
  obtain ⟨N, n1, n2, n3, n4, n5⟩ := RelP.run h
  have h00 := R0_cases h
  obtain ⟨hV, hP, hM, hC, h28, hk⟩ := h
  have hn := pv_n hV
  have hi := NQ_inv hV
  have hL := NQ_le hV
  unfold f_MC_sent f_MM_sent
  rcases h00 with ⟨-, a, b⟩ | ⟨-, a, b⟩
  · rw [if_pos a, if_pos b]
    exact Ask.no rfl rfl
  · rw [if_neg a, if_neg b, C_roundOr, M_in18]
    unfold f_MM_sent_J28 f_MM_sent_J36
    rw [n1, bnd_some, bnd_id, bnd_id]
    unfold f_MM_sent_W36
    by_cases e : x1 = -1
    · subst e
      rw [if_pos rfl, if_pos rfl, decide_eq_true rfl, Bool.true_or, gT]
      refine ⟨nI (NQ R 0 0), N, congrArg some hC.1, ?_, n3⟩
      refine loop_fn (fun i => (nI i, nI i)) (NQ R 0 0) _ (fun i hi => ?_) ?_
      · show f_MM_sent_L36 N (-1) (nI i) (nI i) = _
        unfold f_MM_sent_L36 f_MM_sent_J60 f_MM_sent_J65
        rw [n2.1, if_neg (nI_ge hi (by omega)), if_pos rfl, nI_succ]
        rfl
      · show f_MM_sent_L36 N (-1) (nI (NQ R 0 0)) (nI (NQ R 0 0)) = _
        unfold f_MM_sent_L36
        rw [n2.1, if_pos ((nI_leI (by omega) (by omega)).mpr (Nat.le_refl _))]
    · rw [if_neg e, if_neg e, decide_eq_false e, Bool.false_or]
      rcases in18_cases x1 with w | ⟨q, hq1, hq, rfl, w⟩
      · rw [w]
        exact Ask.no rfl rfl
      · rw [w, gT, gT, C_lettersOf hC hi hV.2.2.2.1 hn hL hq]
        refine ⟨_, N, rfl, ?_, n3⟩
        refine loop_fn (fun i => (nI (fb_ct (fun i => decide (NQ R (5 + i) 0 = q)) i), nI i)) (NQ R 0 0) _ (fun i hi2 => ?_) ?_
        · show f_MM_sent_L36 N (nI q) (nI _) (nI i) = _
          obtain ⟨⟨l0, l0', l1, l2, l3, l4, l4'⟩, -⟩ := hi.1 i hi2
          have hR3 := hV.2.2.2.1
          unfold f_MM_sent_L36 f_MM_sent_J60 f_MM_sent_J65
          rw [n2.1, if_neg (nI_ge hi2 (by omega)), if_neg e, gIn_nI (by omega) (by decide), nI_clamp (by omega), (n2.2.2.1 i hi2).1, fb_ct_succ, ← nI_succ]
          by_cases w : NQ R (5 + i) 0 = q
          · rw [if_pos (by rw [w]), if_pos (by simp [w]), tr1]
          · rw [if_neg (fun z => w ((nI_eq (by omega) (by omega)).mp z)), if_neg (by simp [w]), tr0]
            rfl
        · show f_MM_sent_L36 N (nI q) (nI _) (nI (NQ R 0 0)) = _
          unfold f_MM_sent_L36
          rw [n2.1, if_pos ((nI_leI (by omega) (by omega)).mpr (Nat.le_refl _))]
theorem C_idle {R : Nat → Nat} {M : Mem} (hV : PV R) (hP : PC R M 0) : f_Play_idlePlans 0 M = some (nI (orN (idB R) (R 7))) := by
  have hn := pv_n hV
  have h7 := hV.2.2.2.2.2.2.2.2.1
  have hR3 := hV.2.2.2.1
  unfold f_Play_idlePlans f_Play_idlePlans_J4
  rw [bnd_id]
  unfold f_Play_idlePlans_W4
  refine loop_fn (fun i => (nI (orN (idB R) i), nI i)) (R 7) _ (fun l hl => ?_) ?_
  · show f_Play_idlePlans_L4 0 M (nI _) (nI l) = _
    obtain ⟨p0, p0', p1, p2, p3, p4, p4', pm, pd⟩ := plR_ok hV l hl
    have e2 : M 2 l = nI (64 * plR R l 0 + 8 * plR R l 1 + plR R l 2) := (hP.2.2.2.2.2.2.1 l hl).1
    have e12 : M 1 2 = nI (R 3) := hP.2.2.2.2.2.1 2 (by decide)
    have hor : orN (idB R) (l + 1) = orN (idB R) l ||| (if idB R l = true then 2 ^ l else 0) := rfl
    unfold f_Play_idlePlans_L4 f_Play_idlePlans_J35 f_Play_idlePlans_J56
    rw [hP.2.2.1, if_neg (nI_ge hl (by omega)), gIn_nI (by omega) (by decide), nI_clamp (by omega), e2, e12, way_round (by omega) (by omega) (by omega), way_from (by omega) (by omega) (by omega), C_isLiar hV hP.1 hP.2.1 (by omega), sh1 l (by omega), fa_or, hor, ← nI_succ, gIn_nI (by omega) (by decide)]
    by_cases w : R 3 < plR R l 0
    · rw [if_neg (nI_ge w (by omega)), if_neg (by decide), if_pos (show idB R l = true by unfold idB; simp [w])]
    · rw [if_pos ((nI_leI (by omega) (by omega)).mpr (by omega)), if_pos rfl]
      cases w3 : lie R (plR R l 1)
      · rw [gF, if_pos (show idB R l = true by unfold idB; simp [w3])]
      · rw [gT, if_neg (show ¬ idB R l = true by unfold idB; simp [w3]; omega), Nat.or_zero]
  · show f_Play_idlePlans_L4 0 M (nI _) (nI (R 7)) = _
    unfold f_Play_idlePlans_L4
    rw [hP.2.2.1, if_pos ((nI_leI (by omega) (by omega)).mpr (Nat.le_refl _))]
theorem q_forged {R : Nat → Nat} {Mc Mm : Mem} (h : RelP R Mc Mm) (x1 : Int32) : Ask (f_MC_forged Mc x1) (f_MM_forged Mm x1) Mm := by
  obtain ⟨N, n1, n2, n3, n4, n5⟩ := RelP.run h
  obtain ⟨hV, hP, hM, hC, h28, hk⟩ := h
  unfold f_MC_forged f_MM_forged
  rw [M_inB x1 2 1 (by decide), n1, bnd_some, C_idle hV hP, bnd_some, n4, n2.2.1]
  have hc3 : Mc 112 3 = nI (NQ R 0 1) := hC.2.1
  rw [hc3]
  rcases inB_cases x1 2 with w | ⟨j, hj, -, rfl, w⟩
  · rw [w, if_neg (fun z => by rw [z] at w; exact absurd w (by decide)), if_neg (fun z => by rw [z] at w; exact absurd w (by decide))]
    exact Ask.no rfl rfl
  · rw [w, gT]
    rcases (show j = 0 ∨ j = 1 by omega) with rfl | rfl
    · exact ⟨_, N, rfl, rfl, n3⟩
    · exact ⟨_, N, rfl, rfl, n3⟩
theorem set_liar {R : Nat → Nat} {r : Nat} {Q : Tab} (hI : INV R r Q) {p q : Nat} (hp : p < 8) (hq : q ≤ 98) (hl : lie R p = true) : setN Q p q = 0 := by
  have e : ∀ o, o < 4 → ¬ Q 1 (4 * p + o) ≤ q := fun o ho => by
    have := (hI.2.1 (4 * p + o) (by omega)).2.2.2.2.2.1 (Or.inl (by rw [show (4 * p + o) / 4 = p by omega]; exact hl))
    omega
  have e0 := e 0 (by decide)
  rw [Nat.add_zero] at e0
  unfold setN
  rw [if_neg e0, if_neg (e 1 (by decide)), if_neg (e 2 (by decide)), if_neg (e 3 (by decide))]
theorem q_holders {R : Nat → Nat} {Mc Mm : Mem} (h : RelP R Mc Mm) (x1 x2 : Int32) : Ask (f_MC_holders Mc x1 x2) (f_MM_holders Mm x1 x2) Mm := by
  obtain ⟨N, n1, n2, n3, n4, n5⟩ := RelP.run h
  have h00 := R0_cases h
  obtain ⟨hV, hP, hM, hC, h28, hk⟩ := h
  have hn := pv_n hV
  have hi := NQ_inv hV
  have hR3 := hV.2.2.2.1
  unfold f_MC_holders f_MM_holders
  rcases h00 with ⟨-, a, b⟩ | ⟨-, a, b⟩
  · rw [if_pos a, if_pos b]
    exact Ask.no rfl rfl
  · rw [if_neg a, if_neg b, C_value, M_inB x1 4 3 (by decide), C_behind (hP.2.2.2.2.2.1 2 (by decide)) hR3, M_behind (hM.1 3 (by decide)) hR3]
    rcases inB_cases x1 4 with w | ⟨v, hv, -, rfl, w⟩
    · rw [w]
      exact Ask.no rfl rfl
    · rcases inB_cases x2 (R 3 + 1) with w2 | ⟨q, hq, -, rfl, w2⟩
      · rw [w, w2]
        exact Ask.no rfl rfl
      · rw [w, w2, gT, gT, gT, gT, n1, bnd_some]
        unfold f_MC_holders_J32 f_MM_holders_J48
        rw [bnd_id, bnd_id]
        unfold f_MC_holders_W32 f_MM_holders_W48
        refine ⟨nI (orN (fun p => (setN (NQ R) p q).testBit v) (R 0)), N, ?_, ?_, n3⟩
        · refine loop_fn (fun i => (nI (orN (fun p => (setN (NQ R) p q).testBit v) i), nI i)) (R 0) _ (fun p hp => ?_) ?_
          · show f_MC_holders_L32 Mc (nI v) (nI q) (nI _) (nI p) = _
            have hor : orN (fun p => (setN (NQ R) p q).testBit v) (p + 1) = orN (fun p => (setN (NQ R) p q).testBit v) p ||| (if (setN (NQ R) p q).testBit v = true then 2 ^ p else 0) := rfl
            have hs := setN_lt (NQ R) p q
            unfold f_MC_holders_L32
            rw [hP.1, if_neg (nI_ge hp (by omega)), C_setOf hC (by omega) (by omega) hR3, bnd_some, sh1 p (by omega), fa_or, hor, ← nI_succ]
            cases e : (setN (NQ R) p q).testBit v
            · rw [if_pos ((bit_0 (by omega) (by omega)).mpr e), if_neg (by decide), Nat.or_zero]
            · rw [if_neg (fun z => by rw [bit_0 (by omega) (by omega), e] at z; cases z), if_pos rfl]
          · show f_MC_holders_L32 Mc (nI v) (nI q) (nI _) (nI (R 0)) = _
            unfold f_MC_holders_L32
            rw [hP.1, if_pos ((nI_leI (by omega) (by omega)).mpr (Nat.le_refl _))]
        · refine loop_fn (fun i => (nI (orN (fun p => (setN (NQ R) p q).testBit v) i), nI i)) (R 0) _ (fun p hp => ?_) ?_
          · show f_MM_holders_L48 N (nI v) (nI q) (nI _) (nI p) = _
            have hor : orN (fun p => (setN (NQ R) p q).testBit v) (p + 1) = orN (fun p => (setN (NQ R) p q).testBit v) p ||| (if (setN (NQ R) p q).testBit v = true then 2 ^ p else 0) := rfl
            have hs := setN_lt (NQ R) p q
            have h10 : N 1 0 = nI (R 0) := n5.1.1 0 (by decide)
            have e0 : (0 : Int32) = nI 0 := rfl
            unfold f_MM_holders_L48 f_MM_holders_J90 f_MM_holders_J91
            rw [h10, if_neg (nI_ge hp (by omega)), M_liar (x := none0) hV n5.1 (by omega), hor]
            cases hl : lie R p
            · rw [gF, M_setOf n2 (by omega) (by omega) (hi.n9 (by omega)), bnd_some, M_has (by omega) (by omega), sh1 p (by omega), fa_or, ← nI_succ]
              cases e : (setN (NQ R) p q).testBit v
              · rw [gF, e0, fa_or, if_neg (by decide)]
              · rw [gT, if_pos rfl]
            · rw [gT, set_liar hi (by omega) (by omega) hl, Nat.zero_testBit, if_neg (by decide), e0, fa_or, ← nI_succ]
          · show f_MM_holders_L48 N (nI v) (nI q) (nI _) (nI (R 0)) = _
            have h10 : N 1 0 = nI (R 0) := n5.1.1 0 (by decide)
            unfold f_MM_holders_L48
            rw [h10, if_pos ((nI_leI (by omega) (by omega)).mpr (Nat.le_refl _))]
def Ask0 (a b : Option Int32) : Prop := ∃ v, a = some v ∧ b = some v
def dgN (mk : Nat → Nat) : Nat → Int32
  | 0 => 0
  | n + 1 => dgN mk n * 10 + nI (mk n) + 1
theorem q_planned {R : Nat → Nat} {Mc Mm : Mem} (h : RelP R Mc Mm) (x1 x2 : Int32) : Ask0 (f_MC_planned Mc x1 x2) (f_MM_planned Mm x1 x2) := by
  obtain ⟨hV, hP, hM, hC, h28, hk⟩ := h
  have hn := pv_n hV
  have h7 := hV.2.2.2.2.2.2.2.2.1
  have h17 : Mm 1 7 = nI (R 7) := hM.1 7 (by decide)
  unfold f_MC_planned f_MM_planned
  rw [hP.2.2.1, h17, M_inB x1 (R 7) _ (nI_pre64 _ (by omega)), M_inB x2 5 4 (by decide)]
  rcases inB_cases x1 (R 7) with w | ⟨l, hl, -, rfl, w⟩
  · rw [w, gF]
    refine ⟨-1, ?_, rfl⟩
    by_cases z : x1 < 0
    · rw [if_pos z]
    · rw [if_neg z, if_neg]
      intro q
      rw [Int32.lt_iff_toInt_lt] at z q
      rw [nI_toInt (by omega)] at q
      have e0 : (0 : Int32).toInt = 0 := rfl
      unfold inB at w
      rw [decide_eq_true (by omega), decide_eq_true (by omega)] at w
      cases w
  · obtain ⟨p0, p0', p1, p2, p3, p4, p4', pm, pd⟩ := plR_ok hV l hl
    obtain ⟨c1, c2, c3⟩ := hP.2.2.2.2.2.2.1 l hl
    have hrow : ∀ i, i < 5 + plR R l 4 → Mm 1 (10 + 13 * l + i) = nI (plR R l i) := fun i hi => hM.2.1 l i hl hi
    have c1' : Mc 2 l = nI (64 * plR R l 0 + 8 * plR R l 1 + plR R l 2) := c1
    have c2' : Mc 3 l = nI (plR R l 3) := c2
    have c3' : Chn (Mc 4 l) (plR R l 4) (fun i => R (10 + 13 * l + 5 + i)) := c3
    rw [w, gT, if_neg (nI_pos (by omega)), if_pos (nI_lt hl (by omega)), j10, j13, pk_mul, nI_add]
    simp only [gIn_nI (show l < 16 by omega) (by decide : 16 ≤ 2147483648), nI_clamp (show l < 2 ^ 31 by omega), c1', c2', way_round (show plR R l 1 < 8 by omega) (show plR R l 2 < 8 by omega) (show plR R l 0 < 64 by omega), way_from (show plR R l 1 < 8 by omega) (show plR R l 2 < 8 by omega) (show plR R l 0 < 64 by omega), way_to (show plR R l 1 < 8 by omega) (show plR R l 2 < 8 by omega) (show plR R l 0 < 64 by omega)]
    rcases inB_cases x2 5 with w2 | ⟨a, ha, -, rfl, w2⟩
    · have ne : ∀ j, j < 5 → x2 ≠ nI j := fun j hj z => by
        rw [z, inB_nI (by omega), decide_eq_true hj] at w2
        cases w2
      rw [w2, if_neg (show ¬ x2 = (0 : Int32) from ne 0 (by decide)), if_neg (show ¬ x2 = (1 : Int32) from ne 1 (by decide)), if_neg (show ¬ x2 = (2 : Int32) from ne 2 (by decide)), if_neg (show ¬ x2 = (3 : Int32) from ne 3 (by decide)), if_neg (show ¬ x2 = (4 : Int32) from ne 4 (by decide))]
      exact ⟨-1, rfl, rfl⟩
    · rw [w2, gT]
      by_cases a4 : a = 4
      · subst a4
        rw [if_neg (show ¬ nI 4 = (0 : Int32) by decide), if_neg (show ¬ nI 4 = (1 : Int32) by decide), if_neg (show ¬ nI 4 = (2 : Int32) by decide), if_neg (show ¬ nI 4 = (3 : Int32) by decide), if_pos (show nI 4 = (4 : Int32) from rfl), if_pos (show (4 : Int32) ≤ nI 4 by decide)]
        unfold f_Chain_digits f_Chain_digits_J4 f_MM_planned_J61
        rw [bnd_id, bnd_id, bnd_id]
        unfold f_Chain_digits_W4 f_MM_planned_W61
        refine ⟨dgN (fun i => R (10 + 13 * l + 5 + i)) (plR R l 4), ?_, ?_⟩
        · refine loop_fn (fun i => (dgN (fun i => R (10 + 13 * l + 5 + i)) i, nI i)) (plR R l 4) _ (fun i hi => ?_) ?_
          · show f_Chain_digits_L4 (Mc 4 l) _ (nI i) = _
            unfold f_Chain_digits_L4
            rw [Chn_size c3', if_neg (nI_ge hi (by omega)), Chn_mark c3' hi, ← nI_succ]
            rfl
          · show f_Chain_digits_L4 (Mc 4 l) _ (nI (plR R l 4)) = _
            unfold f_Chain_digits_L4
            rw [Chn_size c3', if_pos ((nI_leI (by omega) (by omega)).mpr (Nat.le_refl _))]
        · have start : ∀ x i, f_MM_planned_L61 Mm (nI (10 + 13 * l)) x (nI i) = if nI (plR R l 4) ≤ nI i then some (.inr x) else gIn (nI (10 + 13 * l + 5 + i)) 302 (lt1 ((((10 : Int32) * x) + (Mm 1 (nI (10 + 13 * l + 5 + i)).toNatClampNeg)) + (1 : Int32)) (fun y3 => some (.inl (y3, nI (i + 1))))) := fun x i => by
            unfold f_MM_planned_L61
            rw [j4, nI_add, gIn_nI (by omega) (by decide), nI_clamp (show 10 + 13 * l + 4 < 2 ^ 31 by omega), hrow 4 (by omega), j5, nI_add, nI_add, ← nI_succ]
          refine loop_fn (fun i => (dgN (fun i => R (10 + 13 * l + 5 + i)) i, nI i)) (plR R l 4) _ (fun i hi => ?_) ?_
          · show f_MM_planned_L61 Mm (nI (10 + 13 * l)) _ (nI i) = _
            have er : Mm 1 (10 + 13 * l + 5 + i) = nI (R (10 + 13 * l + 5 + i)) := by
              have := hrow (5 + i) (by omega)
              rw [← Nat.add_assoc] at this
              rw [this]
              unfold plR
              rw [← Nat.add_assoc]
            rw [start, if_neg (nI_ge hi (by omega)), gIn_nI (by omega) (by decide), nI_clamp (by omega), er, lt1_eq, Int32.mul_comm]
            rfl
          · show f_MM_planned_L61 Mm (nI (10 + 13 * l)) _ (nI (plR R l 4)) = _
            rw [start, if_pos ((nI_leI (by omega) (by omega)).mpr (Nat.le_refl _))]
      · have q4 : ¬ nI 4 ≤ nI a := nI_ge (by omega) (by decide)
        have q4' : ¬ (4 : Int32) ≤ nI a := q4
        rw [if_neg q4', nI_add, gIn_nI (by omega) (by decide), nI_clamp (by omega), hrow a (by omega)]
        rcases (show a = 0 ∨ a = 1 ∨ a = 2 ∨ a = 3 by omega) with rfl | rfl | rfl | rfl
        · exact ⟨_, rfl, rfl⟩
        · exact ⟨_, rfl, rfl⟩
        · exact ⟨_, rfl, rfl⟩
        · exact ⟨_, rfl, rfl⟩
def pkN (m : Nat) (mk : Nat → Nat) : Nat → Int64
  | 0 => 0
  | i + 1 => pkN m mk i * 9 + (nI (mk (m - (i + 1)))).toInt64 + 1
theorem down_step {m i : Nat} (hi : i < m) : nI (m - i) - 1 = nI (m - (i + 1)) := by
  rw [show m - i = m - (i + 1) + 1 by omega, nI_succ]
  exact Int32.add_sub_cancel _ _
theorem down_next (x : Int32) : x + -1 = x - 1 := by rw [Int32.sub_eq_add_neg]
theorem neg_1 : ∀ m : Nat, nI (m - m) - 1 < 0 := fun m => by rw [Nat.sub_self]; decide
theorem q_packed {R : Nat → Nat} {Mc Mm : Mem} (h : RelP R Mc Mm) (x1 : Int32) : ∃ v M', f_MC_packed Mc x1 = some v ∧ f_MM_packed Mm x1 = some (v, M') ∧ FrN Mm M' := by
  have hhas := C_letters h
  obtain ⟨N, n1, n2, n3, n4, n5⟩ := RelP.run h
  obtain ⟨hV, hP, hM, hC, h28, hk⟩ := h
  have hi := NQ_inv hV
  have hL := NQ_le hV
  unfold f_MC_packed f_MM_packed
  rw [n1, bnd_some, M_letters hL n2, hhas]
  rcases inB_cases x1 (NQ R 0 0) with w | ⟨j, hj, -, rfl, w⟩
  · rw [w]
    exact ⟨_, N, rfl, rfl, n3⟩
  · obtain ⟨c1, c2, c3, c4, c5⟩ := hC.2.2.1 j hj
    obtain ⟨r1, r2, r3, r4, r5, r6, r7, r8⟩ := n2.2.2.1 j hj
    obtain ⟨⟨l0, l0', l1, l2, l3, l4, l4'⟩, -⟩ := hi.1 _ hj
    have c2' : Mc 115 j = nI (NQ R (5 + j) 3) := c2
    have c3'' : Chn (Mc 116 j) (NQ R (5 + j) 4) (fun i => NQ R (5 + j) (6 + i)) := c3
    rw [w, gT, gT, gIn_nI (by omega) (by decide), gIn_nI (by omega) (by decide), nI_clamp (by omega), bnd_id, r5, c2']
    unfold f_Chain_pack f_Chain_pack_J10 f_MM_packed_J36
    rw [bnd_id, bnd_id, Chn_size c3'']
    unfold f_Chain_pack_W10 f_MM_packed_W36
    refine ⟨pkN (NQ R (5 + j) 4) (fun i => NQ R (5 + j) (6 + i)) (NQ R (5 + j) 4) * 4 + (nI (NQ R (5 + j) 3)).toInt64, N, ?_, ?_, n3⟩
    · refine loop_fn (fun i => (pkN (NQ R (5 + j) 4) (fun i => NQ R (5 + j) (6 + i)) i, nI (NQ R (5 + j) 4 - i) - 1)) (NQ R (5 + j) 4) _ (fun i hi2 => ?_) ?_
      · show f_Chain_pack_L10 (Mc 116 j) (nI (NQ R (5 + j) 3)) _ (nI (NQ R (5 + j) 4 - i) - 1) = _
        unfold f_Chain_pack_L10
        rw [down_step hi2, if_neg (nI_pos (by omega)), Chn_mark c3'' (by omega), down_next]
        rfl
      · show f_Chain_pack_L10 (Mc 116 j) (nI (NQ R (5 + j) 3)) _ (nI (NQ R (5 + j) 4 - NQ R (5 + j) 4) - 1) = _
        unfold f_Chain_pack_L10
        rw [if_pos (neg_1 _)]
    · refine loop_fn (fun i => (pkN (NQ R (5 + j) 4) (fun i => NQ R (5 + j) (6 + i)) i, nI (NQ R (5 + j) 4 - i) - 1)) (NQ R (5 + j) 4) _ (fun i hi2 => ?_) ?_
      · show f_MM_packed_L36 N (nI j) _ (nI (NQ R (5 + j) 4 - i) - 1) = _
        unfold f_MM_packed_L36
        rw [down_step hi2, if_neg (nI_pos (by omega)), j8, pk_mul, nI_add, gIn_nI (by omega) (by decide), nI_clamp (by omega), r8 _ (by omega), down_next, Int64.mul_comm]
        rfl
      · show f_MM_packed_L36 N (nI j) _ (nI (NQ R (5 + j) 4 - NQ R (5 + j) 4) - 1) = _
        unfold f_MM_packed_L36
        rw [if_pos (neg_1 _), gIn_nI (by omega) (by decide), nI_clamp (by omega), r4, Int64.mul_comm]
