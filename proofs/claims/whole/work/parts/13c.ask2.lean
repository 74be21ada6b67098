/-! asking: extracted, path, letter, mark, sent, forged, holders, packed -/
theorem exI_of {x : Nat} (h : x ≠ 99) : exI x = nI x := if_neg h
theorem byI_of {x : Nat} (h : x ≠ 0) : byI x = nI (x - 1) := if_neg h
theorem C_behind {R : Nat → Nat} {M : Mem} (e2 : M 1 2 = nI (R 3)) (hR3 : R 3 ≤ 8) (x2 : Int32) : f_MC_hasRoundBehind M x2 = inB x2 (R 3 + 1) := by
  unfold f_MC_hasRoundBehind f_MC_hasRoundBehind_J21
  rw [e2]
  have : ∀ {α : Type} {a b : α}, (if nI (R 3) < x2 then a else b) = if nI (R 3 + 1) ≤ x2 then a else b := by
    intro α a b
    have i : nI (R 3) < x2 ↔ nI (R 3 + 1) ≤ x2 := by
      rw [Int32.lt_iff_toInt_lt, Int32.le_iff_toInt_le, nI_toInt (by omega), nI_toInt (by omega)]
      omega
    simp only [i]
  rw [this, inC (by omega)]
  cases inB x2 (R 3 + 1)
  · rw [if_neg (by decide)]
    split <;> rfl
  · rfl
theorem M_behind {R : Nat → Nat} {M : Mem} (e3 : M 1 3 = nI (R 3)) (hR3 : R 3 ≤ 8) (x2 : Int32) : f_MM_in x2.toInt64 (0 : Int64) ((M 1 3).toInt64) = inB x2 (R 3 + 1) := by
  rw [e3, M_inB x2 (R 3 + 1) _ (by rw [Int32.toInt_toInt64, nI_toInt (by omega)]; omega)]
theorem i3 {α : Type} (x : Int32) {a b : α} : (if x < 0 then a else if x ≤ 3 then b else a) = if inB x 4 = true then b else a := by
  unfold inB
  have e0 : (0 : Int32).toInt = 0 := rfl
  have e3 : (3 : Int32).toInt = 3 := rfl
  by_cases h1 : x < 0
  · rw [if_pos h1, if_neg]
    rw [Int32.lt_iff_toInt_lt] at h1
    rw [decide_eq_false (by omega), Bool.false_and]
    decide
  · rw [if_neg h1]
    rw [Int32.lt_iff_toInt_lt] at h1
    by_cases h2 : x ≤ 3
    · rw [if_pos h2, if_pos]
      rw [Int32.le_iff_toInt_le] at h2
      rw [decide_eq_true (by omega), decide_eq_true (by omega)]
      rfl
    · rw [if_neg h2, if_neg]
      rw [Int32.le_iff_toInt_le] at h2
      rw [decide_eq_false (show ¬ x.toInt < ((4 : Nat) : Int) by omega), Bool.and_false]
      decide
set_option maxHeartbeats 1000000 in
theorem q_extracted {R : Nat → Nat} {Mc Mm : Mem} (h : RelP R Mc Mm) (x1 x2 x3 : Int32) : Ask (f_MC_extracted Mc x1 x2 x3) (f_MM_extracted Mm x1 x2 x3) Mm := by
  obtain ⟨hV, hP, hM, hC, h28, hk⟩ := h
  have hn := pv_n hV
  have hR3 := hV.2.2.2.1
  unfold f_MC_extracted f_MM_extracted
  rw [C_honest hV hP.1 hP.2.1, M_honB hV hM, C_value, M_inB x2 4 3 (by decide), M_inB x3 4 3 (by decide)]
  rcases honB_cases R x1 hn with w | ⟨p, hp, hl, rfl, w⟩
  · rw [w]
    exact Ask.no rfl rfl
  · rw [w, gT, gT]
    rcases inB_cases x2 4 with w2 | ⟨v, hv, -, rfl, w2⟩
    · rw [w2]
      exact Ask.no rfl rfl
    · rw [w2, gT, gT, i3]
      rcases inB_cases x3 4 with w3 | ⟨a, ha, -, rfl, w3⟩
      · rw [w3]
        exact Ask.no rfl rfl
      · obtain ⟨N, n1, n2, n3, n4, n5⟩ := RelP.run ⟨hV, hP, hM, hC, h28, hk⟩
        have hi := NQ_inv hV
        have hc : 4 * p + v < 32 := by omega
        obtain ⟨c1, c2, c3⟩ := hC.2.2.2.1 _ hc
        obtain ⟨m1, m2, m3⟩ := n2.2.2.2 _ hc
        obtain ⟨k1, k2, k3, k4, -⟩ := hi.2.1 _ hc
        have hL := NQ_le hV
        have hl99 : NQ R 1 (4 * p + v) ≤ 99 := by omega
        have c1' : Mc 119 (4 * p + v) = _ := c1
        rw [w3, gT, if_pos rfl, n1, bnd_some, cell_of, mcell_of, gIn_nI hc (by decide), gIn_nI hc (by decide), nI_clamp (by omega), c1', m1, m2]
        by_cases z : NQ R 1 (4 * p + v) = 99
        · rw [z]
          exact ⟨_, N, rfl, rfl, n3⟩
        · rw [if_neg (show ¬ nI (NQ R 1 (4 * p + v)) = 99 from fun y => z ((nI_eq (by omega) (by decide)).mp y)), if_neg (fun y => z ((exI_ne hl99).mp y))]
          have hrl1 := C_relays hV hP.CS hC (p := p) (v := v) (by omega) hv (hi.n9 (by omega)) z
          have hrl2 := M_relays hV n5.1 n2 (p := p) (v := v) (by omega) hv (hi.n9 (by omega)) z
          rcases (show a = 0 ∨ a = 1 ∨ a = 2 ∨ a = 3 by omega) with rfl | rfl | rfl | rfl
          · rw [if_pos (show nI 0 = 0 from rfl), if_pos (show nI 0 = 0 from rfl), exI_of z]
            exact ⟨_, N, rfl, rfl, n3⟩
          · rw [if_neg (show ¬ nI 1 = (0 : Int32) by decide), if_neg (show ¬ nI 1 = (0 : Int32) by decide), if_pos (show nI 1 = 1 from rfl), if_pos (show nI 1 = 1 from rfl)]
            by_cases y : NQ R 2 (4 * p + v) = 0
            · rw [if_pos ((byI_ne (by omega)).mpr y)]
              exact ⟨_, N, congrArg some (c2 y).1, rfl, n3⟩
            · rw [if_neg (fun q => y ((byI_ne (by omega)).mp q)), byI_of y, gIn_nI (by omega) (by decide), nI_clamp (by omega)]
              exact ⟨_, N, congrArg some (c3 y).1, by rw [(n2.2.2.1 _ (by omega)).2.1], n3⟩
          · rw [if_neg (show ¬ nI 2 = (0 : Int32) by decide), if_neg (show ¬ nI 2 = (0 : Int32) by decide), if_neg (show ¬ nI 2 = (1 : Int32) by decide), if_neg (show ¬ nI 2 = (1 : Int32) by decide), if_pos (show nI 2 = 2 from rfl), if_pos (show nI 2 = 2 from rfl)]
            by_cases y : NQ R 2 (4 * p + v) = 0
            · rw [if_pos ((byI_ne (by omega)).mpr y)]
              refine ⟨_, N, rfl, ?_, n3⟩
              have e9 : Mc 121 (4 * p + v) = 0 := (c2 y).2
              rw [e9]
              rfl
            · rw [if_neg (fun q => y ((byI_ne (by omega)).mp q)), byI_of y, gIn_nI (by omega) (by decide), nI_clamp (by omega)]
              have e9 : f_Chain_size (Mc 121 (4 * p + v)) = _ := Chn_size (c3 y).2
              rw [e9]
              exact ⟨_, N, rfl, by rw [(n2.2.2.1 _ (by omega)).2.2.2.2.1], n3⟩
          · rw [if_neg (show ¬ nI 3 = (0 : Int32) by decide), if_neg (show ¬ nI 3 = (0 : Int32) by decide), if_neg (show ¬ nI 3 = (1 : Int32) by decide), if_neg (show ¬ nI 3 = (1 : Int32) by decide), if_neg (show ¬ nI 3 = (2 : Int32) by decide), if_neg (show ¬ nI 3 = (2 : Int32) by decide), hrl1, hrl2, bnd_some, bnd_some]
            cases rlN R (NQ R) p v
            · exact ⟨_, N, rfl, rfl, n3⟩
            · exact ⟨_, N, rfl, rfl, n3⟩
theorem q_path {R : Nat → Nat} {Mc Mm : Mem} (h : RelP R Mc Mm) (x1 x2 x3 : Int32) : Ask (f_MC_path Mc x1 x2 x3) (f_MM_path Mm x1 x2 x3) Mm := by
  obtain ⟨hV, hP, hM, hC, h28, hk⟩ := h
  have hn := pv_n hV
  have hR3 := hV.2.2.2.1
  unfold f_MC_path f_MM_path
  rw [C_honest hV hP.1 hP.2.1, M_honB hV hM, C_value, M_inB x2 4 3 (by decide)]
  rcases honB_cases R x1 hn with w | ⟨p, hp, hl, rfl, w⟩
  · rw [w]
    exact Ask.no rfl rfl
  · rw [w, gT, gT]
    rcases inB_cases x2 4 with w2 | ⟨v, hv, -, rfl, w2⟩
    · rw [w2]
      exact Ask.no rfl rfl
    · rw [w2, gT, gT]
      by_cases g : (-1 : Int32) ≤ x3
      · obtain ⟨N, n1, n2, n3, n4, n5⟩ := RelP.run ⟨hV, hP, hM, hC, h28, hk⟩
        have hi := NQ_inv hV
        have hc : 4 * p + v < 32 := by omega
        obtain ⟨c1, c2, c3⟩ := hC.2.2.2.1 _ hc
        obtain ⟨m1, m2, m3⟩ := n2.2.2.2 _ hc
        obtain ⟨k1, k2, k3, k4, -⟩ := hi.2.1 _ hc
        have hL := NQ_le hV
        have hl99 : NQ R 1 (4 * p + v) ≤ 99 := by omega
        have c1' : Mc 119 (4 * p + v) = _ := c1
        rw [if_pos g, if_pos g, n1, bnd_some, cell_of, mcell_of, gIn_nI hc (by decide), gIn_nI hc (by decide), nI_clamp (by omega), c1', m1, m2]
        by_cases z : NQ R 1 (4 * p + v) = 99
        · rw [z]
          exact ⟨_, N, rfl, rfl, n3⟩
        · rw [if_neg (show ¬ nI (NQ R 1 (4 * p + v)) = 99 from fun y => z ((nI_eq (by omega) (by decide)).mp y)), if_neg (fun y => z ((exI_ne hl99).mp y))]
          have low : x3 = -1 ∨ ∃ j, j < 2 ^ 31 ∧ x3 = nI j := by
            rcases i32c x3 with q | q
            · left
              apply Int32.toInt_inj.mp
              rw [Int32.lt_iff_toInt_lt] at q
              rw [Int32.le_iff_toInt_le] at g
              have e0 : (0 : Int32).toInt = 0 := rfl
              have e1 : (-1 : Int32).toInt = -1 := rfl
              omega
            · exact Or.inr q
          by_cases y : NQ R 2 (4 * p + v) = 0
          · rw [if_pos ((byI_ne (by omega)).mpr y)]
            have e9 : Mc 121 (4 * p + v) = 0 := (c2 y).2
            have es : f_Chain_size 0 = 0 := rfl
            rw [e9, es]
            unfold f_MM_path_J77
            rcases low with rfl | ⟨j, hj, rfl⟩
            · exact ⟨_, N, rfl, rfl, n3⟩
            · rw [if_neg (nI_neg1 hj), if_neg (nI_neg1 hj), if_pos (show (0 : Int32) ≤ nI j from (nI_leI (a := 0) (by decide) hj).mpr (Nat.zero_le _)), if_pos (show (0 : Int32) ≤ nI j from (nI_leI (a := 0) (by decide) hj).mpr (Nat.zero_le _))]
              exact ⟨_, N, rfl, rfl, n3⟩
          · have hb : NQ R 2 (4 * p + v) - 1 < NQ R 0 0 := by omega
            obtain ⟨⟨l0, l0', l1, l2, l3, l4, l4'⟩, -⟩ := hi.1 _ hb
            have ch : Chn (Mc 121 (4 * p + v)) _ _ := (c3 y).2
            obtain ⟨r1, r2, r3, r4, r5, r6, r7, r8⟩ := n2.2.2.1 _ hb
            rw [if_neg (fun q => y ((byI_ne (by omega)).mp q)), byI_of y, gIn_nI (by omega) (by decide), nI_clamp (by omega), Chn_size ch, r5]
            unfold f_MM_path_J77
            rcases low with rfl | ⟨j, hj, rfl⟩
            · exact ⟨_, N, rfl, rfl, n3⟩
            · rw [if_neg (nI_neg1 hj), if_neg (nI_neg1 hj)]
              by_cases u : NQ R (5 + (NQ R 2 (4 * p + v) - 1)) 4 ≤ j
              · rw [if_pos ((nI_leI (by omega) hj).mpr u), if_pos ((nI_leI (by omega) hj).mpr u)]
                exact ⟨_, N, rfl, rfl, n3⟩
              · rw [if_neg (nI_ge (by omega) (by omega)), if_neg (nI_ge (by omega) (by omega)), Chn_mark ch (by omega), j8, pk_mul, nI_add, gIn_nI (by omega) (by decide), nI_clamp (by omega), r8 j (by omega)]
                exact ⟨_, N, rfl, rfl, n3⟩
      · rw [if_neg g, if_neg g]
        exact Ask.no rfl rfl
theorem C_letters {R : Nat → Nat} {Mc Mm : Mem} (h : RelP R Mc Mm) (x : Int32) : f_MC_hasLetter Mc x = inB x (NQ R 0 0) := by
  have hL := NQ_le h.1
  unfold f_MC_hasLetter f_MC_hasLetter_J19
  rw [h.2.2.2.1.1, inC (by omega)]
  cases inB x (NQ R 0 0)
  · rw [if_neg (by decide)]
    split <;> rfl
  · rfl
theorem M_letters {Q : Tab} {N : Mem} (hL : Q 0 0 ≤ 212) (hQ : RM Q N) (x : Int32) : f_MM_in x.toInt64 (0 : Int64) (((N 0 21) - (1 : Int32)).toInt64) = inB x (Q 0 0) := by
  rw [hQ.1, M_inB x (Q 0 0) _ (nI_pre64 _ (by omega))]
theorem NQ_n0 {R : Nat → Nat} (hV : PV R) (h0 : R 0 = 0) : NQ R = sQ0 R := by
  have e7 : R 7 = 0 := by
    refine Classical.byContradiction (fun w => ?_)
    have := (plR_ok hV 0 (by omega)).2.2.1
    omega
  exact sRun_n0 h0 e7 _
theorem nz {n : Nat} (h : n < 2 ^ 31) : nI n = 0 ↔ n = 0 := nI_eq (b := 0) h (by decide)
theorem q_letter {R : Nat → Nat} {Mc Mm : Mem} (h : RelP R Mc Mm) (x1 x2 : Int32) : Ask (f_MC_letter Mc x1 x2) (f_MM_letter Mm x1 x2) Mm := by
  have hhas := C_letters h
  obtain ⟨N, n1, n2, n3, n4, n5⟩ := RelP.run h
  obtain ⟨hV, hP, hM, hC, h28, hk⟩ := h
  have hn := pv_n hV
  have hi := NQ_inv hV
  have hL := NQ_le hV
  have h10 : N 1 0 = nI (R 0) := n5.1.1 0 (by decide)
  unfold f_MC_letter f_MM_letter
  rw [hP.1, n1, bnd_some, h10, M_letters hL n2]
  by_cases h0 : R 0 = 0
  · rw [if_pos ((nz (by omega)).mpr h0), if_pos (show nI (R 0) ≤ 0 by rw [h0]; decide), NQ_n0 hV h0]
    unfold f_MM_letter_J29
    refine ⟨-1, N, rfl, ?_, n3⟩
    by_cases e : x1 = -1
    · rw [if_pos e]
    · rw [if_neg e]
      rcases inB_cases x1 (sQ0 R 0 0) with w | ⟨j, hj, -⟩
      · rw [w]
        rfl
      · exact absurd hj (Nat.not_lt_zero _)
  · rw [if_neg (fun z => h0 ((nz (by omega)).mp z)), if_neg (show ¬ nI (R 0) ≤ 0 from fun w => h0 (by have := (nI_leI (a := R 0) (b := 0) (by omega) (by decide)).mp w; omega))]
    have J : f_MC_letter_J29 Mc (-1) x2 = some (-1) := by
      unfold f_MC_letter_J29
      rw [hhas, inB_neg]
      rfl
    by_cases e : x1 = -1
    · subst e
      rw [if_pos rfl, if_pos rfl, J]
      by_cases e2 : x2 = 0
      · rw [if_pos e2, if_pos e2]
        exact ⟨_, N, congrArg some hC.1, by rw [n2.1], n3⟩
      · rw [if_neg e2, if_neg e2]
        exact ⟨_, N, rfl, rfl, n3⟩
    · rw [if_neg e, if_neg e]
      unfold f_MC_letter_J29
      rw [hhas]
      rcases inB_cases x1 (NQ R 0 0) with w | ⟨j, hj, -, rfl, w⟩
      · rw [w]
        exact ⟨_, N, rfl, rfl, n3⟩
      · obtain ⟨c1, c2, c3, c4, c5⟩ := hC.2.2.1 j hj
        obtain ⟨r1, r2, r3, r4, r5, r6, r7, r8⟩ := n2.2.2.1 j hj
        obtain ⟨⟨l0, l0', l1, l2, l3, l4, l4'⟩, -⟩ := hi.1 _ hj
        have hR3 := hV.2.2.2.1
        have c1' : Mc 114 j = _ := c1
        have c2' : Mc 115 j = _ := c2
        have c4' : Mc 117 j = _ := c4
        have c5' : Mc 118 j = _ := c5
        have c3' : f_Chain_size (Mc 116 j) = _ := Chn_size c3
        rw [w, gT, gT]
        simp only [gIn_nI (show j < 212 by omega) (by decide : 212 ≤ 2147483648), gIn_nI (show j < 260 by omega) (by decide : 260 ≤ 2147483648), nI_clamp (show j < 2 ^ 31 by omega), c1', c2', c3', c4', c5', r1, r2, r3, r4, r5, r6, r7, way_round (show NQ R (5 + j) 1 < 8 by omega) (show NQ R (5 + j) 2 < 8 by omega) (show NQ R (5 + j) 0 < 64 by omega), way_from (show NQ R (5 + j) 1 < 8 by omega) (show NQ R (5 + j) 2 < 8 by omega) (show NQ R (5 + j) 0 < 64 by omega), way_to (show NQ R (5 + j) 1 < 8 by omega) (show NQ R (5 + j) 2 < 8 by omega) (show NQ R (5 + j) 0 < 64 by omega)]
        by_cases q0 : x2 = 0
        · rw [if_pos q0, if_pos q0]; exact ⟨_, N, rfl, rfl, n3⟩
        rw [if_neg q0, if_neg q0]
        by_cases q1 : x2 = 1
        · rw [if_pos q1, if_pos q1]; exact ⟨_, N, rfl, rfl, n3⟩
        rw [if_neg q1, if_neg q1]
        by_cases q2 : x2 = 2
        · rw [if_pos q2, if_pos q2]; exact ⟨_, N, rfl, rfl, n3⟩
        rw [if_neg q2, if_neg q2]
        by_cases q3 : x2 = 3
        · rw [if_pos q3, if_pos q3]; exact ⟨_, N, rfl, rfl, n3⟩
        rw [if_neg q3, if_neg q3]
        by_cases q4 : x2 = 4
        · rw [if_pos q4, if_pos q4]; exact ⟨_, N, rfl, rfl, n3⟩
        rw [if_neg q4, if_neg q4]
        by_cases q5 : x2 = 5
        · rw [if_pos q5, if_pos q5]; exact ⟨_, N, rfl, rfl, n3⟩
        rw [if_neg q5, if_neg q5]
        by_cases q6 : x2 = 6
        · rw [if_pos q6, if_pos q6]; exact ⟨_, N, rfl, rfl, n3⟩
        rw [if_neg q6, if_neg q6]
        exact ⟨_, N, rfl, rfl, n3⟩
theorem q_mark {R : Nat → Nat} {Mc Mm : Mem} (h : RelP R Mc Mm) (x1 x2 : Int32) : Ask (f_MC_mark Mc x1 x2) (f_MM_mark Mm x1 x2) Mm := by
  have hhas := C_letters h
  obtain ⟨N, n1, n2, n3, n4, n5⟩ := RelP.run h
  obtain ⟨hV, hP, hM, hC, h28, hk⟩ := h
  have hi := NQ_inv hV
  have hL := NQ_le hV
  unfold f_MC_mark f_MM_mark f_MM_mark_J52
  rw [n1, bnd_some, M_letters hL n2, hhas]
  rcases inB_cases x1 (NQ R 0 0) with w | ⟨j, hj, -, rfl, w⟩
  · rw [w]
    exact ⟨_, N, rfl, rfl, n3⟩
  · obtain ⟨c1, c2, c3, c4, c5⟩ := hC.2.2.1 j hj
    obtain ⟨r1, r2, r3, r4, r5, r6, r7, r8⟩ := n2.2.2.1 j hj
    obtain ⟨⟨l0, l0', l1, l2, l3, l4, l4'⟩, -⟩ := hi.1 _ hj
    have c3' : f_Chain_size (Mc 116 j) = _ := Chn_size c3
    have c3'' : Chn (Mc 116 j) _ _ := c3
    rw [w, gT, gT, gIn_nI (by omega) (by decide), gIn_nI (by omega) (by decide), nI_clamp (by omega), c3', r5, M_inB x2 (NQ R (5 + j) 4) _ (nI_pre64 _ (by omega))]
    rcases i32c x2 with q | ⟨i, hi2, rfl⟩
    · have : inB x2 (NQ R (5 + j) 4) = false := by
        rw [Int32.lt_iff_toInt_lt] at q
        have e0 : (0 : Int32).toInt = 0 := rfl
        unfold inB
        rw [decide_eq_false (by omega), Bool.false_and]
      rw [if_pos q, this]
      exact ⟨_, N, rfl, rfl, n3⟩
    · rw [if_neg (nI_pos hi2), inB_nI hi2]
      by_cases z : i < NQ R (5 + j) 4
      · rw [if_pos (nI_lt z (by omega)), decide_eq_true z, gT, Chn_mark c3'' z, j8, pk_mul, nI_add, gIn_nI (by omega) (by decide), nI_clamp (by omega), r8 i z]
        exact ⟨_, N, rfl, rfl, n3⟩
      · rw [if_neg (nI_nlt (by omega) hi2), decide_eq_false z, gF]
        exact ⟨_, N, rfl, rfl, n3⟩
