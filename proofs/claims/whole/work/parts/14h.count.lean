/-! asking: count -/
def waB (R : Nat → Nat) (Q : Tab) (k : Nat) : Bool := decide (Q (5 + k) 5 ≠ 0) && !lie R (Q (5 + k) 2) && decide (Q (5 + k) 4 < Q (5 + k) 5)
theorem cmI_neg {x : Nat} (h : x < 2 ^ 31) : cmI x = -1 ↔ x = 0 := by
  unfold cmI
  split
  · rename_i w; exact ⟨fun _ => w, fun _ => rfl⟩
  · rename_i w; exact ⟨fun z => absurd z (nI_neg1 h), fun z => absurd z w⟩
theorem q_wanting {R : Nat → Nat} {Mc Mm : Mem} (h : RelP R Mc Mm) : Ask (f_Run_shortLetters 112 Mc) (f_MM_wanting Mm) Mm := by
  obtain ⟨N, n1, n2, n3, n4, n5⟩ := RelP.run h
  obtain ⟨hV, hP, hM, hC, h28, hk⟩ := h
  have hn := pv_n hV
  have hi := NQ_inv hV
  have hL := NQ_le hV
  have hR3 := hV.2.2.2.1
  have hc4 : Mc 112 4 = nI (NQ R 0 0) := hC.1
  refine ⟨nI (fb_ct (waB R (NQ R)) (NQ R 0 0)), N, ?_, ?_, n3⟩
  · unfold f_Run_shortLetters f_Run_shortLetters_J4
    rw [bnd_id]
    unfold f_Run_shortLetters_W4
    refine loop_fn (fun k => (nI (fb_ct (waB R (NQ R)) k), nI k)) (NQ R 0 0) _ (fun k hk2 => ?_) ?_
    · show f_Run_shortLetters_L4 112 Mc _ (nI k) = _
      obtain ⟨⟨l0, l0', l1, l2, l3, l4, l4'⟩, -, -, l5, -⟩ := hi.1 k hk2
      obtain ⟨c1, c2, c3, c4, c5⟩ := hC.2.2.1 k hk2
      unfold f_Run_shortLetters_L4 f_Run_shortLetters_J44 f_Run_shortLetters_J45
      rw [hc4, if_neg (nI_ge hk2 (by omega)), gIn_nI (by omega) (by decide), nI_clamp (by omega), c4, c1, way_to (by omega) (by omega) (by omega), gIn_nI (by omega) (by decide), C_isHonest hV hP.1 hP.2.1 (by omega), Chn_size c3, if_pos rfl, if_neg (show ¬ (1 : Int32) = 0 by decide), fb_ct_succ, ← nI_succ, ← nI_succ, decide_eq_true l2, Bool.true_and]
      unfold waB
      by_cases w1 : NQ R (5 + k) 5 = 0
      · rw [if_pos ((cmI_neg (by omega)).mpr w1), if_neg (by simp [w1])]
        rfl
      · rw [if_neg (fun z => w1 ((cmI_neg (by omega)).mp z))]
        have ec : cmI (NQ R (5 + k) 5) = nI (NQ R (5 + k) 5) := if_neg w1
        rw [ec]
        by_cases w2 : NQ R (5 + k) 5 ≤ NQ R (5 + k) 4
        · rw [if_pos ((nI_leI (by omega) (by omega)).mpr w2), if_neg (by simp; omega)]
          rfl
        · rw [if_neg (nI_ge (by omega) (by omega))]
          cases lie R (NQ R (5 + k) 2)
          · rw [if_pos (show (decide (NQ R (5 + k) 5 ≠ 0) && !false && decide (NQ R (5 + k) 4 < NQ R (5 + k) 5)) = true by simp [w1]; omega)]
            rfl
          · rw [Bool.not_true, gF, if_neg (by simp)]
            rfl
    · show f_Run_shortLetters_L4 112 Mc _ (nI (NQ R 0 0)) = _
      unfold f_Run_shortLetters_L4
      rw [hc4, if_pos ((nI_leI (by omega) (by omega)).mpr (Nat.le_refl _))]
  · unfold f_MM_wanting
    rw [n1, bnd_some]
    unfold f_MM_wanting_J8
    rw [bnd_id]
    unfold f_MM_wanting_W8
    refine loop_fn (fun k => (nI (fb_ct (waB R (NQ R)) k), nI k)) (NQ R 0 0) _ (fun k hk2 => ?_) ?_
    · show f_MM_wanting_L8 N _ (nI k) = _
      obtain ⟨⟨l0, l0', l1, l2, l3, l4, l4'⟩, -, -, l5, -⟩ := hi.1 k hk2
      obtain ⟨r1, r2, r3, r4, r5, r6, r7, r8⟩ := n2.2.2.1 k hk2
      unfold f_MM_wanting_L8 f_MM_wanting_J59 f_MM_wanting_J60
      rw [n2.1, if_neg (nI_ge hk2 (by omega)), gIn_nI (by omega) (by decide), nI_clamp (by omega), r6, r3, r5, M_liar (x := none0) hV n5.1 (by omega), tr0, tr1, fb_ct_succ, ← nI_succ]
      unfold waB
      by_cases w1 : NQ R (5 + k) 5 = 0
      · rw [if_pos ((cmI_neg (by omega)).mpr w1), if_neg (by simp [w1])]
        rfl
      · rw [if_neg (fun z => w1 ((cmI_neg (by omega)).mp z))]
        have ec : cmI (NQ R (5 + k) 5) = nI (NQ R (5 + k) 5) := if_neg w1
        rw [ec]
        cases lie R (NQ R (5 + k) 2)
        · rw [gF]
          by_cases w2 : NQ R (5 + k) 5 ≤ NQ R (5 + k) 4
          · rw [if_pos ((nI_leI (by omega) (by omega)).mpr w2), if_neg (by simp; omega)]
            rfl
          · rw [if_neg (nI_ge (by omega) (by omega)), if_pos (show (decide (NQ R (5 + k) 5 ≠ 0) && !false && decide (NQ R (5 + k) 4 < NQ R (5 + k) 5)) = true by simp [w1]; omega)]
        · rw [gT, if_neg (by simp)]
          rfl
    · show f_MM_wanting_L8 N _ (nI (NQ R 0 0)) = _
      unfold f_MM_wanting_L8
      rw [n2.1, if_pos ((nI_leI (by omega) (by omega)).mpr (Nat.le_refl _))]
theorem sh_12 : ∀ sh, sh < 4 → f_MM_truth (bI (sh.testBit 0)) ||| (f_MM_truth (bI (sh.testBit 1)) <<< ((1 : Int32) &&& 31)) = nI sh := by decide +kernel
theorem q_count {Mc Mm : Mem} (h : Rel Mc Mm) (x1 : Int32) : Ask (f_MC_count Mc x1) (f_MM_count Mm x1) Mm := by
  obtain ⟨⟨R, hP0⟩, ⟨pc, π, H, h1, h2, h3, -⟩, ⟨sh, S, s1, s2, s3⟩, ⟨tl, B, t0, t1, t2, -⟩⟩ := h
  have hw := q_wanting hP0
  obtain ⟨hV, hP, hM, hC, h28, hk⟩ := hP0
  have e1 : (1 : Int32).toInt = 1 := rfl
  have e5 : (5 : Int32).toInt = 5 := rfl
  obtain ⟨p0, p1, p2, p3, p4, p5, -⟩ := hP
  have row : ∀ i, i < 10 → Mm 1 i = nI (R i) := hM.1
  unfold f_MC_count f_MM_count
  rcases inB_cases x1 14 with w | ⟨j, hj, -, rfl, w⟩
  · have ne : ∀ j, j < 14 → x1 ≠ nI j := fun j hj z => by
      rw [z, inB_nI (by omega), decide_eq_true hj] at w
      cases w
    have J : f_MC_count_J22 Mc x1 = some (-1) := by
      unfold f_MC_count_J22
      rw [if_neg (show ¬ x1 = (0 : Int32) from ne 0 (by decide)), if_neg (show ¬ x1 = (1 : Int32) from ne 1 (by decide)), if_neg (show ¬ x1 = (2 : Int32) from ne 2 (by decide)), if_neg (show ¬ x1 = (3 : Int32) from ne 3 (by decide)), if_neg (show ¬ x1 = (4 : Int32) from ne 4 (by decide)), if_neg (show ¬ x1 = (5 : Int32) from ne 5 (by decide)), if_neg (show ¬ x1 = (6 : Int32) from ne 6 (by decide)), if_neg (show ¬ x1 = (7 : Int32) from ne 7 (by decide)), if_neg (show ¬ x1 = (8 : Int32) from ne 8 (by decide)), if_neg (show ¬ x1 = (9 : Int32) from ne 9 (by decide)), if_neg (show ¬ x1 = (10 : Int32) from ne 10 (by decide)), if_neg (show ¬ x1 = (11 : Int32) from ne 11 (by decide)), if_neg (show ¬ x1 = (12 : Int32) from ne 12 (by decide)), if_neg (show ¬ x1 = (13 : Int32) from ne 13 (by decide))]
    have w10 : inB x1 10 = false := by
      rcases inB_cases x1 10 with q | ⟨j, hj, -, q, -⟩
      · exact q
      · exact absurd q (ne j (by omega))
    rw [J, M_inB x1 10 9 (by decide), w10, gF, if_neg (show ¬ x1 = (10 : Int32) from ne 10 (by decide)), if_neg (show ¬ x1 = (11 : Int32) from ne 11 (by decide)), if_neg (show ¬ x1 = (12 : Int32) from ne 12 (by decide)), if_neg (show ¬ x1 = (13 : Int32) from ne 13 (by decide))]
    refine Ask.no (v := -1) ?_ rfl
    by_cases z1 : x1 < 1
    · rw [if_pos z1]
    · rw [if_neg z1]
      by_cases z2 : 5 < x1
      · rw [if_pos z2]
      · exfalso
        rw [Int32.lt_iff_toInt_lt] at z1 z2
        unfold inB at w
        rw [decide_eq_true (by omega), decide_eq_true (by omega)] at w
        cases w
  · rcases (show j = 0 ∨ j = 1 ∨ j = 2 ∨ j = 3 ∨ j = 4 ∨ j = 5 ∨ j = 6 ∨ j = 7 ∨ j = 8 ∨ j = 9 ∨ j = 10 ∨ j = 11 ∨ j = 12 ∨ j = 13 by omega) with rfl | rfl | rfl | rfl | rfl | rfl | rfl | rfl | rfl | rfl | rfl | rfl | rfl | rfl
    · exact Ask.no (show _ = some (Mc 0 0) from rfl) (by rw [p0, ← row 0 (by decide)]; rfl)
    · exact Ask.no (show _ = some (Mc 1 0) from rfl) (by rw [p5 0 (by decide), ← row 1 (by decide)]; rfl)
    · exact Ask.no (show _ = some (Mc 1 1) from rfl) (by rw [p5 1 (by decide), ← row 2 (by decide)]; rfl)
    · exact Ask.no (show _ = some (Mc 1 2) from rfl) (by rw [p5 2 (by decide), ← row 3 (by decide)]; rfl)
    · exact Ask.no (show _ = some (Mc 1 3) from rfl) (by rw [p5 3 (by decide), ← row 4 (by decide)]; rfl)
    · exact Ask.no (show _ = some (Mc 1 4) from rfl) (by rw [p5 4 (by decide), ← row 5 (by decide)]; rfl)
    · exact Ask.no (show _ = some (Mc 0 1) from rfl) (by rw [p1, ← row 6 (by decide)]; rfl)
    · exact Ask.no (show _ = some (Mc 0 2) from rfl) (by rw [p2, ← row 7 (by decide)]; rfl)
    · exact Ask.no (show _ = some (Mc 0 3) from rfl) (by rw [p3, ← row 8 (by decide)]; rfl)
    · exact Ask.no (show _ = some (Mc 0 4) from rfl) (by rw [p4, ← row 9 (by decide)]; rfl)
    · exact Ask.no (show _ = some (Mc 138 6) from rfl) (by rw [h2, ← h3]; rfl)
    · exact Ask.no (show _ = some (Mc 136 2) from rfl) (by rw [t1, ← t2]; rfl)
    · refine Ask.no (show _ = some (Mc 138 7) from rfl) ?_
      show some ((f_MM_truth (Mm 6 0)) ||| ((f_MM_truth (Mm 6 1)) <<< ((1 : Int32) &&& 31)), Mm) = _
      rw [(s3 0 (by decide)).2.1, (s3 1 (by decide)).2.1, sh_12 sh s1, s2]
    · obtain ⟨v, M', q1, q2, q3⟩ := hw
      refine ⟨v, M', ?_, ?_, q3⟩
      · show bnd (f_Run_shortLetters 112 Mc) (fun y2 => some y2) = _
        rw [bnd_id, q1]
      · show bnd2 (f_MM_wanting Mm) (fun y3 M2 => some (y3, M2)) = _
        rw [q2]
        rfl
