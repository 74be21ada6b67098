/-! asking: calm -/
theorem fstN_congr {p q : Nat → Bool} {n : Nat} (h : ∀ i, i < n → p i = q i) : fstN p n = fstN q n := by
  induction n with
  | zero => rfl
  | succ n ih =>
    unfold fstN
    rw [ih (fun i hi => h i (by omega)), h n (by omega)]
theorem M_calm0 {R : Nat → Nat} {Q : Tab} {M : Mem} (hV : PV R) (hM : PM R (M 1)) (hQ : RM Q M) (hI : INV R (R 3) Q) {r : Nat} (hr : r ≤ 8) : f_MM_isCalm M 0 (nI r) = some (!anyB (fun p => !lie R p && decide (setN Q p r ≠ setN Q p (R 3))) (R 0)) := by
  have hn := pv_n hV
  have hR3 := hV.2.2.2.1
  have h10 : M 1 0 = nI (R 0) := hM.1 0 (by decide)
  have h13 : M 1 3 = nI (R 3) := hM.1 3 (by decide)
  have h9 := hI.n9 (by omega)
  unfold f_MM_isCalm
  rw [M_sound hV hM, bnd_some]
  unfold f_MM_isCalm_J11
  rw [bnd_id]
  unfold f_MM_isCalm_W11
  have st : ∀ p, p < R 0 → f_MM_isCalm_L11 M 0 (nI r) (nI (snN R)) (-1) (nI p) = if (!lie R p && decide (setN Q p r ≠ setN Q p (R 3))) = true then some (.inr false) else some (.inl (-1, nI (p + 1))) := fun p hp => by
    have a1 := setN_lt Q p r
    have a2 := setN_lt Q p (R 3)
    unfold f_MM_isCalm_L11 f_MM_isCalm_J59
    rw [h10, if_neg (nI_ge hp (by omega)), if_pos rfl, M_liar (x := none0) hV hM (by omega), h13, M_setOf hQ (by omega) hr h9, M_setOf hQ (by omega) hR3 h9, bnd_some, bnd_some, if_neg (show ¬ (0 : Int32) = 1 by decide), ← nI_succ]
    cases lie R p
    · rw [gF]
      by_cases w : setN Q p r = setN Q p (R 3)
      · rw [if_pos (by rw [w]), if_neg (by simp [w])]
      · rw [if_neg (fun z => w ((nI_eq (by omega) (by omega)).mp z)), if_pos (by simp [w])]
    · rw [gT]
      rfl
  have := loop_first (body := fun t => f_MM_isCalm_L11 M 0 (nI r) (nI (snN R)) t.1 t.2) (fun p => ((-1 : Int32), nI p)) (fun p => !lie R p && decide (setN Q p r ≠ setN Q p (R 3))) (R 0) (fun _ => false) true (fun p hp hb => by
      show f_MM_isCalm_L11 M 0 (nI r) (nI (snN R)) (-1) (nI p) = _
      rw [st p hp, if_neg (by rw [hb]; decide)]) (fun p hp hb => by
      show f_MM_isCalm_L11 M 0 (nI r) (nI (snN R)) (-1) (nI p) = _
      rw [st p hp, if_pos hb]) (by
      show f_MM_isCalm_L11 M 0 (nI r) (nI (snN R)) (-1) (nI (R 0)) = _
      unfold f_MM_isCalm_L11
      rw [h10, if_pos ((nI_leI (by omega) (by omega)).mpr (Nat.le_refl _))])
  refine this.trans (congrArg some ?_)
  rcases fstN_sp (fun p => !lie R p && decide (setN Q p r ≠ setN Q p (R 3))) (R 0) with ⟨h1, h2⟩ | ⟨h1, h2, h3⟩
  · rw [h1, if_neg (by omega), anyB_f.mpr h2]
    rfl
  · rw [if_pos h1, anyB_iff.mpr ⟨_, h1, h2⟩]
    rfl
theorem M_calm1 {R : Nat → Nat} {Q : Tab} {M : Mem} (hV : PV R) (hM : PM R (M 1)) (hQ : RM Q M) (hI : INV R (R 3) Q) {r : Nat} (hr : r ≤ 8) : f_MM_isCalm M 1 (nI r) = some (alB (snN R) (fun p => setN Q p r) (R 0)) := by
  have hn := pv_n hV
  have hR3 := hV.2.2.2.1
  have h10 : M 1 0 = nI (R 0) := hM.1 0 (by decide)
  have h9 := hI.n9 (by omega)
  have hs : snN R < 256 := orN_lt9 _ hn
  unfold f_MM_isCalm
  rw [M_sound hV hM, bnd_some]
  unfold f_MM_isCalm_J11
  rw [bnd_id]
  unfold f_MM_isCalm_W11 alB
  have st : ∀ p x, p < R 0 → f_MM_isCalm_L11 M 1 (nI r) (nI (snN R)) x (nI p) = if (snN R).testBit p = true then (if x = -1 then some (.inl (nI (setN Q p r), nI (p + 1))) else if nI (setN Q p r) = x then some (.inl (nI (setN Q p r), nI (p + 1))) else some (.inr false)) else some (.inl (x, nI (p + 1))) := fun p x hp => by
    unfold f_MM_isCalm_L11 f_MM_isCalm_J59 f_MM_isCalm_J93
    rw [h10, if_neg (nI_ge hp (by omega)), if_neg (by decide), if_pos rfl, M_has (by omega) (by omega), M_setOf hQ (by omega) hr h9, bnd_some, bnd_some, ← nI_succ]
    cases (snN R).testBit p
    · rfl
    · rfl
  refine loop_first (fun p => (alS (snN R) (fun p => setN Q p r) p, nI p)) (alX (snN R) (fun p => setN Q p r)) (R 0) (fun _ => false) true (fun p hp hb => ?_) (fun p hp hb => ?_) ?_
  · show f_MM_isCalm_L11 M 1 (nI r) (nI (snN R)) (alS (snN R) (fun p => setN Q p r) p) (nI p) = _
    have es : alS (snN R) (fun p => setN Q p r) (p + 1) = if (snN R).testBit p = true then nI (setN Q p r) else alS (snN R) (fun p => setN Q p r) p := rfl
    rw [st _ _ hp, es]
    cases e : (snN R).testBit p
    · rw [if_neg (by decide), if_neg (by decide)]
    · rw [if_pos rfl, if_pos rfl]
      by_cases a : alS (snN R) (fun p => setN Q p r) p = -1
      · rw [if_pos a]
      · rw [if_neg a, if_pos]
        refine Classical.byContradiction (fun z => ?_)
        unfold alX at hb
        rw [e, decide_eq_true a, decide_eq_true (show alS (snN R) (fun p => setN Q p r) p ≠ nI (setN Q p r) from fun y => z y.symm)] at hb
        cases hb
  · show f_MM_isCalm_L11 M 1 (nI r) (nI (snN R)) (alS (snN R) (fun p => setN Q p r) p) (nI p) = _
    unfold alX at hb
    simp only [Bool.and_eq_true, decide_eq_true_eq] at hb
    obtain ⟨⟨e, a⟩, b⟩ := hb
    rw [st _ _ hp, if_pos e, if_neg a, if_neg (fun y => b y.symm)]
  · show f_MM_isCalm_L11 M 1 (nI r) (nI (snN R)) _ (nI (R 0)) = _
    unfold f_MM_isCalm_L11
    rw [h10, if_pos ((nI_leI (by omega) (by omega)).mpr (Nat.le_refl _))]
theorem C_oneSet {k r sr rr : Nat} {R : Nat → Nat} {Q : Tab} {M : Mem} {s : Nat} (hn : R 0 ≤ 8) (h0 : M 0 0 = nI (R 0)) (hs : s < 256) (hC : RC k rr sr Q M) (hr : r ≤ sr) (hsr : sr ≤ 8) : f_Run_haveOneSet k M (nI s) (nI r) = some (alB s (fun p => setN Q p r) (R 0)) := by
  unfold f_Run_haveOneSet f_Run_haveOneSet_J5
  rw [bnd_id]
  unfold f_Run_haveOneSet_W5 alB
  refine loop_first (fun p => (alS s (fun p => setN Q p r) p, nI p)) (alX s (fun p => setN Q p r)) (R 0) (fun _ => false) true (fun p hp hb => ?_) (fun p hp hb => ?_) ?_
  · show f_Run_haveOneSet_L5 k M (nI s) (nI r) (alS s (fun p => setN Q p r) p) (nI p) = _
    have es : alS s (fun p => setN Q p r) (p + 1) = if s.testBit p = true then nI (setN Q p r) else alS s (fun p => setN Q p r) p := rfl
    unfold f_Run_haveOneSet_L5 f_Run_haveOneSet_J48
    rw [h0, if_neg (nI_ge hp (by omega)), es, C_setOf hC (by omega) hr hsr, bnd_some, ← nI_succ]
    cases e : s.testBit p
    · rw [if_pos ((bit_0 (by omega) (by omega)).mpr e), if_neg (by decide)]
    · rw [if_neg (fun z => by rw [bit_0 (by omega) (by omega), e] at z; cases z), if_pos rfl]
      by_cases a : alS s (fun p => setN Q p r) p = -1
      · rw [if_pos a]
      · rw [if_neg a, if_pos]
        refine Classical.byContradiction (fun z => ?_)
        unfold alX at hb
        rw [e, decide_eq_true a, decide_eq_true z] at hb
        cases hb
  · show f_Run_haveOneSet_L5 k M (nI s) (nI r) (alS s (fun p => setN Q p r) p) (nI p) = _
    unfold alX at hb
    simp only [Bool.and_eq_true, decide_eq_true_eq] at hb
    obtain ⟨⟨e, a⟩, b⟩ := hb
    unfold f_Run_haveOneSet_L5 f_Run_haveOneSet_J48
    rw [h0, if_neg (nI_ge hp (by omega)), if_neg (fun z => by rw [bit_0 (by omega) (by omega), e] at z; cases z), C_setOf hC (by omega) hr hsr, bnd_some, if_neg a, if_neg b]
  · show f_Run_haveOneSet_L5 k M (nI s) (nI r) _ (nI (R 0)) = _
    unfold f_Run_haveOneSet_L5
    rw [h0, if_pos ((nI_leI (by omega) (by omega)).mpr (Nat.le_refl _))]
theorem C_changes {k r sr rr : Nat} {R : Nat → Nat} {Q : Tab} {M : Mem} (hn : R 0 ≤ 8) (h0 : M 0 0 = nI (R 0)) (hC : RC k rr sr Q M) (hr1 : 1 ≤ r) (hr : r ≤ sr) (hsr : sr ≤ 8) : f_Run_someSetChanges k M (nI r) = some (anyB (fun p => decide (setN Q p r ≠ setN Q p (r - 1))) (R 0)) := by
  unfold f_Run_someSetChanges f_Run_someSetChanges_J2
  rw [bnd_id]
  unfold f_Run_someSetChanges_W2
  have st : ∀ p, p < R 0 → f_Run_someSetChanges_L2 k M (nI r) (nI p) = if decide (setN Q p r ≠ setN Q p (r - 1)) = true then some (.inr true) else some (.inl (nI (p + 1))) := fun p hp => by
    have a1 := setN_lt Q p r
    have a2 := setN_lt Q p (r - 1)
    unfold f_Run_someSetChanges_L2
    rw [h0, if_neg (nI_ge hp (by omega)), C_setOf hC (by omega) hr hsr, bnd_some, j1, pk_sub hr1, C_setOf hC (by omega) (by omega) hsr, bnd_some, nI_add]
    by_cases w : setN Q p r = setN Q p (r - 1)
    · rw [if_pos (by rw [w]), if_neg (by simp [w])]
    · rw [if_neg (fun z => w ((nI_eq (by omega) (by omega)).mp z)), if_pos (by simp [w])]
  refine (loop_first (fun p => nI p) (fun p => decide (setN Q p r ≠ setN Q p (r - 1))) (R 0) (fun _ => true) false (fun p hp hb => by rw [st p hp, if_neg (by rw [hb]; decide)]) (fun p hp hb => by rw [st p hp, if_pos hb]) ?_).trans (congrArg some ?_)
  · unfold f_Run_someSetChanges_L2
    rw [h0, if_pos ((nI_leI (by omega) (by omega)).mpr (Nat.le_refl _))]
  · rcases fstN_sp (fun p => decide (setN Q p r ≠ setN Q p (r - 1))) (R 0) with ⟨h1, h2⟩ | ⟨h1, h2, h3⟩
    · rw [h1, if_neg (by omega), anyB_f.mpr h2]
    · rw [if_pos h1, anyB_iff.mpr ⟨_, h1, h2⟩]
/-- from the last round back: r at the step i, one below it next -/
theorem back_at {n i : Nat} (hi : i ≤ n) : nI (n + 1 - i) - 1 = nI (n - i) := by
  rw [show n + 1 - i = n - i + 1 by omega, nI_succ]
  exact Int32.add_sub_cancel _ _
theorem M_calmL {M : Mem} {n : Nat} (hn : n ≤ 8) (x1 : Int32) (ok : Nat → Bool) (h : ∀ r, r ≤ n → f_MM_isCalm M x1 (nI r) = some (ok r)) : f_MM_calm_W35 M x1 (-2, nI n) = some ((if fstN (fun i => !ok (n - i)) (n + 1) = 0 then -2 else nI (n + 1 - fstN (fun i => !ok (n - i)) (n + 1))), M) := by
  unfold f_MM_calm_W35
  have e0 : ((-2 : Int32), nI n) = (fun i => ((if i = 0 then (-2 : Int32) else nI (n + 1 - i)), nI (n + 1 - i) - 1)) 0 := by
    show _ = ((-2 : Int32), nI (n + 1 - 0) - 1)
    rw [back_at (Nat.zero_le _)]
    rfl
  rw [e0]
  have st : ∀ i x, i < n + 1 → f_MM_calm_L35 M x1 x (nI (n + 1 - i) - 1) = if (!ok (n - i)) = true then some (.inr (x, M)) else some (.inl (nI (n + 1 - (i + 1)), nI (n + 1 - (i + 1)) - 1)) := fun i x hi => by
    unfold f_MM_calm_L35
    rw [back_at (by omega), if_neg (nI_pos (by omega)), h (n - i) (by omega), bnd_some, down_next, show n + 1 - (i + 1) = n - i by omega]
    cases ok (n - i) <;> rfl
  refine (loop_first (fun i => ((if i = 0 then (-2 : Int32) else nI (n + 1 - i)), nI (n + 1 - i) - 1)) (fun i => !ok (n - i)) (n + 1) (fun i => ((if i = 0 then (-2 : Int32) else nI (n + 1 - i)), M)) (nI 0, M) (fun i hi hb => ?_) (fun i hi hb => ?_) ?_).trans ?_
  · show f_MM_calm_L35 M x1 _ (nI (n + 1 - i) - 1) = _
    rw [st i _ hi, if_neg (by rw [hb]; decide), if_neg (show ¬ i + 1 = 0 by omega)]
  · show f_MM_calm_L35 M x1 _ (nI (n + 1 - i) - 1) = _
    rw [st i _ hi, if_pos hb]
  · show f_MM_calm_L35 M x1 _ (nI (n + 1 - (n + 1)) - 1) = _
    unfold f_MM_calm_L35
    rw [if_pos (neg_1 _), if_neg (show ¬ n + 1 = 0 by omega), Nat.sub_self]
  · congr 1
    rcases Nat.lt_or_ge (fstN (fun i => !ok (n - i)) (n + 1)) (n + 1) with w | w
    · rw [if_pos w]
    · have := fstN_le (fun i => !ok (n - i)) (n + 1)
      have e : fstN (fun i => !ok (n - i)) (n + 1) = n + 1 := by omega
      rw [e, if_neg (by omega), if_neg (by omega), Nat.sub_self]
theorem i1 {α : Type} (x : Int32) {a b : α} : (if x < 0 then a else if x ≤ 1 then b else a) = if inB x 2 = true then b else a := by
  unfold inB
  have e0 : (0 : Int32).toInt = 0 := rfl
  have e3 : (1 : Int32).toInt = 1 := rfl
  by_cases h1 : x < 0
  · rw [if_pos h1, if_neg]
    rw [Int32.lt_iff_toInt_lt] at h1
    rw [decide_eq_false (by omega), Bool.false_and]
    decide
  · rw [if_neg h1]
    rw [Int32.lt_iff_toInt_lt] at h1
    by_cases h2 : x ≤ 1
    · rw [if_pos h2, if_pos]
      rw [Int32.le_iff_toInt_le] at h2
      rw [decide_eq_true (by omega), decide_eq_true (by omega)]
      rfl
    · rw [if_neg h2, if_neg]
      rw [Int32.le_iff_toInt_le] at h2
      rw [decide_eq_false (show ¬ x.toInt < ((2 : Nat) : Int) by omega), Bool.and_false]
      decide
/-- going back: sets stay as they are in the end until one changes -/
theorem calm_shift {R : Nat → Nat} {Q : Tab} (hI : INV R (R 3) Q) (hn : R 0 ≤ 8) (hR3 : R 3 ≤ 8) : fstN (fun i => !(!anyB (fun p => !lie R p && decide (setN Q p (R 3 - i) ≠ setN Q p (R 3))) (R 0))) (R 3 + 1) = fstN (fun i => anyB (fun p => decide (setN Q p (R 3 - i) ≠ setN Q p (R 3 - i - 1))) (R 0)) (R 3) + 1 := by
  have same : ∀ i, i ≤ R 3 → (∀ j, j < i → anyB (fun p => decide (setN Q p (R 3 - j) ≠ setN Q p (R 3 - j - 1))) (R 0) = false) → ∀ p, p < R 0 → setN Q p (R 3 - i) = setN Q p (R 3) := by
    intro i
    induction i with
    | zero => intro _ _ p _; rfl
    | succ i ih =>
      intro h1 h2 p hp
      rw [← ih (by omega) (fun j hj => h2 j (by omega)) p hp]
      have := anyB_f.mp (h2 i (by omega)) p hp
      simp only [decide_eq_false_iff_not, ne_eq, Decidable.not_not] at this
      rw [this, show R 3 - (i + 1) = R 3 - i - 1 by omega]
  have bad : ∀ i, i ≤ R 3 → ((!(!anyB (fun p => !lie R p && decide (setN Q p (R 3 - i) ≠ setN Q p (R 3))) (R 0))) = true ↔ ∃ p, p < R 0 ∧ setN Q p (R 3 - i) ≠ setN Q p (R 3)) := fun i hi => by
    rw [Bool.not_not, anyB_iff]
    constructor
    · rintro ⟨p, hp, h⟩
      simp only [Bool.and_eq_true, decide_eq_true_eq] at h
      exact ⟨p, hp, h.2⟩
    · rintro ⟨p, hp, h⟩
      refine ⟨p, hp, ?_⟩
      cases e : lie R p with
      | true => exact absurd ((set_liar hI (by omega) (by omega) e).trans (set_liar hI (by omega) (by omega) e).symm) h
      | false => simp [h]
  have ok : ∀ i, i ≤ R 3 → (∀ p, p < R 0 → setN Q p (R 3 - i) = setN Q p (R 3)) → (!(!anyB (fun p => !lie R p && decide (setN Q p (R 3 - i) ≠ setN Q p (R 3))) (R 0))) = false := fun i hi h => by
    rw [← Bool.not_eq_true]
    intro z
    obtain ⟨p, hp, w⟩ := (bad i hi).mp z
    exact w (h p hp)
  rcases fstN_sp (fun i => anyB (fun p => decide (setN Q p (R 3 - i) ≠ setN Q p (R 3 - i - 1))) (R 0)) (R 3) with ⟨h1, h2⟩ | ⟨h1, h2, h3⟩
  · rw [h1]
    refine fstN_no (fun j hj => ok j (by omega) (same j (by omega) (fun l hl => h2 l (by omega))))
  · generalize hm : fstN (fun i => anyB (fun p => decide (setN Q p (R 3 - i) ≠ setN Q p (R 3 - i - 1))) (R 0)) (R 3) = m at *
    refine fstN_of (by omega) ?_ (fun j hj => ok j (by omega) (same j (by omega) (fun l hl => h3 l (by omega))))
    obtain ⟨p, hp, w⟩ := anyB_iff.mp h2
    simp only [decide_eq_true_eq] at w
    refine (bad (m + 1) (by omega)).mpr ⟨p, hp, ?_⟩
    rw [← same m (by omega) h3 p hp, show R 3 - (m + 1) = R 3 - m - 1 by omega]
    exact fun z => w z.symm
theorem q_calm {R : Nat → Nat} {Mc Mm : Mem} (h : RelP R Mc Mm) (x1 : Int32) : Ask (f_MC_calm Mc x1) (f_MM_calm Mm x1) Mm := by
  obtain ⟨N, n1, n2, n3, n4, n5⟩ := RelP.run h
  have h00 := R0_cases h
  obtain ⟨hV, hP, hM, hC, h28, hk⟩ := h
  have hn := pv_n hV
  have hi := NQ_inv hV
  have hR3 := hV.2.2.2.1
  have hs : snN R < 256 := orN_lt9 _ hn
  have h13 : N 1 3 = nI (R 3) := n5.1.1 3 (by decide)
  unfold f_MC_calm f_MM_calm
  rcases h00 with ⟨-, a, b⟩ | ⟨-, a, b⟩
  · rw [if_pos a, if_pos b]
    exact Ask.no rfl rfl
  · rw [if_neg a, if_neg b, i1, M_inB x1 2 1 (by decide), n1, bnd_some, h13]
    rcases inB_cases x1 2 with w | ⟨j, hj, -, rfl, w⟩
    · rw [w]
      exact Ask.no rfl rfl
    · rw [w, if_pos rfl, gT]
      unfold f_MM_calm_J35
      rw [bnd_id, bnd_id]
      rcases (show j = 0 ∨ j = 1 by omega) with rfl | rfl
      · rw [if_pos (show nI 0 = 0 from rfl), M_calmL (n := R 3) hR3 (nI 0) _ (fun r hr => M_calm0 hV n5.1 n2 hi (by omega)), calm_shift hi hn hR3]
        refine ⟨_, N, ?_, rfl, n3⟩
        rw [if_neg (by omega)]
        unfold f_Run_firstStill f_Run_firstStill_J5
        rw [bnd_id, hk]
        unfold f_Run_firstStill_W5
        have e0 : nI (R 3) = (fun i => nI (R 3 - i)) 0 := rfl
        have st : ∀ i, i < R 3 → f_Run_firstStill_L5 112 Mc (nI (R 3 - i)) = if anyB (fun p => decide (setN (NQ R) p (R 3 - i) ≠ setN (NQ R) p (R 3 - i - 1))) (R 0) = true then some (.inr (nI (R 3 - i))) else some (.inl (nI (R 3 - (i + 1)))) := fun i hi2 => by
          unfold f_Run_firstStill_L5
          rw [j1, if_neg (nI_nlt (by omega) (by omega)), C_changes hn hP.1 hC (by omega) (by omega) hR3, bnd_some, ← Int32.sub_eq_add_neg, pk_sub (by omega), show R 3 - i - 1 = R 3 - (i + 1) by omega]
          cases anyB (fun p => decide (setN (NQ R) p (R 3 - i) ≠ setN (NQ R) p (R 3 - (i + 1)))) (R 0) <;> rfl
        rw [e0]
        refine (loop_first (fun i => nI (R 3 - i)) (fun i => anyB (fun p => decide (setN (NQ R) p (R 3 - i) ≠ setN (NQ R) p (R 3 - i - 1))) (R 0)) (R 3) (fun i => nI (R 3 - i)) (nI 0) (fun i hi2 hb => by rw [st i hi2, if_neg (by rw [hb]; decide)]) (fun i hi2 hb => by rw [st i hi2, if_pos hb]) ?_).trans ?_
        · show f_Run_firstStill_L5 112 Mc (nI (R 3 - R 3)) = _
          rw [Nat.sub_self]
          rfl
        · congr 1
          rcases fstN_sp (fun i => anyB (fun p => decide (setN (NQ R) p (R 3 - i) ≠ setN (NQ R) p (R 3 - i - 1))) (R 0)) (R 3) with ⟨h1, -⟩ | ⟨h1, -⟩
          · rw [h1, if_neg (by omega), Nat.sub_self]
          · rw [if_pos h1]
            congr 1
            omega
      · rw [if_neg (show ¬ nI 1 = 0 by decide), M_calmL (n := R 3) hR3 (nI 1) _ (fun r hr => M_calm1 hV n5.1 n2 hi (by omega)), C_sound hV hP, bnd_some, bnd_id]
        refine ⟨_, N, ?_, rfl, n3⟩
        unfold f_Run_firstUnited f_Run_firstUnited_J5
        rw [hk]
        unfold f_Run_firstUnited_W5
        have st : ∀ i, i < R 3 + 1 → f_Run_firstUnited_L5 112 Mc (nI (snN R)) (nI (R 3 + 1 - i) - 1) = if (!alB (snN R) (fun p => setN (NQ R) p (R 3 - i)) (R 0)) = true then some (.inr (.inl (nI (R 3 - i)))) else some (.inl (nI (R 3 + 1 - (i + 1)) - 1)) := fun i hi2 => by
          unfold f_Run_firstUnited_L5
          rw [back_at (by omega), if_neg (nI_pos (by omega)), C_oneSet hn hP.1 hs hC (by omega) hR3, bnd_some, down_next, show R 3 + 1 - (i + 1) = R 3 - i by omega]
          cases alB (snN R) (fun p => setN (NQ R) p (R 3 - i)) (R 0) <;> rfl
        have e0 : nI (R 3) = (fun i => nI (R 3 + 1 - i) - 1) 0 := (back_at (Nat.zero_le _)).symm
        have lp : loop (fun t => f_Run_firstUnited_L5 112 Mc (nI (snN R)) t) (nI (R 3)) = some (if fstN (fun i => !alB (snN R) (fun p => setN (NQ R) p (R 3 - i)) (R 0)) (R 3 + 1) < R 3 + 1 then .inl (nI (R 3 - fstN (fun i => !alB (snN R) (fun p => setN (NQ R) p (R 3 - i)) (R 0)) (R 3 + 1))) else .inr 0) := by
          rw [e0]
          refine loop_first (fun i => nI (R 3 + 1 - i) - 1) (fun i => !alB (snN R) (fun p => setN (NQ R) p (R 3 - i)) (R 0)) (R 3 + 1) (fun i => (Sum.inl (nI (R 3 - i)) : Int32 ⊕ Int32)) (.inr 0) (fun i hi2 hb => ?_) (fun i hi2 hb => ?_) ?_
          · rw [st i hi2, if_neg (by rw [hb]; decide)]
          · rw [st i hi2, if_pos hb]
          · show f_Run_firstUnited_L5 112 Mc (nI (snN R)) (nI (R 3 + 1 - (R 3 + 1)) - 1) = _
            unfold f_Run_firstUnited_L5
            rw [if_pos (neg_1 _)]
        rw [lp, bnd_some]
        generalize hm : fstN (fun i => !alB (snN R) (fun p => setN (NQ R) p (R 3 - i)) (R 0)) (R 3 + 1) = m
        have hle : m ≤ R 3 + 1 := by rw [← hm]; exact fstN_le _ _
        by_cases w1 : m < R 3 + 1
        · rw [if_pos w1]
          show (if nI (R 3 - m) = nI (R 3) then some (-2 : Int32) else some (nI (R 3 - m) + 1)) = _
          by_cases w2 : m = 0
          · rw [if_pos w2, if_pos (by rw [w2]; rfl)]
          · rw [if_neg w2, if_neg (fun z => by have := (nI_eq (by omega) (by omega)).mp z; omega), ← nI_succ, show R 3 + 1 - m = R 3 - m + 1 by omega]
        · rw [if_neg w1, if_neg (by omega), show R 3 + 1 - m = 0 by omega]
          rfl
