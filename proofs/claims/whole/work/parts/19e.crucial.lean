/-! crucial -/
theorem cr_dl {R : Nat → Nat} {r f t : Nat} (ho : ¬ omI R r f t < R 8) {r' f' t' : Nat} (hr' : 1 ≤ r') : dlM R (x4 r f t 0) r' f' t' = if r' = r ∧ f' = f ∧ t' = t then 99 else dlM R none0 r' f' t' := by
  rw [dlM_eq, dlM_eq]
  have n0 : ¬ (none0 0 = r' ∧ none0 1 = f' ∧ none0 2 = t') := fun z => by
    have : 0 = r' := z.1
    omega
  by_cases q : r' = r ∧ f' = f ∧ t' = t
  · rw [if_pos q]
    obtain ⟨rfl, rfl, rfl⟩ := q
    rw [if_neg ho, if_pos ⟨rfl, rfl, rfl⟩]
    rfl
  · rw [if_neg q, if_neg (show ¬ (x4 r f t 0 0 = r' ∧ x4 r f t 0 1 = f' ∧ x4 r f t 0 2 = t') from fun z => q ⟨z.1.symm, z.2.1.symm, z.2.2.symm⟩), if_neg n0]
def crB (R : Nat → Nat) (r w : Nat) : Bool := decide (w / 8 < R 0 ∧ w % 8 < R 0 ∧ w / 8 ≠ w % 8 ∧ ¬ omI R r (w / 8) (w % 8) < R 8) && chgB R R (x4 r (w / 8) (w % 8) 0)
theorem crB_ft {R : Nat → Nat} {r f t : Nat} (ht : t < 8) : crB R r (8 * f + t) = (decide (f < R 0 ∧ t < R 0 ∧ f ≠ t ∧ ¬ omI R r f t < R 8) && chgB R R (x4 r f t 0)) := by
  unfold crB
  rw [show (8 * f + t) / 8 = f by omega, show (8 * f + t) % 8 = t by omega]
theorem C_anyComes {R : Nat → Nat} {Mc Mm : Mem} (h : RelP R Mc Mm) {r f t : Nat} (hr : r ≤ 8) (hf : f < 8) (ht : t < 8) : ∃ b, f_Run_anyComes 112 Mc (nI (64 * r + 8 * f + t)) = some b ∧ (b = true ↔ HasW r f t (NQ R)) := by
  have hV := h.1
  have hn := pv_n hV
  have hR3 := hV.2.2.2.1
  have hL := NQ_le hV
  have hI := NQ_inv hV
  obtain ⟨h1, -, h3, -⟩ := h.2.2.2.1
  generalize NQ R = Q at *
  unfold f_Run_anyComes f_Run_anyComes_J2
  rw [bnd_id]
  unfold f_Run_anyComes_W2
  have st : ∀ i, i < Q 0 0 → f_Run_anyComes_L2 112 Mc (nI (64 * r + 8 * f + t)) (nI i) = if (decide (64 * Q (5 + i) 0 + 8 * Q (5 + i) 1 + Q (5 + i) 2 = 64 * r + 8 * f + t) && decide (Q (5 + i) 5 ≠ 0)) = true then some (.inr true) else some (.inl (nI (i + 1))) := fun i hi => by
    obtain ⟨g1, -, -, g4, -⟩ := h3 i hi
    obtain ⟨⟨a1, a2, a3, a4, a5, a6, a7⟩, -, -, d, -⟩ := hI.1 i hi
    unfold f_Run_anyComes_L2
    rw [h1, if_neg (nI_ge hi (by omega)), gIn_nI (by omega) (by decide), nI_clamp (by omega), show Mc (112 + 2) i = _ from g1, show Mc (112 + 5) i = _ from g4, ← nI_succ]
    by_cases w : 64 * Q (5 + i) 0 + 8 * Q (5 + i) 1 + Q (5 + i) 2 = 64 * r + 8 * f + t
    · rw [if_pos (by rw [w]), decide_eq_true w, Bool.true_and]
      by_cases z : Q (5 + i) 5 = 0
      · rw [if_pos ((cmI_neg (by omega)).mpr z), if_neg (by simp [z])]
      · rw [if_neg (fun y => z ((cmI_neg (by omega)).mp y)), if_pos (by simp [z])]
    · rw [if_neg (fun y => w ((nI_eq (by omega) (by omega)).mp y)), decide_eq_false w, Bool.false_and, if_neg (by decide)]
  have ev : ∀ i, i < Q 0 0 → ((decide (64 * Q (5 + i) 0 + 8 * Q (5 + i) 1 + Q (5 + i) 2 = 64 * r + 8 * f + t) && decide (Q (5 + i) 5 ≠ 0)) = true ↔ (Q (5 + i) 0 = r ∧ Q (5 + i) 1 = f ∧ Q (5 + i) 2 = t ∧ Q (5 + i) 5 ≠ 0)) := fun i hi => by
    obtain ⟨⟨a1, a2, a3, a4, a5, a6, a7⟩, -⟩ := hI.1 i hi
    simp only [Bool.and_eq_true, decide_eq_true_eq]
    omega
  refine ⟨_, (loop_first (fun i => nI i) (fun i => decide (64 * Q (5 + i) 0 + 8 * Q (5 + i) 1 + Q (5 + i) 2 = 64 * r + 8 * f + t) && decide (Q (5 + i) 5 ≠ 0)) (Q 0 0) (fun _ => true) false (fun i hi hb => by rw [st i hi, if_neg (by rw [hb]; decide)]) (fun i hi hb => by rw [st i hi, if_pos hb]) ?_), ?_⟩
  · unfold f_Run_anyComes_L2
    rw [h1, if_pos ((nI_leI (by omega) (by omega)).mpr (Nat.le_refl _))]
  · rcases fstN_sp (fun i => decide (64 * Q (5 + i) 0 + 8 * Q (5 + i) 1 + Q (5 + i) 2 = 64 * r + 8 * f + t) && decide (Q (5 + i) 5 ≠ 0)) (Q 0 0) with ⟨q1, q2⟩ | ⟨q1, q2, q3⟩
    · rw [q1, if_neg (by omega)]
      refine ⟨fun z => (by cases z), ?_⟩
      rintro ⟨i, hi, hw⟩
      have := (ev i hi).mpr hw
      rw [q2 i hi] at this
      cases this
    · rw [if_pos q1]
      exact ⟨fun _ => ⟨_, q1, (ev _ q1).mp q2⟩, fun _ => rfl⟩
theorem chg_same {R R' x : Nat → Nat} (h : sRun R (dlM R' x) (R 7) (plR R') (fun _ => true) (R 3) = NQ R) : chgB R R' x = false := by
  unfold chgB
  rw [h]
  refine anyB_f.mpr (fun p _ => ?_)
  unfold dfB
  simp
theorem C_isCrucial {R : Nat → Nat} {Mc Mm M : Mem} (hP0 : RelP R Mc Mm) (hM : CI Mc M) {r f t : Nat} (hr1 : 1 ≤ r) (hr : r ≤ R 3) (hf : f < 8) (ht : t < 8) : ∃ M', f_MC_isCrucial M (nI r) (nI f) (nI t) = some (crB R r (8 * f + t), M') ∧ CI Mc M' := by
  have hP1 := hM.P hP0
  have hV := hP0.1
  have hn := pv_n hV
  have hR3 := hV.2.2.2.1
  have hP := hP1.2.1
  rw [crB_ft ht]
  unfold f_MC_isCrucial f_MC_isCrucial_J62
  rw [C_route hV hP.1]
  have i18 : in18 (nI r) = true := by
    unfold in18
    rw [nI_toInt (by omega)]
    simp
    omega
  have iB : ∀ j, j < 8 → inB (nI j) (R 0) = decide (j < R 0) := fun j hj => by
    unfold inB
    rw [nI_toInt (by omega)]
    by_cases w : j < R 0
    · simp [w]
    · simp [w]
  have eft : decide (nI f ≠ nI t) = decide (f ≠ t) := by
    by_cases w : f = t
    · subst w; simp
    · rw [decide_eq_true w, decide_eq_true (show nI f ≠ nI t from fun z => w ((nI_eq (by omega) (by omega)).mp z))]
  rw [i18, iB f hf, iB t ht, eft, Bool.true_and]
  by_cases g : f < R 0 ∧ t < R 0 ∧ f ≠ t
  · rw [decide_eq_true g.1, decide_eq_true g.2.1, decide_eq_true g.2.2, Bool.true_and, Bool.true_and, gT, way_of, C_omitted hV hP (by omega) hf ht, bnd_some]
    by_cases wo : omI R r f t < R 8
    · rw [decide_eq_true wo, gT, decide_eq_false (show ¬ (f < R 0 ∧ t < R 0 ∧ f ≠ t ∧ ¬ omI R r f t < R 8) from fun z => z.2.2.2 wo), Bool.false_and]
      exact ⟨M, rfl, hM⟩
    · rw [decide_eq_false wo, gF, decide_eq_true (show f < R 0 ∧ t < R 0 ∧ f ≠ t ∧ ¬ omI R r f t < R 8 from ⟨g.1, g.2.1, g.2.2, wo⟩), Bool.true_and]
      obtain ⟨b, b1, b2⟩ := C_anyComes hP1 (r := r) (f := f) (t := t) (by omega) hf ht
      rw [b1, bnd_some]
      cases b with
      | false =>
        rw [gF]
        have nh : ¬ HasW r f t (NQ R) := fun z => by
          have := b2.mpr z
          cases this
        have e : chgB R R (x4 r f t 0) = false := by
          refine chg_same ?_
          have hd : ∀ r' f' t', ¬ (r' = r ∧ f' = f ∧ t' = t) → cmN R (dlM R (x4 r f t 0)) r' f' t' = cmN R (dlM R none0) r' f' t' := fun r' f' t' q => by
            unfold cmN
            by_cases z : 1 ≤ r'
            · rw [cr_dl wo z, if_neg q]
            · rw [dlM_eq, dlM_eq, if_neg (show ¬ (x4 r f t 0 0 = r' ∧ x4 r f t 0 1 = f' ∧ x4 r f t 0 2 = t') from fun z => q ⟨z.1.symm, z.2.1.symm, z.2.2.symm⟩)]
              have r0 : r' = 0 := by omega
              subst r0
              have no : ¬ omI R 0 f' t' < R 8 := fun y => by
                obtain ⟨l, hl, hw⟩ := om_iff.mp y
                have := (hV.2.2.2.2.2.2.2.2.2.2.2.2.1 l hl).1
                have := (isW_iff.mp hw).1
                omega
              have nl : ltN R 0 f' t' = 0 := ltN_no (fun l hl => by
                cases e : isW R (254 + 4 * l) 0 f' t'
                · rfl
                · have := (hV.2.2.2.2.2.2.2.2.2.2.2.2.2.1 l hl).1.1
                  have := (isW_iff.mp e).1
                  omega)
              rw [if_neg no, if_neg no, nl]
              rw [if_pos (show 0 + 0 ≤ R 3 by omega)]
              by_cases y : none0 0 = 0 ∧ none0 1 = f' ∧ none0 2 = t'
              · rw [if_pos y, if_pos (show none0 3 = 0 from rfl), if_neg (by omega)]
              · rw [if_neg y, if_pos (by omega)]
          have hz : cmN R (dlM R (x4 r f t 0)) r f t = 0 := by
            unfold cmN
            rw [cr_dl wo hr1, if_pos (show r = r ∧ f = f ∧ t = t from ⟨rfl, rfl, rfl⟩), if_neg (by omega)]
          rcases OKp.run hd hz (R 7) (plR R) (fun _ => true) (R 3) with w | w
          · exact absurd w nh
          · exact w
        rw [e]
        exact ⟨M, rfl, hM⟩
      | true =>
        rw [gT]
        obtain ⟨M', m1, m2⟩ := C_chg hP1 (w := 64 * r + 8 * f + t) (y := 99) (by omega) (dlM R (x4 r f t 0)) (fun r' f' t' h1 h2 h3 h4 => by
          rw [cr_dl wo h1]
          by_cases q : r' = r ∧ f' = f ∧ t' = t
          · rw [if_pos q, if_pos (by rw [q.1, q.2.1, q.2.2])]
          · rw [if_neg q, if_neg (by omega)]) (fun r' f' t' => dlM_le hV (show 0 < 100 by decide) r' f' t') (plR R) (fun _ _ _ _ => rfl)
        have m1 : f_MC_changesDecisions M (nI (64 * r + 8 * f + t)) 99 = some (chgB R R (x4 r f t 0), M') := m1
        rw [m1, bnd2_some]
        cases chgB R R (x4 r f t 0)
        · exact ⟨M', rfl, fun a ha => (m2 a ha).trans (hM a ha)⟩
        · exact ⟨M', rfl, fun a ha => (m2 a ha).trans (hM a ha)⟩
  · rw [decide_eq_false (show ¬ (f < R 0 ∧ t < R 0 ∧ f ≠ t ∧ ¬ omI R r f t < R 8) from fun z => g ⟨z.1, z.2.1, z.2.2.1⟩), Bool.false_and]
    have : (decide (f < R 0) && decide (t < R 0) && decide (f ≠ t)) = false := by
      rw [Bool.eq_false_iff]
      intro z
      simp only [Bool.and_eq_true, decide_eq_true_eq] at z
      exact g ⟨z.1.1, z.1.2, z.2⟩
    rw [this]
    exact ⟨M, rfl, hM⟩
