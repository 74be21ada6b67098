/-! the class: do decisions change when what goes one way is late by y? -/
theorem plOK.cg {R : Nat → Nat} {p q : Nat → Nat} (h : plOK R p) (e : ∀ i, i < 13 → q i = p i) : plOK R q := by
  obtain ⟨p0, p0', p1, p2, p3, p4, p4', pm, pd⟩ := h
  have e4 := e 4 (by decide)
  refine ⟨by rw [e 0 (by decide)]; exact p0, by rw [e 0 (by decide)]; exact p0', by rw [e 1 (by decide)]; exact p1, by rw [e 2 (by decide)]; exact p2, by rw [e 3 (by decide)]; exact p3, by rw [e4]; exact p4, by rw [e4]; exact p4', fun i hi => ?_, fun i j hij hj => ?_⟩
  · rw [e4] at hi
    rw [e (5 + i) (by omega)]
    exact pm i hi
  · rw [e4] at hj
    rw [e (5 + i) (by omega), e (5 + j) (by omega)]
    exact pd i j hij hj
theorem CP.cg {k np : Nat} {PL PL' : Nat → Nat → Nat} {al : Nat → Bool} {M : Mem} (h : CP k np PL al M) (e : ∀ l, l < np → ∀ i, i < 13 → PL' l i = PL l i) : CP k np PL' al M := by
  obtain ⟨h1, h2, h3, h4⟩ := h
  refine ⟨h1, h2, fun l hl => ?_, h4⟩
  obtain ⟨a, b, c⟩ := h3 l hl
  rw [e l hl 0 (by decide), e l hl 1 (by decide), e l hl 2 (by decide), e l hl 3 (by decide), e l hl 4 (by decide)]
  refine ⟨a, b, c.congr (fun i hi => ?_)⟩
  have := c.le
  exact e l hl (5 + i) (by omega)
theorem C_chg {R : Nat → Nat} {Mc Mm : Mem} (h : RelP R Mc Mm) {w y : Nat} (hw : w < 576) (dl : Nat → Nat → Nat → Nat) (hdl : ∀ r f t, 1 ≤ r → r ≤ 8 → f < 8 → t < 8 → dl r f t = if 64 * r + 8 * f + t = w then y else dlM R none0 r f t) (hdm : ∀ r f t, dl r f t ≤ 99) (PL : Nat → Nat → Nat) (hPL : ∀ l, l < R 7 → ∀ i, i < 13 → PL l i = plR R l i) : ∃ Mc', f_MC_changesDecisions Mc (nI w) (nI y) = some (anyB (dfB R (dcN R (NQ R)) (dcN R (sRun R dl (R 7) PL (fun _ => true) (R 3)))) (R 0), Mc') ∧ ∀ a, ¬ (124 ≤ a ∧ a ≤ 135) → Mc' a = Mc a := by
  have h0 := h
  obtain ⟨hV, hP, hM, hC, h28, hk⟩ := h
  have hn := pv_n hV
  have hR3 := hV.2.2.2.1
  have h7 := hV.2.2.2.2.2.2.2.2.1
  have hd4 := hV.2.2.2.2.1
  have hok : ∀ l, l < R 7 → plOK R (PL l) := fun l hl => (plR_ok hV l hl).cg (hPL l hl)
  obtain ⟨A, a1, a2, a3, a4, a5, a6⟩ := C_prepare (k := 124) (g := 0) (by decide) hV hP (by decide)
  have rA : ∀ a, ¬ (124 ≤ a ∧ a ≤ 135) → upM A 125 w (nI y) a = Mc a := fun a ha => by rw [upM_row (by omega), a2 a (by omega) (by omega)]
  have hPA : PC R (upM A 125 w (nI y)) 0 := hP.cg (fun a _ q => rA a (by omega))
  obtain ⟨B, b1, b2, b3⟩ := C_play (k := 124) (np := R 7) (dl := dl) (PL := PL) (al := fun _ => true) (M := upM A 125 w (nI y)) (by decide) hV hPA.CS ⟨by rw [upM_row (by decide)]; exact a4, fun r f t h1 h2 h3 h4 => by
    show upM A 125 w (nI y) 125 (64 * r + 8 * f + t) = _
    rw [hdl r f t h1 h2 h3 h4, upM_get]
    by_cases e : 64 * r + 8 * f + t = w
    · rw [if_pos ⟨rfl, e⟩, if_pos e]
    · rw [if_neg (fun z => e z.2), if_neg e]
      have := a6 (64 * r + 8 * f + t) (by omega)
      rw [this, omitV_0 (x := none0) hV rfl h1 h3 h4], hdm, hR3⟩ ((hPA.CP hV (fun l hl => by
    rw [upM_row (by decide), a5]
    have := al_all l (by omega)
    exact ⟨fun z => absurd z this, fun z => (by cases z)⟩)).cg hPL) hok
  have hI := (run_sp (dl := dl) (al := fun _ => true) hV h7 hok (R 3) hR3).1
  have rB : ∀ a, ¬ (124 ≤ a ∧ a ≤ 135) → B a = Mc a := fun a ha => (b3.1 a (by omega)).trans (rA a ha)
  have hk2 : B 124 1 = nI (R 3) := b3.2.2.1.trans (by rw [upM_row (by decide)]; exact a4)
  have hPB : PC R B 0 := hP.cg (fun a _ q => rB a (by omega))
  have hCB : RC 112 (R 3 + 1) (R 3) (NQ R) B := hC.cg (fun a q1 q2 => rB a (by omega))
  have hkB : B 112 1 = nI (R 3) := by rw [rB 112 (by omega)]; exact hk
  generalize sRun R dl (R 7) PL (fun _ => true) (R 3) = Q at *
  have hdc : ∀ Q p, dcN R Q p < 4 := fun Q p => by
    unfold dcN
    split
    · omega
    · split
      · omega
      · split
        · omega
        · split <;> omega
  have d1 : ∀ p, p < R 0 → f_Run_decisionOf 124 B (nI p) = some (nI (dcN R Q p)) := fun p hp => C_decisionOf (R := R) (hPB.2.2.2.2.2.1 3 (by decide)) b2 hk2 (by omega) hR3 (fun c hc => (hI.2.1 c hc).2.2.2.1)
  have d2 : ∀ p, p < R 0 → f_Run_decisionOf 112 B (nI p) = some (nI (dcN R (NQ R) p)) := fun p hp => C_decisionOf (R := R) (hPB.2.2.2.2.2.1 3 (by decide)) hCB hkB (by omega) hR3 (fun c hc => ((NQ_inv hV).2.1 c hc).2.2.2.1)
  refine ⟨B, ?_, rB⟩
  unfold f_MC_changesDecisions
  rw [show (0 : Int32) = nI 0 from rfl, a1, bnd_some, gIn_nI hw (by decide), nI_clamp (by omega), lt1_eq, b1, bnd_some]
  unfold f_MC_changesDecisions_J27
  rw [bnd_id]
  unfold f_MC_changesDecisions_W27
  have st : ∀ p, p < R 0 → f_MC_changesDecisions_L27 B (nI p) = if dfB R (dcN R (NQ R)) (dcN R Q) p = true then some (.inr (true, B)) else some (.inl (nI (p + 1))) := fun p hp => by
    have e1 := hdc Q p
    have e2 := hdc (NQ R) p
    unfold f_MC_changesDecisions_L27 dfB
    rw [hPB.1, if_neg (nI_ge hp (by omega)), C_isHonest hV hPB.1 hPB.2.1 (by omega), d1 p hp, bnd_some, d2 p hp, bnd_some, decide_eq_true hp, Bool.true_and, ← nI_succ]
    cases lie R p
    · rw [Bool.not_false, gT]
      by_cases z : dcN R Q p = dcN R (NQ R) p
      · rw [if_pos (by rw [z]), if_neg (by simp [z])]
      · rw [if_neg (fun q => z ((nI_eq (by omega) (by omega)).mp q)), if_pos (by simp [z])]
    · rfl
  refine (loop_first (fun p => nI p) (dfB R (dcN R (NQ R)) (dcN R Q)) (R 0) (fun _ => (true, B)) (false, B) (fun p hp hb => by rw [st p hp, if_neg (by rw [hb]; decide)]) (fun p hp hb => by rw [st p hp, if_pos hb]) ?_).trans (congrArg some ?_)
  · unfold f_MC_changesDecisions_L27
    rw [hPB.1, if_pos ((nI_leI (by omega) (by omega)).mpr (Nat.le_refl _))]
  · rcases fstN_sp (dfB R (dcN R (NQ R)) (dcN R Q)) (R 0) with ⟨h1, h2⟩ | ⟨h1, h2, h3⟩
    · rw [h1, if_neg (by omega), anyB_f.mpr h2]
    · rw [if_pos h1, anyB_iff.mpr ⟨_, h1, h2⟩]
