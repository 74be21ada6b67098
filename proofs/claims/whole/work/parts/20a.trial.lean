/-! trials, and whether all of a set decide alike in them -/
theorem C_trial {R R' : Nat → Nat} {M A : Mem} {dl : Nat → Nat → Nat → Nat} {al : Nat → Bool} {PL : Nat → Nat → Nat} (hV : PV R) (hV' : PV R') (hP : PC R M 0) (hA : CI M A) (h7 : ∀ j, j < 8 → j ≠ 3 → R' j = R j) (hS : SC 124 R' dl A) (hal : ∀ l, l < R 7 → (((A 124 2 >>> (nI l &&& 31)) &&& (1 : Int32)) = 0 ↔ al l = false)) (hPL : ∀ l, l < R 7 → ∀ i, i < 13 → PL l i = plR R l i) : ∃ B, f_Run_play 124 A = some B ∧ CI M B ∧ ∀ s, s < 256 → f_Run_haveOneDecision 124 B (nI s) = some (alB s (dcN R' (sRun R' dl (R 7) PL al (R' 3))) (R 0)) := by
  have hn := pv_n hV
  have v7 := hV.2.2.2.2.2.2.2.2.1
  have hR3 := hV'.2.2.2.1
  have hPA : PC R A 0 := hP.cg (fun a _ q => hA a (by omega))
  have hcs : CS R' A := by
    obtain ⟨c1, c2, c3, c4, c5, c6⟩ := hPA.CS
    exact ⟨by rw [h7 0 (by decide) (by decide)]; exact c1, by rw [h7 6 (by decide) (by decide)]; exact c2, by rw [h7 1 (by decide) (by decide)]; exact c3, by rw [h7 2 (by decide) (by decide)]; exact c4, by rw [h7 4 (by decide) (by decide)]; exact c5, by rw [h7 5 (by decide) (by decide)]; exact c6⟩
  have hok : ∀ l, l < R 7 → plOK R' (PL l) := fun l hl => by
    have := (plR_ok hV l hl).cg (hPL l hl)
    unfold plOK at this ⊢
    rw [h7 0 (by decide) (by decide)]
    exact this
  obtain ⟨B, b1, b2, b3⟩ := C_play (k := 124) (np := R 7) (dl := dl) (PL := PL) (al := al) (M := A) (by decide) hV' hcs hS ((hPA.CP hV hal).cg hPL) hok
  have hI := (run_sp (dl := dl) (al := al) hV' v7 hok (R' 3) hR3).1
  have rB : CI M B := fun a ha => (b3.1 a (by omega)).trans (hA a ha)
  have hPB : PC R B 0 := hP.cg (fun a _ q => rB a (by omega))
  have hk2 : B 124 1 = nI (R' 3) := b3.2.2.1.trans hS.1
  refine ⟨B, b1, rB, fun s hs => ?_⟩
  exact C_one hn hPB.1 hs (fun p hp _ => C_decisionOf (R := R') (by rw [h7 4 (by decide) (by decide)]; exact hPB.2.2.2.2.2.1 3 (by decide)) b2 hk2 (by omega) hR3 (fun c hc => (hI.2.1 c hc).2.2.2.1))
theorem M_trial {R' x : Nat → Nat} {A : Mem} (hV' : PV R') (hS : SM R' x A) : ∃ N, f_MM_runs A = some N ∧ FrN A N ∧ ∀ s, s < 256 → f_MM_decideAlike N (nI s) = some (alB s (dcN R' (sRun R' (dlM R' x) (R' 7) (plR R') (fun _ => true) (R' 3))) (R' 0)) := by
  have hn := pv_n hV'
  have hR3 := hV'.2.2.2.1
  obtain ⟨N, n1, n2, n3, n4⟩ := M_runs hV' hS
  have n5 := hS.frN n3
  have hI := (run_sp (dl := dlM R' x) (al := fun _ => true) hV' hV'.2.2.2.2.2.2.2.2.1 (plR_ok hV') (R' 3) hR3).1
  refine ⟨N, n1, n3, fun s hs => ?_⟩
  exact M_one hn (n5.1.1 0 (by decide)) hs (fun p hp _ => M_decisionOf hV' n5.1 n2 (by omega) (hI.n9 (by omega)))
def lv (i : Nat) : Int32 := if i = 0 then -2 else nI (9 - i)
def lsB (R : Nat → Nat) (i : Nat) : Bool := !alB (snN R) (dcN (setR R 3 (8 - i)) (sRun (setR R 3 (8 - i)) (dlM R none0) (R 7) (plR R) (fun _ => true) (8 - i))) (R 0)
theorem s3_PV {R : Nat → Nat} (hV : PV R) {q : Nat} (h1 : 1 ≤ q) (h8 : q ≤ 8) : PV (setR R 3 q) := by
  have hV0 := hV
  obtain ⟨v0, v2, v3, v3', v4, v5, v5', v6, -⟩ := hV0
  exact hV.hd (fun j hj => setR_ne (by omega)) v0 v2 h1 h8 v4 v5 v5' v6
theorem s3_dl (R : Nat → Nat) (q : Nat) : dlM (setR R 3 q) none0 = dlM R none0 := by
  have e : ∀ j, j ≠ 3 → setR R 3 q j = R j := fun j hj => setR_ne hj
  have w8 : ∀ l r f t, isW (setR R 3 q) (218 + 3 * l) r f t = isW R (218 + 3 * l) r f t := fun l r f t => by
    unfold isW
    rw [e _ (by omega), e _ (by omega), e _ (by omega)]
  have w9 : ∀ l r f t, isW (setR R 3 q) (254 + 4 * l) r f t = isW R (254 + 4 * l) r f t := fun l r f t => by
    unfold isW
    rw [e _ (by omega), e _ (by omega), e _ (by omega)]
  funext r f t
  unfold dlM omI ltI
  simp only [w8, w9, e 8 (by decide), e 9 (by decide)]
  rw [e _ (by omega)]
theorem s3_pl (R : Nat → Nat) (q : Nat) : plR (setR R 3 q) = plR R := by
  funext l i
  exact setR_ne (by omega)
theorem s3_sn (R : Nat → Nat) (q : Nat) : snN (setR R 3 q) = snN R := by
  have e : ∀ j, j ≠ 3 → setR R 3 q j = R j := fun j hj => setR_ne hj
  have eb : snB (setR R 3 q) = snB R := by
    funext p
    unfold snB tcB enB lie
    rw [e 6 (by decide), e 8 (by decide), e 9 (by decide)]
    have w8 : ∀ l, (decide (setR R 3 q (218 + 3 * l + 1) = p) || decide (setR R 3 q (218 + 3 * l + 2) = p)) = (decide (R (218 + 3 * l + 1) = p) || decide (R (218 + 3 * l + 2) = p)) := fun l => by rw [e _ (by omega), e _ (by omega)]
    have w9 : ∀ l, (decide (setR R 3 q (254 + 4 * l + 1) = p) || decide (setR R 3 q (254 + 4 * l + 2) = p)) = (decide (R (254 + 4 * l + 1) = p) || decide (R (254 + 4 * l + 2) = p)) := fun l => by rw [e _ (by omega), e _ (by omega)]
    simp only [w8, w9]
  unfold snN
  rw [eb, e 0 (by decide)]
theorem C_least' {R : Nat → Nat} {Mc Mm : Mem} (hP0 : RelP R Mc Mm) : ∃ Mc', f_MC_least_J23 Mc (nI (snN R)) 8 = some (lv (fstN (lsB R) 8), Mc') ∧ CI Mc Mc' := by
  have hV := hP0.1
  have hn := pv_n hV
  obtain ⟨k, hk⟩ : ∃ k, k = fstN (lsB R) 8 := ⟨_, rfl⟩
  have ksp := fstN_sp (lsB R) 8
  rw [← hk] at ksp ⊢
  have step : ∀ i M, i < 8 → CI Mc M → ∃ M', f_MC_least_L23 (nI (snN R)) (nI (8 - i)) M = (if lsB R i = true then some (.inr (.inl (nI (8 - i), M'))) else some (.inl (nI (8 - (i + 1)), M'))) ∧ CI Mc M' := by
    intro i M hi hM
    have hPM := (hM.P hP0).2.1
    obtain ⟨A, a1, a2, a3, a4, a5, a6⟩ := C_prepare (k := 124) (g := 0) (by decide) hV hPM (by decide)
    have cA : CI M (upM A 124 1 (nI (8 - i))) := fun a ha => by rw [upM_row (by omega), a2 a (by omega) (by omega)]
    obtain ⟨B, b1, b2, b3⟩ := C_trial (R' := setR R 3 (8 - i)) (dl := dlM R none0) (al := fun _ => true) (PL := plR R) hV (s3_PV hV (by omega) (by omega)) hPM cA (fun j _ h3 => setR_ne h3) ⟨upM_eq, fun r f t h1 h2 h3 h4 => by
      show upM A 124 1 (nI (8 - i)) 125 (64 * r + 8 * f + t) = _
      rw [upM_row (by decide), a6 (64 * r + 8 * f + t) (by omega), omitV_0 (x := none0) hV rfl h1 h3 h4], fun r f t => dlM_le hV (by decide) r f t, by show 8 - i ≤ 8; omega⟩ (fun l hl => by
      rw [upM_ne (by omega), a5]
      have := al_all l (by have := hV.2.2.2.2.2.2.2.2.1; omega)
      exact ⟨fun z => absurd z this, fun z => (by cases z)⟩) (fun _ _ _ _ => rfl)
    refine ⟨B, ?_, fun a ha => (b2 a ha).trans (hM a ha)⟩
    unfold f_MC_least_L23
    have b3 := b3 (snN R) (orN_lt9 _ hn)
    rw [show setR R 3 (8 - i) 3 = 8 - i from setR_eq _ _ _] at b3
    rw [if_neg (show ¬ nI (8 - i) < 1 from nI_nlt (b := 1) (by omega) (by omega)), show (0 : Int32) = nI 0 from rfl, a1, bnd_some, lt1_eq, b1, bnd_some, b3, bnd_some, down_next, down_step hi]
    unfold lsB
    cases alB (snN R) (dcN (setR R 3 (8 - i)) (sRun (setR R 3 (8 - i)) (dlM R none0) (R 7) (plR R) (fun _ => true) (8 - i))) (R 0) <;> rfl
  unfold f_MC_least_J23
  suffices hh : ∃ e, loop (fun t' => f_MC_least_L23 (nI (snN R)) t'.1 t'.2) ((fun (i : Nat) (s : Mem) => (nI (8 - i), s)) 0 Mc) = some e ∧ ((k < 8 ∧ ∃ M', e = .inl (nI (8 - k), M') ∧ CI Mc M') ∨ (k = 8 ∧ ∃ M', e = .inr ((1 : Int32), M') ∧ CI Mc M')) by
    obtain ⟨e, e1, e2⟩ := hh
    have e1 : f_MC_least_W23 (nI (snN R)) (8, Mc) = some e := e1
    rw [e1, bnd_some]
    rcases e2 with ⟨h8, M', rfl, hM'⟩ | ⟨h8, M', rfl, hM'⟩
    · refine ⟨M', ?_, hM'⟩
      show (if nI (8 - k) = 8 then some ((-2 : Int32), M') else some (nI (8 - k) + 1, M')) = _
      unfold lv
      by_cases k0 : k = 0
      · rw [if_pos k0, k0, if_pos (by decide)]
      · rw [if_neg k0, if_neg (show ¬ nI (8 - k) = (8 : Int32) from fun z => by have := (nI_eq (b := 8) (by omega) (by omega)).mp z; omega), ← nI_succ, show 8 - k + 1 = 9 - k by omega]
    · refine ⟨M', ?_, hM'⟩
      rw [h8]
      rfl
  refine loop_enc (fun i s => (nI (8 - i), s)) 8 (fun i M => i ≤ k ∧ CI Mc M) _ ?_ ?_ 0 Mc (Nat.zero_le _) ⟨Nat.zero_le _, fun _ _ => rfl⟩
  · rintro i M hi ⟨g1, g2⟩
    obtain ⟨M', m1, m2⟩ := step i M hi g2
    show (∃ s', f_MC_least_L23 (nI (snN R)) (nI (8 - i)) M = some (.inl (nI (8 - (i + 1)), s')) ∧ _) ∨ ∃ r', f_MC_least_L23 (nI (snN R)) (nI (8 - i)) M = some (.inr r') ∧ _
    rw [m1]
    rcases ksp with ⟨h1, h2⟩ | ⟨h1, h2, h3⟩
    · left
      rw [h2 i hi]
      exact ⟨M', rfl, by omega, m2⟩
    · by_cases w : i = k
      · right
        rw [w, h2]
        exact ⟨_, rfl, Or.inl ⟨h1, M', rfl, m2⟩⟩
      · left
        rw [h3 i (by omega)]
        exact ⟨M', rfl, by omega, m2⟩
  · rintro M ⟨g1, g2⟩
    have k8 : k = 8 := by
      rcases ksp with ⟨h1, -⟩ | ⟨h1, -⟩ <;> omega
    refine ⟨.inr (1, M), ?_, Or.inr ⟨k8, M, rfl, g2⟩⟩
    show f_MC_least_L23 (nI (snN R)) (nI (8 - 8)) M = _
    unfold f_MC_least_L23
    rw [if_pos (by decide)]
theorem M_least {R : Nat → Nat} {Mc Mm : Mem} (hP0 : RelP R Mc Mm) (hn0 : R 0 ≠ 0) : ∃ Mm', f_MM_least Mm = some (lv (fstN (lsB R) 8), Mm') ∧ FrW Mm Mm' ∧ PM R (Mm' 1) ∧ Mm' 0 28 = -1 := by
  obtain ⟨hV, hP, hM, hC, h28, hkk⟩ := hP0
  have hn := pv_n hV
  have h10 : Mm 1 0 = nI (R 0) := hM.1 0 (by decide)
  obtain ⟨k, hk⟩ : ∃ k, k = fstN (lsB R) 8 := ⟨_, rfl⟩
  have ksp := fstN_sp (lsB R) 8
  rw [← hk] at ksp ⊢
  obtain ⟨A, a1, a2, a3, a4⟩ := M_moves (M := Mm) (a0 := 1) (n0 := 302) (a2 := 3) (n2 := 302) (p := 0) (q := 0) (by decide) (by decide) (by decide) (by decide) (by decide)
  have a3 : ∀ b, b < 302 → A 3 b = Mm 1 b := fun b hb => by
    have := a3 b hb
    rw [Nat.zero_add] at this
    exact this
  have step : ∀ i M (z : Int32), i < 8 → ((∀ j, j ≠ 3 → M 1 j = Mm 1 j) ∧ M 0 28 = -1 ∧ (∀ b, b < 302 → M 3 b = Mm 1 b) ∧ FrW Mm M) → ∃ M', f_MM_least_L32 z 1 (nI (8 - i)) M = some (.inl (if lsB R i = true then z else nI (8 - i), bI (!lsB R i), nI (8 - (i + 1)), M')) ∧ ((∀ j, j ≠ 3 → M' 1 j = Mm 1 j) ∧ M' 0 28 = -1 ∧ (∀ b, b < 302 → M' 3 b = Mm 1 b) ∧ FrW Mm M') := by
    rintro i M z hi ⟨g1, g2, g3, g4⟩
    have hV' := s3_PV hV (q := 8 - i) (by omega) (by omega)
    have hM' : PM (setR R 3 (8 - i)) (upM M 1 3 (nI (8 - i)) 1) := by
      refine hM.hd (fun j hj => setR_ne (by omega)) (fun j h1 h2 => ?_) (fun j hj => ?_)
      · by_cases e : j = 3
        · subst e; rw [upM_eq, setR_eq]
        · rw [upM_ne (fun _ => e), setR_ne e, g1 j e]; exact hM.1 j (by omega)
      · rw [upM_ne (by omega), g1 j (by omega)]
    obtain ⟨N, n1, n2, n3⟩ := M_trial (x := none0) hV' (A := upM M 1 3 (nI (8 - i))) ⟨hM', by rw [upM_row (by decide)]; exact g2, fun w => absurd rfl w, by decide, by decide, by decide, by decide⟩
    have hN1 : N 1 = upM M 1 3 (nI (8 - i)) 1 := n2.1 1 (by decide) (by decide)
    refine ⟨N, ?_, fun j hj => ?_, ?_, fun b hb => ?_, ?_⟩
    · unfold f_MM_least_L32
      have n3 := n3 (snN R) (orN_lt9 _ hn)
      rw [s3_dl, s3_pl, show setR R 3 (8 - i) 3 = 8 - i from setR_eq _ _ _, show setR R 3 (8 - i) 7 = R 7 from setR_ne (by decide), show setR R 3 (8 - i) 0 = R 0 from setR_ne (by decide)] at n3
      rw [if_neg (show ¬ nI (8 - i) ≤ (0 : Int32) from nI_ge (a := 0) (by omega) (by omega)), if_neg (show ¬ (1 : Int32) = 0 by decide), lt1_eq, n1, bnd_some, M_sound hV' (by rw [hN1]; exact hM'), s3_sn, bnd_some, n3, bnd_some, down_next, down_step hi]
      unfold lsB
      cases alB (snN R) (dcN (setR R 3 (8 - i)) (sRun (setR R 3 (8 - i)) (dlM R none0) (R 7) (plR R) (fun _ => true) (8 - i))) (R 0) <;> rfl
    · rw [hN1, upM_ne (fun _ => hj)]; exact g1 j hj
    · rw [n2.2 28 (by decide) (by decide) (by decide), upM_row (by decide)]; exact g2
    · rw [n2.1 3 (by decide) (by decide), upM_row (by decide)]; exact g3 b hb
    · refine g4.tr (FrW.tr ?_ n2.W)
      exact ⟨fun a ha => upM_row (by omega), fun b _ _ _ _ => by rw [upM_row (by decide)]⟩
  have i0 : (∀ j, j ≠ 3 → A 1 j = Mm 1 j) ∧ A 0 28 = -1 ∧ (∀ b, b < 302 → A 3 b = Mm 1 b) ∧ FrW Mm A := ⟨fun j _ => by rw [a2 1 (by decide)], by rw [a2 0 (by decide)]; exact h28, a3, ⟨fun a ha => a2 a (by omega), fun b _ _ _ _ => by rw [a2 0 (by decide)]⟩⟩
  unfold f_MM_least
  rw [h10, if_neg (show ¬ nI (R 0) = (0 : Int32) from fun z => hn0 ((nI_eq (b := 0) (by omega) (by omega)).mp z)), show (0 : Int32) = nI 0 from rfl, a1, bnd_some]
  unfold f_MM_least_J32
  suffices hh : ∃ e, loop (fun t' => f_MM_least_L32 t'.1 t'.2.1 t'.2.2.1 t'.2.2.2) ((fun (i : Nat) (s : Bool × Mem) => (if s.1 = true then lv (i - 1) else lv i, bI (!s.1), nI (8 - i), s.2)) 0 (false, A)) = some e ∧ e.1 = lv k ∧ ((∀ j, j ≠ 3 → e.2 1 j = Mm 1 j) ∧ e.2 0 28 = -1 ∧ (∀ b, b < 302 → e.2 3 b = Mm 1 b) ∧ FrW Mm e.2) by
    obtain ⟨e, e1, e2, e3, e4, e5, e6⟩ := hh
    have e1 : f_MM_least_W32 (-2, 1, 8, A) = some e := e1
    obtain ⟨B, b1, b2, b3, b4⟩ := M_moves (M := e.2) (a0 := 3) (n0 := 302) (a2 := 1) (n2 := 302) (p := 0) (q := 0) (by decide) (by decide) (by decide) (by decide) (by decide)
    refine ⟨B, ?_, e6.tr ⟨fun a ha => b2 a (by omega), fun b _ _ _ _ => by rw [b2 0 (by decide)]⟩, hM.cg hV (fun b hb => ?_), by rw [b2 0 (by decide)]; exact e4⟩
    · rw [e1, bnd_some]
      unfold f_MM_least_J76
      rw [show (0 : Int32) = nI 0 from rfl, b1, bnd_some, e2]
    · have := b3 b hb
      rw [Nat.zero_add] at this
      rw [this]
      exact e5 b hb
  refine loop_enc (fun i s => (if s.1 = true then lv (i - 1) else lv i, bI (!s.1), nI (8 - i), s.2)) 8 (fun i (s : Bool × Mem) => ((∀ j, j ≠ 3 → s.2 1 j = Mm 1 j) ∧ s.2 0 28 = -1 ∧ (∀ b, b < 302 → s.2 3 b = Mm 1 b) ∧ FrW Mm s.2) ∧ (s.1 = true → 1 ≤ i ∧ k = i - 1) ∧ (s.1 = false → i ≤ k)) _ ?_ ?_ 0 (false, A) (Nat.zero_le _) ⟨i0, fun z => (by cases z), fun _ => Nat.zero_le _⟩
  · rintro i ⟨b, M⟩ hi ⟨g1, g2, g3⟩
    cases b with
    | true =>
      right
      refine ⟨(lv (i - 1), M), ?_, ?_, g1⟩
      · show f_MM_least_L32 (lv (i - 1)) 0 (nI (8 - i)) M = _
        unfold f_MM_least_L32
        rw [if_neg (show ¬ nI (8 - i) ≤ (0 : Int32) from nI_ge (a := 0) (by omega) (by omega)), if_pos rfl]
      · rw [(g2 rfl).2]
    | false =>
      left
      have g3 := g3 rfl
      obtain ⟨M', m1, m2⟩ := step i M (lv i) hi g1
      refine ⟨(lsB R i, M'), ?_, m2, fun z => ?_, fun z => ?_⟩
      · show f_MM_least_L32 (lv i) 1 (nI (8 - i)) M = some (Sum.inl (if lsB R i = true then lv (i + 1 - 1) else lv (i + 1), bI (!lsB R i), nI (8 - (i + 1)), M'))
        rw [m1, Nat.add_sub_cancel]
        unfold lv
        rw [if_neg (show ¬ i + 1 = 0 by omega), show 9 - (i + 1) = 8 - i by omega]
      · have z : lsB R i = true := z
        refine ⟨by omega, ?_⟩
        rw [Nat.add_sub_cancel]
        rcases ksp with ⟨h1, h2⟩ | ⟨h1, h2, h3⟩
        · rw [h2 i hi] at z
          cases z
        · rcases Nat.lt_or_ge i k with w | w
          · rw [h3 i w] at z
            cases z
          · omega
      · have z : lsB R i = false := z
        show i + 1 ≤ k
        rcases ksp with ⟨h1, h2⟩ | ⟨h1, h2, h3⟩
        · omega
        · by_cases w : i = k
          · rw [← w, z] at h2
            cases h2
          · omega
  · rintro ⟨b, M⟩ ⟨g1, g2, g3⟩
    refine ⟨(if b = true then lv (8 - 1) else lv 8, M), ?_, ?_, g1⟩
    · show f_MM_least_L32 (if b = true then lv (8 - 1) else lv 8) (bI (!b)) (nI (8 - 8)) M = _
      unfold f_MM_least_L32
      rw [if_pos (by decide)]
    · show (if b = true then lv (8 - 1) else lv 8) = lv k
      cases b with
      | true => rw [(g2 rfl).2]; rfl
      | false =>
        have : k = 8 := by
          have g3 : 8 ≤ k := g3 rfl
          omega
        rw [this]
        rfl
theorem a_least {Mc Mm : Mem} (h : Rel Mc Mm) : Act (f_MC_least Mc) (f_MM_least Mm) := by
  have hrel := h
  obtain ⟨⟨R, hP0⟩, -⟩ := h
  have hV := hP0.1
  have hn := pv_n hV
  have hP := hP0.2.1
  by_cases w0 : R 0 = 0
  · have h10 : Mm 1 0 = nI (R 0) := hP0.2.2.1.1 0 (by decide)
    unfold f_MC_least f_MM_least
    rw [h10, hP.1, w0, if_pos (show nI 0 = (0 : Int32) from rfl), if_pos (show nI 0 = (0 : Int32) from rfl)]
    exact Act.no hrel rfl rfl
  · obtain ⟨Mc', c1, c2⟩ := C_least' hP0
    obtain ⟨Mm', m1, m2, m3, m4⟩ := M_least hP0 w0
    refine ⟨_, Mc', Mm', ?_, m1, hrel.wif hP0 c2 m2 m3 m4⟩
    unfold f_MC_least
    rw [hP.1, if_neg (show ¬ nI (R 0) = (0 : Int32) from fun z => w0 ((nI_eq (b := 0) (by omega) (by omega)).mp z)), C_sound hV hP, bnd_some]
    exact c1
