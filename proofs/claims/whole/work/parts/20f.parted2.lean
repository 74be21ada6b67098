def pT (R : Nat → Nat) : Nat := min 6 (R 7)
def ptB (R : Nat → Nat) (x : Nat) : Bool := !alB (snN R) (dcN R (sRun R (dlM R none0) (lvF x (pT R) R 7) (plR (lvF x (pT R) R)) (fun _ => true) (R 3))) (R 0)
theorem mask_at : ∀ T, T < 7 → ∀ x, x < 2 ^ T → ∀ l, l < 16 → (((((nI (2 ^ T - 1) ^^^ (-1 : Int32)) ||| nI x) >>> (nI l &&& 31)) &&& (1 : Int32)) = 0 ↔ alj x T l = false) := by decide +kernel
theorem LI.dl {R S : Nat → Nat} (h : LI R S) : dlM S none0 = dlM R none0 := by
  have e : ∀ j, j ≠ 7 → (j < 10 ∨ 218 ≤ j) → S j = R j := h.2
  have w8 : ∀ l r f t, isW S (218 + 3 * l) r f t = isW R (218 + 3 * l) r f t := fun l r f t => by
    unfold isW
    rw [e _ (by omega) (by omega), e _ (by omega) (by omega), e _ (by omega) (by omega)]
  have w9 : ∀ l r f t, isW S (254 + 4 * l) r f t = isW R (254 + 4 * l) r f t := fun l r f t => by
    unfold isW
    rw [e _ (by omega) (by omega), e _ (by omega) (by omega), e _ (by omega) (by omega)]
  funext r f t
  unfold dlM omI ltI
  simp only [w8, w9, e 8 (by decide) (by decide), e 9 (by decide) (by decide)]
  rw [e _ (by omega) (by omega)]
theorem LI.sn {R S : Nat → Nat} (h : LI R S) : snN S = snN R := by
  have e : ∀ j, j ≠ 7 → (j < 10 ∨ 218 ≤ j) → S j = R j := h.2
  have eb : snB S = snB R := by
    funext p
    unfold snB tcB enB lie
    rw [e 6 (by decide) (by decide), e 8 (by decide) (by decide), e 9 (by decide) (by decide)]
    have w8 : ∀ l, (decide (S (218 + 3 * l + 1) = p) || decide (S (218 + 3 * l + 2) = p)) = (decide (R (218 + 3 * l + 1) = p) || decide (R (218 + 3 * l + 2) = p)) := fun l => by rw [e _ (by omega) (by omega), e _ (by omega) (by omega)]
    have w9 : ∀ l, (decide (S (254 + 4 * l + 1) = p) || decide (S (254 + 4 * l + 2) = p)) = (decide (R (254 + 4 * l + 1) = p) || decide (R (254 + 4 * l + 2) = p)) := fun l => by rw [e _ (by omega) (by omega), e _ (by omega) (by omega)]
    simp only [w8, w9]
  unfold snN
  rw [eb, e 0 (by decide) (by decide)]
theorem LI.rf {R : Nat → Nat} (h : PV R) : LI R R := ⟨h, fun _ _ _ => rfl⟩
theorem C_parts {R : Nat → Nat} {Mc Mm M : Mem} (hP0 : RelP R Mc Mm) (hM : CI Mc M) {x : Nat} (hx : x < 2 ^ pT R) : ∃ M', f_MC_partsWith M (nI x) (nI (2 ^ pT R - 1)) (nI (snN R)) = some (ptB R x, M') ∧ CI Mc M' := by
  have hV := hP0.1
  have hn := pv_n hV
  have hR3 := hV.2.2.2.1
  have v7 := hV.2.2.2.2.2.2.2.2.1
  have hT6 : pT R ≤ 6 := Nat.min_le_left _ _
  have hT7 : pT R ≤ R 7 := Nat.min_le_right _ _
  have hPM := (hM.P hP0).2.1
  obtain ⟨-, PL, e1, e2⟩ := lv_run (R := R) (x := x) (dlM R none0) (R 3) (pT R) R (LI.rf hV) hT7
  obtain ⟨A, b1, b2, b3, b4, b5, b6⟩ := C_prepare (k := 124) (g := 0) (by decide) hV hPM (by decide)
  have cA : CI M (upM A 124 2 ((nI (2 ^ pT R - 1) ^^^ (-1 : Int32)) ||| nI x)) := fun a ha => by rw [upM_row (by omega)]; exact b2 a (by omega) (by omega)
  obtain ⟨B, c1, c2, c3⟩ := C_trial (R' := R) (dl := dlM R none0) (al := alj x (pT R)) (PL := PL) hV hV hPM cA (fun _ _ _ => rfl) ⟨by rw [upM_ne (by omega)]; exact b4, fun r f t h1 h2 h3 h4 => by
    show upM A 124 2 _ 125 (64 * r + 8 * f + t) = _
    rw [upM_row (by decide)]
    have := b6 (64 * r + 8 * f + t) (by omega)
    rw [this, omitV_0 (x := none0) hV rfl h1 h3 h4], fun r f t => dlM_le hV (by decide) r f t, hR3⟩ (fun l hl => by
    rw [upM_eq]
    exact mask_at (pT R) (by omega) x hx l (by omega)) e1
  refine ⟨B, ?_, fun a ha => (c2 a ha).trans (hM a ha)⟩
  unfold f_MC_partsWith
  rw [show (0 : Int32) = nI 0 from rfl, b1, bnd_some, lt1_eq, c1, bnd_some, c3 (snN R) (orN_lt9 _ hn), bnd_some, ← EQ.dc e2]
  unfold ptB
  cases alB (snN R) (dcN R (sRun R (dlM R none0) (lvF x (pT R) R 7) (plR (lvF x (pT R) R)) (fun _ => true) (R 3))) (R 0) <;> rfl
theorem C_parted {R : Nat → Nat} {Mc Mm : Mem} (hP0 : RelP R Mc Mm) (h0 : R 0 ≠ 0) : ∃ Mc', f_MC_parted Mc = some (bsA (ptB R) (2 ^ pT R), Mc') ∧ CI Mc Mc' := by
  have hV := hP0.1
  have hn := pv_n hV
  have hP := hP0.2.1
  have v7 := hV.2.2.2.2.2.2.2.2.1
  have hT6 : pT R ≤ 6 := Nat.min_le_left _ _
  have p64 := pw64 (pT R) hT6
  unfold f_MC_parted
  rw [hP.1, if_neg (show ¬ nI (R 0) = (0 : Int32) from fun z => h0 ((nI_eq (b := 0) (by omega) (by omega)).mp z)), C_sound hV hP, bnd_some, hP.2.2.1, show (6 : Int32) = nI 6 from rfl, miI_nI (by omega) (by omega), show min (R 7) 6 = pT R from Nat.min_comm _ _, sh1 _ (by omega), show nI (2 ^ pT R) - 1 = nI (2 ^ pT R - 1) from pk_sub (b := 1) p64.2]
  unfold f_MC_parted_J39
  rw [bnd_id]
  unfold f_MC_parted_W39
  refine out_loop (ok := ptB R) (N := 2 ^ pT R) (I := CI Mc) (fun c M hc hM => ?_) (fun M hM => ?_) (fun _ _ => rfl)
  · obtain ⟨e, e1, e2⟩ := in_loop (ok := ptB R) (N := 2 ^ pT R) (c := c) (I := CI Mc) (ib := fun t => f_MC_parted_L48 (nI (snN R)) (nI (2 ^ pT R - 1)) (nI c) t.1 t.2) (fun x M hx hM => by
      obtain ⟨M', m1, m2⟩ := C_parts hP0 hM hx
      have b6 := bcN_6 x (by omega)
      refine ⟨M', m2, ?_⟩
      show f_MC_parted_L48 (nI (snN R)) (nI (2 ^ pT R - 1)) (nI c) (nI x) M = _
      unfold f_MC_parted_L48
      rw [if_neg (fun z => by have := (lt_N (by omega) p64.2 p64.1).mp z; omega), bcN_I (by omega), ← nI_succ]
      by_cases w : bcN x = c
      · rw [if_pos (by rw [w]), if_pos w, m1, bnd2_some]
        cases ptB R x <;> rfl
      · rw [if_neg (fun z => w ((nI_eq (by omega) (by omega)).mp z)), if_neg w]) (fun M hM => by
      show f_MC_parted_L48 (nI (snN R)) (nI (2 ^ pT R - 1)) (nI c) (nI (2 ^ pT R)) M = _
      unfold f_MC_parted_L48
      rw [if_pos ((lt_N (by omega) p64.2 p64.1).mpr (Nat.le_refl _))]) hM
    have e1 : f_MC_parted_W48 (nI (snN R)) (nI (2 ^ pT R - 1)) (nI c) (0, M) = some e := e1
    show ∃ M', CI Mc M' ∧ f_MC_parted_L39 (nI (snN R)) (nI (2 ^ pT R - 1)) (nI c) M = _
    unfold f_MC_parted_L39 f_MC_parted_J48
    rw [show (6 : Int32) = nI 6 from rfl, if_neg (nI_nlt (by omega) (by omega)), e1, bnd_some, ← nI_succ]
    rcases e2 with ⟨w, M', rfl, m⟩ | ⟨w, M', rfl, m⟩
    · rw [w]
      exact ⟨M', m, rfl⟩
    · rw [w]
      exact ⟨M', m, rfl⟩
  · show f_MC_parted_L39 (nI (snN R)) (nI (2 ^ pT R - 1)) (nI 7) M = _
    unfold f_MC_parted_L39
    rw [if_pos (by decide)]
theorem M_leaves {R : Nat → Nat} {M : Mem} (hV : PV R) (hM : PM R (M 1)) {x : Nat} (hx : x < 2 ^ pT R) : ∃ M', f_MM_leaves M (nI x) = some M' ∧ (∀ a, a ≠ 1 → M' a = M a) ∧ PM (lvF x (pT R) R) (M' 1) := by
  have hT6 : pT R ≤ 6 := Nat.min_le_left _ _
  have hT7 : pT R ≤ R 7 := Nat.min_le_right _ _
  have p64 := pw64 (pT R) hT6
  have v7 := hV.2.2.2.2.2.2.2.2.1
  have h17 : M 1 7 = nI (R 7) := hM.1 7 (by decide)
  unfold f_MM_leaves
  rw [h17, show (6 : Int32) = nI 6 from rfl, miI_nI (by omega) (by omega)]
  unfold f_MM_leaves_J15
  rw [bnd_id]
  unfold f_MM_leaves_W15
  suffices hh : ∃ M', loop (fun t => f_MM_leaves_L15 (nI x) t.1 t.2) ((fun (i : Nat) (s : Mem) => (nI (pT R - i) - 1, s)) 0 M) = some M' ∧ ((∀ a, a ≠ 1 → M' a = M a) ∧ PM (lvF x (pT R) R) (M' 1)) from hh
  refine loop_enc (fun i s => (nI (pT R - i) - 1, s)) (pT R) (fun i (N : Mem) => (∀ a, a ≠ 1 → N a = M a) ∧ ∃ S, PV S ∧ PM S (N 1) ∧ pT R - i ≤ S 7 ∧ lvF x (pT R - i) S = lvF x (pT R) R) _ ?_ ?_ 0 M (Nat.zero_le _) ⟨fun _ _ => rfl, R, hV, hM, by omega, rfl⟩
  · rintro i N hi ⟨g1, S, s1, s2, s3, s4⟩
    left
    obtain ⟨m, hm⟩ : ∃ m, m = pT R - (i + 1) := ⟨_, rfl⟩
    have e1 : pT R - i = m + 1 := by omega
    rw [e1] at s3 s4
    have s7 := s1.2.2.2.2.2.2.2.2.1
    show ∃ s', f_MM_leaves_L15 (nI x) (nI (pT R - i) - 1) N = some (.inl (nI (pT R - (i + 1)) - 1, s')) ∧ _
    unfold f_MM_leaves_L15
    rw [down_step hi, ← hm, if_neg (show ¬ nI m < 0 from nI_pos (by omega)), M_has (by omega) (by omega), down_next]
    have s4 : lvF x m (if x.testBit m = true then S else rmR S 7 10 13 m) = lvF x (pT R) R := s4
    by_cases wb : x.testBit m = true
    · rw [wb, gT]
      rw [if_pos wb] at s4
      exact ⟨N, rfl, g1, S, s1, s2, by omega, s4⟩
    · rw [if_neg wb] at s4
      have wb := Bool.eq_false_iff.mpr wb
      obtain ⟨N', n1, n2, n3, n4, n5⟩ := M_takesOut (M := N) (kd := 0) (ci := 7) (pl := 10) (wd := 13) (cnt := S 7) (k := m) rfl rfl rfl (s2.1 7 (by decide)) (by decide) (by omega) (by omega)
      rw [wb, gF, n1, bnd_some]
      exact ⟨N', rfl, fun a ha => (n2 a ha).trans (g1 a ha), rmR S 7 10 13 m, rmR_PV s1 (Or.inl ⟨rfl, rfl, rfl⟩) (by omega), rmR_PM s1 (Or.inl ⟨rfl, rfl, rfl⟩) (by omega) s2 n3 n4 n5, by rw [rmR_c]; omega, s4⟩
  · rintro N ⟨g1, S, s1, s2, s3, s4⟩
    rw [Nat.sub_self] at s4
    have s4 : S = lvF x (pT R) R := s4
    refine ⟨N, ?_, g1, by rw [← s4]; exact s2⟩
    show f_MM_leaves_L15 (nI x) (nI (pT R - pT R) - 1) N = _
    unfold f_MM_leaves_L15
    rw [if_pos (neg_1 _)]
theorem M_parted {R : Nat → Nat} {Mc Mm : Mem} (hP0 : RelP R Mc Mm) (h0 : R 0 ≠ 0) : ∃ Mm', f_MM_parted Mm = some (bsA (ptB R) (2 ^ pT R), Mm') ∧ W3 R Mm Mm' := by
  have hV := hP0.1
  have hn := pv_n hV
  have hM := hP0.2.2.1
  have v7 := hV.2.2.2.2.2.2.2.2.1
  have hT6 : pT R ≤ 6 := Nat.min_le_left _ _
  have hT7 : pT R ≤ R 7 := Nat.min_le_right _ _
  have p64 := pw64 (pT R) hT6
  have h10 : Mm 1 0 = nI (R 0) := hM.1 0 (by decide)
  obtain ⟨A, a1, a2, a3⟩ := W3.of hP0
  have h17 : A 1 7 = nI (R 7) := by rw [a3]; exact hM.1 7 (by decide)
  unfold f_MM_parted
  rw [h10, if_neg (show ¬ nI (R 0) = (0 : Int32) from fun z => h0 ((nI_eq (b := 0) (by omega) (by omega)).mp z)), a1, bnd_some, h17, show (6 : Int32) = nI 6 from rfl, miI_nI (by omega) (by omega), show min 6 (R 7) = pT R from rfl, sh1 _ (by omega), show nI (2 ^ pT R) - 1 = nI (2 ^ pT R - 1) from pk_sub (b := 1) p64.2]
  unfold f_MM_parted_J46
  rw [bnd_id]
  unfold f_MM_parted_W46
  refine ref_loop (ok := ptB R) (N := 2 ^ pT R) p64.1 (I := W3 R Mm) (fun x x1 M hx hM' => ?_) (fun x1 M hM' => ?_) a2
  · obtain ⟨li, -⟩ := lv_run (R := R) (x := x) (dlM R none0) (R 3) (pT R) R (LI.rf hV) hT7
    have b7 : ∀ j, j < 7 → lvF x (pT R) R j = R j := fun j hj => li.2 j (by omega) (by omega)
    obtain ⟨B, t1, t2, t3⟩ := M_leaves hV hM'.1 hx
    obtain ⟨N, N', n1, n2, n3, n4, n5⟩ := W3.play hV hM hM' li.1 b7 t3 t2
    have go : f_MM_parted_J71 M x1 (nI (2 ^ pT R - 1)) (nI x) = some (.inl (if ptB R x = true then nI x else x1, nI (x + 1), N')) := by
      unfold f_MM_parted_J71
      rw [t1, bnd_some, n1, bnd_some, M_sound li.1 n4, li.sn, bnd_some, n5 (snN R) (orN_lt9 _ hn), bnd_some, li.dl]
      unfold f_MM_parted_J96
      rw [n2, bnd_some, bnd_some, ← nI_succ]
      unfold ptB
      cases alB (snN R) (dcN R (sRun R (dlM R none0) (lvF x (pT R) R 7) (plR (lvF x (pT R) R)) (fun _ => true) (R 3))) (R 0) <;> rfl
    refine ⟨N', n3, ?_⟩
    show f_MM_parted_L46 (nI (2 ^ pT R - 1)) x1 (nI x) M = _
    unfold f_MM_parted_L46
    rw [go, if_neg (fun z => by have := (lt_N (by omega) p64.2 p64.1).mp z; omega), ← nI_succ]
  · show f_MM_parted_L46 (nI (2 ^ pT R - 1)) x1 (nI (2 ^ pT R)) M = _
    unfold f_MM_parted_L46
    rw [if_pos ((lt_N (by omega) p64.2 p64.1).mpr (Nat.le_refl _))]
theorem a_parted {Mc Mm : Mem} (h : Rel Mc Mm) : Act (f_MC_parted Mc) (f_MM_parted Mm) := by
  have hrel := h
  obtain ⟨⟨R, hP0⟩, -⟩ := h
  by_cases w0 : R 0 = 0
  · have h10 : Mm 1 0 = nI (R 0) := hP0.2.2.1.1 0 (by decide)
    unfold f_MC_parted f_MM_parted
    rw [h10, hP0.2.1.1, w0, if_pos (show nI 0 = (0 : Int32) from rfl), if_pos (show nI 0 = (0 : Int32) from rfl)]
    exact Act.no hrel rfl rfl
  · obtain ⟨Mc', c1, c2⟩ := C_parted hP0 w0
    obtain ⟨Mm', m1, m2⟩ := M_parted hP0 w0
    exact ⟨_, Mc', Mm', c1, m1, hrel.wif hP0 c2 m2.2.2.2 m2.1 m2.2.1⟩
