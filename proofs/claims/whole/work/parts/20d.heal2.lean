def hT (R : Nat → Nat) : Nat := min 6 (R 8 + R 9)
def hgF (R : Nat → Nat) (g : Nat) : Nat → Nat := hgS R g (hT R) (hT R)
def hlB (R : Nat → Nat) (g : Nat) : Bool := alB (hnN R) (dcN R (sRun R (dlM (hgF R g) none0) (R 7) (plR (hgF R g)) (fun _ => true) (R 3))) (R 0)
theorem pw64 : ∀ T, T ≤ 6 → 2 ^ T ≤ 64 ∧ 1 ≤ 2 ^ T := by decide
theorem C_heals {R : Nat → Nat} {Mc Mm M : Mem} (hP0 : RelP R Mc Mm) (hM : CI Mc M) {g : Nat} (hg : g < 2 ^ hT R) : ∃ M', f_MC_healsWithout M (nI g) = some (hlB R g, M') ∧ CI Mc M' := by
  have hV := hP0.1
  have hn := pv_n hV
  have hR3 := hV.2.2.2.1
  have v7 := hV.2.2.2.2.2.2.2.2.1
  have hTl : hT R ≤ R 8 + R 9 := Nat.min_le_right _ _
  have hT6 : hT R ≤ 6 := Nat.min_le_left _ _
  have p64 := pw64 (hT R) hT6
  have hPM := (hM.P hP0).2.1
  obtain ⟨-, a2, a3, -⟩ := hg_sp hV hTl hg (hT R) (Nat.le_refl _)
  have hV' : PV (hgF R g) := (hg_sp hV hTl hg (hT R) (Nat.le_refl _)).1
  obtain ⟨A, b1, b2, b3, b4, b5, b6⟩ := C_prepare (k := 124) (g := g) (by decide) hV hPM (by omega)
  have cA : CI M A := fun a ha => b2 a (by omega) (by omega)
  obtain ⟨B, c1, c2, c3⟩ := C_trial (R' := R) (dl := dlM (hgF R g) none0) (al := fun _ => true) (PL := plR (hgF R g)) hV hV hPM cA (fun _ _ _ => rfl) ⟨b4, fun r f t h1 h2 h3 h4 => by
    show A 125 (64 * r + 8 * f + t) = _
    have := b6 (64 * r + 8 * f + t) (by omega)
    rw [this, hg_dl hV hTl hg h1 h3 h4]
    rfl, fun r f t => dlM_le hV' (by decide) r f t, hR3⟩ (fun l hl => by
    rw [b5]
    have := al_all l (by omega)
    exact ⟨fun z => absurd z this, fun z => (by cases z)⟩) (fun l hl i hi => a3 _ (by omega) (by omega))
  have hPB : PC R B 0 := hPM.cg (fun a _ q => c2 a (by omega))
  refine ⟨B, ?_, fun a ha => (c2 a ha).trans (hM a ha)⟩
  unfold f_MC_healsWithout
  rw [b1, bnd_some, c1, bnd_some, C_honestN hV hPB.1 hPB.2.1, c3 (hnN R) (orN_lt9 _ hn), bnd_some]
  rfl
theorem lt_N {x N : Nat} (h : x < 2 ^ 31) (hN : 1 ≤ N) (hN' : N ≤ 64) : (nI (N - 1) < nI x) ↔ N ≤ x := by
  constructor
  · intro z
    refine Nat.le_of_not_lt (fun q => nI_nlt (show x ≤ N - 1 by omega) (by omega) z)
  · intro z
    exact nI_lt (by omega) h
theorem C_heal {R : Nat → Nat} {Mc Mm : Mem} (hP0 : RelP R Mc Mm) (h0 : R 0 ≠ 0) : ∃ Mc', f_MC_heal Mc = some (bsA (hlB R) (2 ^ hT R), Mc') ∧ CI Mc Mc' := by
  have hV := hP0.1
  have hn := pv_n hV
  have hP := hP0.2.1
  have v8 := hV.2.2.2.2.2.2.2.2.2.1
  have v9 := hV.2.2.2.2.2.2.2.2.2.2.1
  have hT6 : hT R ≤ 6 := Nat.min_le_left _ _
  have p64 := pw64 (hT R) hT6
  unfold f_MC_heal
  rw [hP.1, if_neg (show ¬ nI (R 0) = (0 : Int32) from fun z => h0 ((nI_eq (b := 0) (by omega) (by omega)).mp z)), hP.2.2.2.1, hP.2.2.2.2.1, nI_add, show (6 : Int32) = nI 6 from rfl, miI_nI (by omega) (by omega), show min (R 8 + R 9) 6 = hT R from Nat.min_comm _ _, sh1 _ (by omega), lt1_eq, show nI (2 ^ hT R) - 1 = nI (2 ^ hT R - 1) from pk_sub (b := 1) p64.2]
  unfold f_MC_heal_J39
  rw [bnd_id]
  unfold f_MC_heal_W39
  refine out_loop (ok := hlB R) (N := 2 ^ hT R) (I := CI Mc) (fun c M hc hM => ?_) (fun M hM => ?_) (fun _ _ => rfl)
  · obtain ⟨e, e1, e2⟩ := in_loop (ok := hlB R) (N := 2 ^ hT R) (c := c) (I := CI Mc) (ib := fun t => f_MC_heal_L47 (nI (2 ^ hT R - 1)) (nI c) t.1 t.2) (fun x M hx hM => by
      obtain ⟨M', m1, m2⟩ := C_heals hP0 hM hx
      have b6 := bcN_6 x (by omega)
      refine ⟨M', m2, ?_⟩
      show f_MC_heal_L47 (nI (2 ^ hT R - 1)) (nI c) (nI x) M = _
      unfold f_MC_heal_L47
      rw [if_neg (fun z => by have := (lt_N (by omega) p64.2 p64.1).mp z; omega), bcN_I (by omega), ← nI_succ]
      by_cases w : bcN x = c
      · rw [if_pos (by rw [w]), if_pos w, m1, bnd2_some]
        cases hlB R x <;> rfl
      · rw [if_neg (fun z => w ((nI_eq (by omega) (by omega)).mp z)), if_neg w]) (fun M hM => by
      show f_MC_heal_L47 (nI (2 ^ hT R - 1)) (nI c) (nI (2 ^ hT R)) M = _
      unfold f_MC_heal_L47
      rw [if_pos ((lt_N (by omega) p64.2 p64.1).mpr (Nat.le_refl _))]) hM
    have e1 : f_MC_heal_W47 (nI (2 ^ hT R - 1)) (nI c) (0, M) = some e := e1
    show ∃ M', CI Mc M' ∧ f_MC_heal_L39 (nI (2 ^ hT R - 1)) (nI c) M = _
    unfold f_MC_heal_L39 f_MC_heal_J47
    rw [show (6 : Int32) = nI 6 from rfl, if_neg (nI_nlt (by omega) (by omega)), e1, bnd_some, ← nI_succ]
    rcases e2 with ⟨w, M', rfl, m⟩ | ⟨w, M', rfl, m⟩
    · rw [w]
      exact ⟨M', m, rfl⟩
    · rw [w]
      exact ⟨M', m, rfl⟩
  · show f_MC_heal_L39 (nI (2 ^ hT R - 1)) (nI 7) M = _
    unfold f_MC_heal_L39
    rw [if_pos (by decide)]
/-- what holds in the reference between the plays of what would be, where only the row is set aside -/
def W3 (R : Nat → Nat) (Mm M : Mem) : Prop := PM R (M 1) ∧ M 0 28 = -1 ∧ (∀ b, b < 302 → M 3 b = Mm 1 b) ∧ FrW Mm M
theorem W3.of {R : Nat → Nat} {Mc Mm : Mem} (h : RelP R Mc Mm) : ∃ N, f_MM_moves 1 302 3 302 Mm 0 0 = some N ∧ W3 R Mm N ∧ N 1 = Mm 1 := by
  obtain ⟨A, a1, a2, a3, a4⟩ := M_moves (M := Mm) (a0 := 1) (n0 := 302) (a2 := 3) (n2 := 302) (p := 0) (q := 0) (by decide) (by decide) (by decide) (by decide) (by decide)
  refine ⟨A, a1, ⟨by rw [a2 1 (by decide)]; exact h.2.2.1, by rw [a2 0 (by decide)]; exact h.2.2.2.2.1, fun b hb => ?_, ⟨fun a ha => a2 a (by omega), fun b _ _ _ _ => by rw [a2 0 (by decide)]⟩⟩, a2 1 (by decide)⟩
  have := a3 b hb
  rw [Nat.zero_add] at this
  exact this
/-- a changed row is played; then the row comes back -/
theorem W3.play {R R' : Nat → Nat} {Mm M A : Mem} (hV : PV R) (hMm : PM R (Mm 1)) (h : W3 R Mm M) (hV' : PV R') (h7 : ∀ j, j < 7 → R' j = R j) (hA1 : PM R' (A 1)) (hA : ∀ a, a ≠ 1 → A a = M a) : ∃ N N', f_MM_runs A = some N ∧ f_MM_moves 3 302 1 302 N 0 0 = some N' ∧ W3 R Mm N' ∧ PM R' (N 1) ∧ ∀ s, s < 256 → f_MM_decideAlike N (nI s) = some (alB s (dcN R (sRun R (dlM R' none0) (R' 7) (plR R') (fun _ => true) (R 3))) (R 0)) := by
  obtain ⟨h1, h2, h3, h4⟩ := h
  obtain ⟨N, n1, n2, n3⟩ := M_trial (x := none0) (A := A) hV' ⟨hA1, by rw [hA 0 (by decide)]; exact h2, fun w => absurd rfl w, by decide, by decide, by decide, by decide⟩
  obtain ⟨B, b1, b2, b3, b4⟩ := M_moves (M := N) (a0 := 3) (n0 := 302) (a2 := 1) (n2 := 302) (p := 0) (q := 0) (by decide) (by decide) (by decide) (by decide) (by decide)
  have N3 : N 3 = M 3 := by rw [n2.1 3 (by decide) (by decide), hA 3 (by decide)]
  refine ⟨N, B, n1, b1, ⟨hMm.cg hV (fun b hb => ?_), ?_, fun b hb => ?_, ⟨fun a ha => ?_, fun b q1 q2 q3 q4 => ?_⟩⟩, by rw [n2.1 1 (by decide) (by decide)]; exact hA1, fun s hs => ?_⟩
  · have := b3 b hb
    rw [Nat.zero_add] at this
    rw [this, N3]
    exact h3 b hb
  · rw [b2 0 (by decide), n2.2 28 (by decide) (by decide) (by decide), hA 0 (by decide)]
    exact h2
  · rw [b2 3 (by decide), N3]
    exact h3 b hb
  · rw [b2 a (by omega), n2.1 a (by omega) (by omega), hA a (by omega)]
    exact h4.1 a ha
  · rw [b2 0 (by decide), n2.2 b q1 q2 q3, hA 0 (by decide)]
    exact h4.2 b q1 q2 q3 q4
  · rw [n3 s hs, dcN_cg h7, sRun_cg h7, h7 0 (by decide), h7 3 (by decide)]
theorem hT_eq (R : Nat → Nat) : min 6 (R 8) + min (6 - min 6 (R 8)) (R 9) = hT R := by
  unfold hT
  omega
theorem M_takes {R : Nat → Nat} {M : Mem} (hV : PV R) (hM : PM R (M 1)) {g : Nat} (hg : g < 2 ^ hT R) : ∃ M', f_MM_heal_W96 (nI (min 6 (R 8))) (nI g) (nI (hT R) - 1, M) = some M' ∧ (∀ a, a ≠ 1 → M' a = M a) ∧ PM (hgF R g) (M' 1) := by
  have hTl : hT R ≤ R 8 + R 9 := Nat.min_le_right _ _
  have hT6 : hT R ≤ 6 := Nat.min_le_left _ _
  have p64 := pw64 (hT R) hT6
  unfold f_MM_heal_W96
  suffices hh : ∃ M', loop (fun t => f_MM_heal_L96 (nI (min 6 (R 8))) (nI g) t.1 t.2) ((fun (i : Nat) (s : Mem) => (nI (hT R - i) - 1, s)) 0 M) = some M' ∧ ((∀ a, a ≠ 1 → M' a = M a) ∧ PM (hgF R g) (M' 1)) from hh
  refine loop_enc (fun i s => (nI (hT R - i) - 1, s)) (hT R) (fun i (N : Mem) => (∀ a, a ≠ 1 → N a = M a) ∧ PM (hgS R g (hT R) i) (N 1)) _ ?_ ?_ 0 M (Nat.zero_le _) ⟨fun _ _ => rfl, hM⟩
  · rintro i N hi ⟨g1, g2⟩
    left
    obtain ⟨a1, a2, a3, a4, a5, a6, a7⟩ := hg_sp hV hTl hg i (by omega)
    obtain ⟨m, hm⟩ : ∃ m, m = hT R - 1 - i := ⟨_, rfl⟩
    have es : hgS R g (hT R) (i + 1) = if g.testBit m = true then (if m < R 8 then rmR (hgS R g (hT R) i) 8 218 3 m else rmR (hgS R g (hT R) i) 9 254 4 (m - R 8)) else hgS R g (hT R) i := by rw [hm]; rfl
    rw [es]
    rw [show hT R - i = m + 1 by omega] at a4 a5
    generalize hgS R g (hT R) i = S at *
    show ∃ s', f_MM_heal_L96 (nI (min 6 (R 8))) (nI g) (nI (hT R - i) - 1) N = some (.inl (nI (hT R - (i + 1)) - 1, s')) ∧ _
    unfold f_MM_heal_L96
    rw [down_step hi, show hT R - (i + 1) = m by omega, if_neg (show ¬ nI m < 0 from nI_pos (by omega)), M_has (by omega) (by omega), down_next]
    by_cases wb : g.testBit m = true
    · rw [wb, gT, if_pos rfl]
      unfold f_MM_heal_J123 f_MM_heal_J138
      by_cases w8 : m < R 8
      · have nle : ¬ nI (min 6 (R 8)) ≤ nI m := nI_ge (by omega) (by omega)
        obtain ⟨b1, -⟩ := a4 m (by omega) w8
        obtain ⟨N', n1, n2, n3⟩ := M_take1 a1 g2 b1
        rw [if_neg nle, if_neg nle, if_pos w8, n1, bnd_some, down_next]
        exact ⟨N', rfl, fun a ha => (n2 a ha).trans (g1 a ha), n3⟩
      · have le : nI (min 6 (R 8)) ≤ nI m := (nI_leI (by omega) (by omega)).mpr (by omega)
        obtain ⟨b1, -⟩ := a5 (m - R 8) (by omega)
        obtain ⟨N', n1, n2, n3⟩ := M_take2 a1 g2 b1
        rw [if_pos le, if_pos le, if_neg w8, pk_sub (by omega), show m - min 6 (R 8) = m - R 8 by omega, n1, bnd_some, down_next]
        exact ⟨N', rfl, fun a ha => (n2 a ha).trans (g1 a ha), n3⟩
    · have wb := Bool.eq_false_iff.mpr wb
      rw [wb, gF, if_neg (by decide)]
      exact ⟨N, rfl, g1, g2⟩
  · rintro N ⟨g1, g2⟩
    refine ⟨N, ?_, g1, g2⟩
    show f_MM_heal_L96 (nI (min 6 (R 8))) (nI g) (nI (hT R - hT R) - 1) N = _
    unfold f_MM_heal_L96
    rw [if_pos (neg_1 _)]
theorem M_heal {R : Nat → Nat} {Mc Mm : Mem} (hP0 : RelP R Mc Mm) (h0 : R 0 ≠ 0) : ∃ Mm', f_MM_heal Mm = some (bsA (hlB R) (2 ^ hT R), Mm') ∧ W3 R Mm Mm' := by
  have hV := hP0.1
  have hn := pv_n hV
  have hM := hP0.2.2.1
  have v8 := hV.2.2.2.2.2.2.2.2.2.1
  have v9 := hV.2.2.2.2.2.2.2.2.2.2.1
  have hTl : hT R ≤ R 8 + R 9 := Nat.min_le_right _ _
  have hT6 : hT R ≤ 6 := Nat.min_le_left _ _
  have p64 := pw64 (hT R) hT6
  have h10 : Mm 1 0 = nI (R 0) := hM.1 0 (by decide)
  obtain ⟨A, a1, a2, a3⟩ := W3.of hP0
  have h18 : A 1 8 = nI (R 8) := by rw [a3]; exact hM.1 8 (by decide)
  have h19 : A 1 9 = nI (R 9) := by rw [a3]; exact hM.1 9 (by decide)
  unfold f_MM_heal
  rw [h10, if_neg (show ¬ nI (R 0) = (0 : Int32) from fun z => h0 ((nI_eq (b := 0) (by omega) (by omega)).mp z)), a1, bnd_some, h18, h19, show (6 : Int32) = nI 6 from rfl, miI_nI (by omega) (by omega), pk_sub (by omega), miI_nI (by omega) (by omega)]
  unfold f_MM_heal_J58
  rw [bnd_id]
  unfold f_MM_heal_W58
  refine ref_loop (ok := hlB R) (N := 2 ^ hT R) p64.1 (I := W3 R Mm) (fun x x1 M hx hM' => ?_) (fun x1 M hM' => ?_) a2
  · have hV' : PV (hgF R x) := (hg_sp hV hTl hx (hT R) (Nat.le_refl _)).1
    obtain ⟨-, b2, -⟩ := hg_sp hV hTl hx (hT R) (Nat.le_refl _)
    have b7 : ∀ j, j < 7 → hgF R x j = R j := fun j hj => b2 j (by omega)
    obtain ⟨B, t1, t2, t3⟩ := M_takes hV hM'.1 hx
    obtain ⟨N, N', n1, n2, n3, n4, n5⟩ := W3.play hV hM hM' hV' b7 t3 t2
    have hs : hnN (hgF R x) = hnN R := by
      unfold hnN
      rw [lie_cg b7, b7 0 (by decide)]
    have go : f_MM_heal_J89 M x1 (nI (min 6 (R 8))) (nI (min (6 - min 6 (R 8)) (R 9))) (nI x) = some (.inl (if hlB R x = true then nI x else x1, nI (x + 1), N')) := by
      unfold f_MM_heal_J89 f_MM_heal_J96
      rw [nI_add, hT_eq, t1, bnd_some, n1, bnd_some, (M_honestSet (x := none0) hV' n4).2, hs, bnd_some, n5 (hnN R) (orN_lt9 _ hn), bnd_some]
      unfold f_MM_heal_J168
      rw [n2, bnd_some, bnd_some, ← nI_succ]
      show (if bI (alB (hnN R) (dcN R (sRun R (dlM (hgF R x) none0) (hgF R x 7) (plR (hgF R x)) (fun _ => true) (R 3))) (R 0)) = 0 then _ else _) = _
      rw [show hgF R x 7 = R 7 from b2 7 (by decide)]
      unfold hlB
      cases alB (hnN R) (dcN R (sRun R (dlM (hgF R x) none0) (R 7) (plR (hgF R x)) (fun _ => true) (R 3))) (R 0) <;> rfl
    refine ⟨N', n3, ?_⟩
    show f_MM_heal_L58 (nI (min 6 (R 8))) (nI (min (6 - min 6 (R 8)) (R 9))) x1 (nI x) M = _
    unfold f_MM_heal_L58
    rw [go, nI_add, hT_eq, sh1 _ (by omega), if_neg (nI_ge hx (by omega)), ← nI_succ]
  · show f_MM_heal_L58 (nI (min 6 (R 8))) (nI (min (6 - min 6 (R 8)) (R 9))) x1 (nI (2 ^ hT R)) M = _
    unfold f_MM_heal_L58
    rw [nI_add, hT_eq, sh1 _ (by omega), if_pos ((nI_leI (by omega) (by omega)).mpr (Nat.le_refl _))]
theorem a_heal {Mc Mm : Mem} (h : Rel Mc Mm) : Act (f_MC_heal Mc) (f_MM_heal Mm) := by
  have hrel := h
  obtain ⟨⟨R, hP0⟩, -⟩ := h
  by_cases w0 : R 0 = 0
  · have h10 : Mm 1 0 = nI (R 0) := hP0.2.2.1.1 0 (by decide)
    unfold f_MC_heal f_MM_heal
    rw [h10, hP0.2.1.1, w0, if_pos (show nI 0 = (0 : Int32) from rfl), if_pos (show nI 0 = (0 : Int32) from rfl)]
    exact Act.no hrel rfl rfl
  · obtain ⟨Mc', c1, c2⟩ := C_heal hP0 w0
    obtain ⟨Mm', m1, m2⟩ := M_heal hP0 w0
    exact ⟨_, Mc', Mm', c1, m1, hrel.wif hP0 c2 m2.2.2.2 m2.1 m2.2.1⟩
