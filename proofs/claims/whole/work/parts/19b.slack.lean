/-! slack -/
def x4 (a b c d : Nat) : Nat → Nat := fun i => if i = 0 then a else if i = 1 then b else if i = 2 then c else d
def slX (r f t y : Nat) : Nat → Nat := if y = 0 then none0 else x4 r f t y
theorem sl_dl {R : Nat → Nat} (hV : PV R) {r f t y : Nat} {r' f' t' : Nat} (hr' : 1 ≤ r') : dlM (slR R r f t) (slX r f t y) r' f' t' = if r' = r ∧ f' = f ∧ t' = t then y else dlM R none0 r' f' t' := by
  obtain ⟨-, -, -, a4, a5⟩ := slR_sp hV r f t
  rw [dlM_eq, dlM_eq, a5]
  have n0 : ¬ (none0 0 = r' ∧ none0 1 = f' ∧ none0 2 = t') := fun z => by
    have : 0 = r' := z.1
    omega
  by_cases q : r' = r ∧ f' = f ∧ t' = t
  · rw [if_neg (fun z => ((a4 r' f' t').mp z).2 q), if_pos q, if_pos q]
    unfold slX
    by_cases y0 : y = 0
    · rw [if_pos y0, if_neg n0, y0]
    · rw [if_neg y0]
      obtain ⟨rfl, rfl, rfl⟩ := q
      rw [if_pos ⟨rfl, rfl, rfl⟩]
      show (if y = 0 then 99 else y) = y
      rw [if_neg y0]
  · have c : ¬ (slX r f t y 0 = r' ∧ slX r f t y 1 = f' ∧ slX r f t y 2 = t') := by
      unfold slX
      by_cases y0 : y = 0
      · rw [if_pos y0]; exact n0
      · rw [if_neg y0]
        rintro ⟨z1, z2, z3⟩
        exact q ⟨z1.symm, z2.symm, z3.symm⟩
    rw [if_neg c, if_neg q, if_neg q, if_neg n0]
    by_cases w : omI R r' f' t' < R 8
    · rw [if_pos w, if_pos ((a4 r' f' t').mpr ⟨w, q⟩)]
    · rw [if_neg w, if_neg (fun z => w ((a4 r' f' t').mp z).1)]
theorem M_take1 {R : Nat → Nat} {M : Mem} (hV : PV R) (hM : PM R (M 1)) {k : Nat} (hk : k < R 8) : ∃ M', f_MM_takesOut M 1 (nI k) = some M' ∧ (∀ a, a ≠ 1 → M' a = M a) ∧ PM (rmR R 8 218 3 k) (M' 1) := by
  have v8 := hV.2.2.2.2.2.2.2.2.2.1
  obtain ⟨M', m1, m2, m3, m4, m5⟩ := M_takesOut (M := M) (kd := 1) (ci := 8) (pl := 218) (wd := 3) (cnt := R 8) (k := k) rfl rfl rfl (hM.1 8 (by decide)) (by decide) hk (by omega)
  exact ⟨M', m1, m2, rmR_PM hV (Or.inr (Or.inl ⟨rfl, rfl, rfl⟩)) hk hM m3 m4 m5⟩
theorem M_take2 {R : Nat → Nat} {M : Mem} (hV : PV R) (hM : PM R (M 1)) {k : Nat} (hk : k < R 9) : ∃ M', f_MM_takesOut M 2 (nI k) = some M' ∧ (∀ a, a ≠ 1 → M' a = M a) ∧ PM (rmR R 9 254 4 k) (M' 1) := by
  have v9 := hV.2.2.2.2.2.2.2.2.2.2.1
  obtain ⟨M', m1, m2, m3, m4, m5⟩ := M_takesOut (M := M) (kd := 2) (ci := 9) (pl := 254) (wd := 4) (cnt := R 9) (k := k) rfl rfl rfl (hM.1 9 (by decide)) (by decide) hk (by omega)
  exact ⟨M', m1, m2, rmR_PM hV (Or.inr (Or.inr ⟨rfl, rfl, rfl⟩)) hk hM m3 m4 m5⟩
theorem M_slTake {R : Nat → Nat} {M : Mem} (hV : PV R) (hM : PM R (M 1)) {r f t : Nat} (hr : r < 100) (hf : f < 100) (ht : t < 100) : ∃ M', f_MM_slack_W52 (nI r) (nI f) (nI t) ((1 : Int32), M) = some M' ∧ (∀ a, a ≠ 1 → M' a = M a) ∧ PM (slR R r f t) (M' 1) := by
  have v8 := hV.2.2.2.2.2.2.2.2.2.1
  have v9 := hV.2.2.2.2.2.2.2.2.2.2.1
  obtain ⟨a1, -⟩ := slR1_sp hV r f t
  obtain ⟨A, s1, s2, s3⟩ : ∃ A, f_MM_slack_L52 (nI r) (nI f) (nI t) 1 M = some (.inl (2, A)) ∧ (∀ a, a ≠ 1 → A a = M a) ∧ PM (slR1 R r f t) (A 1) := by
    unfold f_MM_slack_L52 slR1
    rw [if_neg (by decide), M_omit hV hM hr hf ht, bnd_some]
    by_cases w : omI R r f t < R 8
    · obtain ⟨A, m1, m2, m3⟩ := M_take1 hV hM w
      rw [if_pos w, if_pos w, if_neg (nI_neg1 (by omega)), m1, bnd_some]
      exact ⟨A, rfl, m2, m3⟩
    · rw [if_neg w, if_neg w, if_pos rfl]
      exact ⟨M, rfl, fun _ _ => rfl, hM⟩
  obtain ⟨B, t1, t2, t3⟩ : ∃ B, f_MM_slack_L52 (nI r) (nI f) (nI t) 2 A = some (.inl (3, B)) ∧ (∀ a, a ≠ 1 → B a = A a) ∧ PM (slR R r f t) (B 1) := by
    unfold f_MM_slack_L52 slR
    rw [if_neg (by decide), M_late a1 s3 hr hf ht, bnd_some]
    have v9' := a1.2.2.2.2.2.2.2.2.2.2.1
    by_cases w : ltI (slR1 R r f t) r f t < slR1 R r f t 9
    · obtain ⟨B, m1, m2, m3⟩ := M_take2 a1 s3 w
      rw [if_pos w, if_pos w, if_neg (nI_neg1 (by omega)), m1, bnd_some]
      exact ⟨B, rfl, m2, m3⟩
    · rw [if_neg w, if_neg w, if_pos rfl]
      exact ⟨A, rfl, fun _ _ => rfl, s3⟩
  refine ⟨B, ?_, fun a ha => (t2 a ha).trans (s2 a ha), t3⟩
  unfold f_MM_slack_W52
  rw [loop_inl (t := (2, A)) s1, loop_inl (t := (3, B)) t1, loop_inr (r := B)]
  show f_MM_slack_L52 (nI r) (nI f) (nI t) 3 B = _
  unfold f_MM_slack_L52
  rw [if_pos (by decide)]
/-- what holds in the reference between the plays of what would be -/
def WI (R : Nat → Nat) (Mm M : Mem) : Prop := PM R (M 1) ∧ M 0 28 = -1 ∧ (∀ b, b < 302 → M 3 b = Mm 1 b) ∧ (∀ p, p < R 0 → M 20 p = nI (dcN R (NQ R) p)) ∧ FrW Mm M
theorem dc4 {R : Nat → Nat} (hV : PV R) (Q : Tab) (p : Nat) : dcN R Q p < 4 := by
  have hd4 := hV.2.2.2.2.1
  unfold dcN
  split
  · omega
  · split
    · omega
    · split
      · omega
      · split <;> omega
theorem WI.of {R : Nat → Nat} {Mc Mm : Mem} (h : RelP R Mc Mm) : ∃ N, f_MM_marksDecisions Mm = some N ∧ WI R Mm N := by
  obtain ⟨N, n1, n2, n3, n4, n5, n6⟩ := M_marksD h
  exact ⟨N, n1, by rw [n4]; exact h.2.2.1, n6, n3, n2, n5⟩
def chgB (R R' x : Nat → Nat) : Bool := anyB (dfB R (dcN R (NQ R)) (dcN R (sRun R (dlM R' x) (R 7) (plR R') (fun _ => true) (R 3)))) (R 0)
/-- the reference plays a changed row, and takes the row back -/
theorem WI.play {R R' x : Nat → Nat} {Mm M A : Mem} (hV : PV R) (hMm : PM R (Mm 1)) (h : WI R Mm M) (hV' : PV R') (h7 : ∀ j, j < 8 → R' j = R j) (hS : SM R' x A) (hA : ∀ a, a = 3 ∨ a = 20 ∨ a = 2 ∨ (4 ≤ a ∧ a ≤ 7) → A a = M a) (hA0 : ∀ b, (b < 28 ∨ 31 < b) → A 0 b = M 0 b) : ∃ N, f_MM_isAsItWas A = some (!chgB R R' x, N) ∧ WI R Mm (upM N 0 28 (-1)) := by
  obtain ⟨h1, h2, h3, h4, h5⟩ := h
  have h7' : ∀ j, j < 7 → R' j = R j := fun j hj => h7 j (by omega)
  obtain ⟨N, n1, n2, n3, n4⟩ := M_asWas (d := dcN R (NQ R)) hV' hS (fun p hp => by rw [hA 20 (by omega)]; exact h4 p (by rw [← h7 0 (by decide)]; exact hp)) (dc4 hV _)
  refine ⟨N, ?_, ?_, upM_eq, fun b hb => ?_, fun p hp => ?_, ⟨fun a ha => ?_, fun b b1 b2 b3 b4 => ?_⟩⟩
  · rw [n1]
    unfold chgB dfB
    rw [lie_cg h7', dcN_cg h7', sRun_cg h7', h7 0 (by decide), h7 7 (by decide), h7 3 (by decide)]
  · rw [upM_row (by decide)]
    refine hMm.cg hV (fun b hb => ?_)
    rw [n2 b hb, hA 3 (by omega)]
    exact h3 b hb
  · rw [upM_row (by decide), n3 3 (by decide) (by decide) (by decide), hA 3 (by omega)]
    exact h3 b hb
  · rw [upM_row (by decide), n3 20 (by decide) (by decide) (by decide), hA 20 (by omega)]
    exact h4 p hp
  · rw [upM_row (by omega), n3 a (by omega) (by omega) (by omega), hA a (by omega)]
    exact h5.1 a ha
  · rw [upM_ne (by omega), n4 b b1 b2 b3, hA0 b b4]
    exact h5.2 b b1 b2 b3 b4
/-- the class's memory where a trial has been played -/
def CI (Mc M : Mem) : Prop := ∀ a, ¬ (124 ≤ a ∧ a ≤ 135) → M a = Mc a
theorem CI.P {R : Nat → Nat} {Mc Mm M : Mem} (h : CI Mc M) (hP : RelP R Mc Mm) : RelP R M Mm := hP.cg (fun a ha => h a (by omega)) (fun a h1 h2 => h a (by omega)) hP.2.2.1 hP.2.2.2.2.1
def sv (i : Nat) : Int32 := if i = 0 then -2 else nI (i - 1)
theorem sv_S (i : Nat) : sv (i + 1) = nI i := by
  unfold sv
  rw [if_neg (by omega), Nat.add_sub_cancel]
theorem C_slack {R : Nat → Nat} {Mc Mm : Mem} (hP0 : RelP R Mc Mm) {r f t : Nat} (hr1 : 1 ≤ r) (hr : r ≤ 8) (hf : f < R 0) (ht : t < R 0) : ∃ Mc', f_MC_slack_J26 Mc (nI (64 * r + 8 * f + t)) 0 = some (sv (fstN (fun y => chgB R (slR R r f t) (slX r f t y)) 8), Mc') ∧ CI Mc Mc' := by
  have hV := hP0.1
  have hn := pv_n hV
  obtain ⟨k, hk⟩ : ∃ k, k = fstN (fun y => chgB R (slR R r f t) (slX r f t y)) 8 := ⟨_, rfl⟩
  obtain ⟨a1, a2, a3, a4, a5⟩ := slR_sp hV r f t
  have step : ∀ y M, y < 8 → CI Mc M → ∃ M', f_MC_changesDecisions M (nI (64 * r + 8 * f + t)) (nI y) = some (chgB R (slR R r f t) (slX r f t y), M') ∧ CI Mc M' := by
    intro y M hy hM
    obtain ⟨M', m1, m2⟩ := C_chg (hM.P hP0) (w := 64 * r + 8 * f + t) (y := y) (by omega) (dlM (slR R r f t) (slX r f t y)) (fun r' f' t' h1 h2 h3 h4 => by
      rw [sl_dl hV h1]
      by_cases q : r' = r ∧ f' = f ∧ t' = t
      · rw [if_pos q, if_pos (by rw [q.1, q.2.1, q.2.2])]
      · rw [if_neg q, if_neg (by omega)]) (fun r' f' t' => dlM_le a1 (by
        unfold slX
        split
        · decide
        · show y < 100
          omega) r' f' t') (plR (slR R r f t)) (fun l hl i hi => a3 _ (by omega) (by have := hV.2.2.2.2.2.2.2.2.1; omega))
    exact ⟨M', m1, fun a ha => (m2 a ha).trans (hM a ha)⟩
  unfold f_MC_slack_J26
  rw [← hk]
  suffices hh : ∃ e, loop (fun t' => f_MC_slack_L26 (nI (64 * r + 8 * f + t)) t'.1 t'.2) ((fun (i : Nat) (s : Mem) => (nI i, s)) 0 Mc) = some e ∧ ((k < 8 ∧ ∃ M', e = .inl (nI k, M') ∧ CI Mc M') ∨ (k = 8 ∧ ∃ M', e = .inr ((7 : Int32), M') ∧ CI Mc M')) by
    obtain ⟨e, e1, e2⟩ := hh
    have e1 : f_MC_slack_W26 (nI (64 * r + 8 * f + t)) (0, Mc) = some e := e1
    rw [e1, bnd_some]
    rcases e2 with ⟨h8, M', rfl, hM'⟩ | ⟨h8, M', rfl, hM'⟩
    · refine ⟨M', ?_, hM'⟩
      show (if nI k = 0 then some ((-2 : Int32), M') else some (nI k - 1, M')) = _
      unfold sv
      by_cases k0 : k = 0
      · rw [if_pos k0, k0, if_pos (show nI 0 = (0 : Int32) from rfl)]
      · rw [if_neg k0, if_neg (show ¬ nI k = (0 : Int32) from fun z => k0 ((nI_eq (b := 0) (by omega) (by omega)).mp z)), show nI k - 1 = nI (k - 1) from pk_sub (b := 1) (by omega)]
    · refine ⟨M', ?_, hM'⟩
      rw [h8]
      rfl
  refine loop_enc (fun i s => (nI i, s)) 8 (fun i M => i ≤ k ∧ CI Mc M) _ ?_ ?_ 0 Mc (Nat.zero_le _) ⟨Nat.zero_le _, fun _ _ => rfl⟩
  · rintro i M hi ⟨g1, g2⟩
    obtain ⟨M', m1, m2⟩ := step i M hi g2
    show (∃ s', f_MC_slack_L26 (nI (64 * r + 8 * f + t)) (nI i) M = some (.inl (nI (i + 1), s')) ∧ _) ∨ ∃ r', f_MC_slack_L26 (nI (64 * r + 8 * f + t)) (nI i) M = some (.inr r') ∧ _
    unfold f_MC_slack_L26
    rw [show (7 : Int32) = nI 7 from rfl, if_neg (nI_nlt (by omega) (by omega)), m1, bnd2_some, ← nI_succ]
    rcases fstN_sp (fun y => chgB R (slR R r f t) (slX r f t y)) 8 with ⟨h1, h2⟩ | ⟨h1, h2, h3⟩
    · left
      have h2 := h2 i hi
      rw [show chgB R (slR R r f t) (slX r f t i) = false from h2, if_pos (show bI false = 0 from rfl)]
      exact ⟨M', rfl, by omega, m2⟩
    · rw [← hk] at h1 h2 h3
      by_cases w : i = k
      · right
        rw [w, show chgB R (slR R r f t) (slX r f t k) = true from h2, if_neg (show ¬ bI true = 0 by decide)]
        exact ⟨_, rfl, Or.inl ⟨h1, M', rfl, m2⟩⟩
      · left
        rw [show chgB R (slR R r f t) (slX r f t i) = false from h3 i (by omega), if_pos (show bI false = 0 from rfl)]
        exact ⟨M', rfl, by omega, m2⟩
  · rintro M ⟨g1, g2⟩
    have k8 : k = 8 := by
      have := fstN_le (fun y => chgB R (slR R r f t) (slX r f t y)) 8
      omega
    refine ⟨.inr (7, M), ?_, Or.inr ⟨k8, M, rfl, g2⟩⟩
    show f_MC_slack_L26 (nI (64 * r + 8 * f + t)) (nI 8) M = _
    unfold f_MC_slack_L26
    rw [if_pos (by decide)]
