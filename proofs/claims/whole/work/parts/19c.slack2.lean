theorem M_slack {R : Nat → Nat} {Mc Mm : Mem} (hP0 : RelP R Mc Mm) {r f t : Nat} (hr1 : 1 ≤ r) (hr : r ≤ 8) (hf : f < R 0) (ht : t < R 0) {M0 : Mem} (h0 : WI R Mm M0) : ∃ Mm', f_MM_slack_J37 M0 (nI r) (nI f) (nI t) (-2) 1 0 = some (sv (fstN (fun y => chgB R (slR R r f t) (slX r f t y)) 8), Mm') ∧ WI R Mm Mm' := by
  have hV := hP0.1
  have hn := pv_n hV
  obtain ⟨a1, a2, a3, a4, a5⟩ := slR_sp hV r f t
  obtain ⟨k, hk⟩ : ∃ k, k = fstN (fun y => chgB R (slR R r f t) (slX r f t y)) 8 := ⟨_, rfl⟩
  have ksp := fstN_sp (fun y => chgB R (slR R r f t) (slX r f t y)) 8
  rw [← hk] at ksp ⊢
  have step : ∀ y M (z : Int32), y < 8 → WI R Mm M → ∃ M', f_MM_slack_J52 M (nI r) (nI f) (nI t) z (nI y) 1 = some (.inl (if chgB R (slR R r f t) (slX r f t y) = true then z else nI y, bI (!chgB R (slR R r f t) (slX r f t y)), nI (y + 1), M')) ∧ WI R Mm M' := by
    intro y M z hy hM
    obtain ⟨A, s1, s2, s3⟩ := M_slTake (r := r) (f := f) (t := t) hV hM.1 (by omega) (by omega) (by omega)
    have fin : ∀ B, SM (slR R r f t) (slX r f t y) B → (∀ a, a = 3 ∨ a = 20 ∨ a = 2 ∨ (4 ≤ a ∧ a ≤ 7) → B a = M a) → (∀ b, (b < 28 ∨ 31 < b) → B 0 b = M 0 b) → ∃ M', f_MM_slack_J103 B (nI r) (nI f) (nI t) z (nI y) = some (.inl (if chgB R (slR R r f t) (slX r f t y) = true then z else nI y, bI (!chgB R (slR R r f t) (slX r f t y)), nI (y + 1), M')) ∧ WI R Mm M' := by
      intro B b1 b2 b3
      obtain ⟨N, n1, n2⟩ := hM.play hV hP0.2.2.1 a1 a2 b1 b2 b3
      refine ⟨upM N 0 28 (-1), ?_, n2⟩
      unfold f_MM_slack_J103 f_MM_slack_J121
      rw [n1, bnd2_some]
      cases chgB R (slR R r f t) (slX r f t y)
      · rw [Bool.not_false, if_neg (show ¬ bI true = 0 by decide), lt1_eq, ← nI_succ]
        rfl
      · rw [Bool.not_true, if_pos (show bI false = 0 from rfl), lt1_eq, ← nI_succ]
        rfl
    unfold f_MM_slack_J52
    rw [s1, bnd_some]
    by_cases y0 : y = 0
    · subst y0
      rw [if_pos (by decide)]
      refine fin A ⟨s3, ?_, fun w => absurd rfl w, (show 0 < 100 by decide), (show 0 < 100 by decide), (show 0 < 100 by decide), (show 0 < 100 by decide)⟩ (fun a ha => s2 a (by omega)) (fun b _ => by rw [s2 0 (by decide)])
      rw [s2 0 (by decide)]
      exact hM.2.1
    · rw [if_neg (show ¬ nI y ≤ (0 : Int32) from nI_ge (a := 0) (by omega) (by omega))]
      unfold f_MM_faultsAside
      rw [lt1_eq, lt1_eq, lt1_eq, lt1_eq, bnd_some]
      have ex : slX r f t y = x4 r f t y := if_neg y0
      refine fin _ ?_ (fun a ha => ?_) (fun b hb => ?_)
      · rw [ex]
        refine ⟨?_, ?_, fun _ => ⟨?_, ?_, ?_⟩, ?_, ?_, ?_, ?_⟩
        · rw [upM_row (by decide), upM_row (by decide), upM_row (by decide), upM_row (by decide)]
          exact s3
        · rw [upM_ne (by omega), upM_ne (by omega), upM_ne (by omega), upM_eq]
          show nI r = cmI r
          unfold cmI
          rw [if_neg (by omega)]
        · rw [upM_ne (by omega), upM_ne (by omega), upM_eq]; rfl
        · rw [upM_ne (by omega), upM_eq]; rfl
        · rw [upM_eq]; rfl
        · show r < 100; omega
        · show f < 100; omega
        · show t < 100; omega
        · show y < 100; omega
      · rw [upM_row (by omega), upM_row (by omega), upM_row (by omega), upM_row (by omega)]
        exact s2 a (by omega)
      · rw [upM_ne (by omega), upM_ne (by omega), upM_ne (by omega), upM_ne (by omega), s2 0 (by decide)]
  unfold f_MM_slack_J37
  rw [bnd_id]
  unfold f_MM_slack_W37
  suffices hh : ∃ e, loop (fun t' => f_MM_slack_L37 (nI r) (nI f) (nI t) t'.1 t'.2.1 t'.2.2.1 t'.2.2.2) ((fun (i : Nat) (s : Bool × Mem) => (if s.1 = true then sv (i - 1) else sv i, bI (!s.1), nI i, s.2)) 0 (false, M0)) = some e ∧ e.1 = sv k ∧ WI R Mm e.2 by
    obtain ⟨e, e1, e2, e3⟩ := hh
    refine ⟨e.2, ?_, e3⟩
    rw [← e2]
    exact e1
  refine loop_enc (fun i s => (if s.1 = true then sv (i - 1) else sv i, bI (!s.1), nI i, s.2)) 8 (fun i (s : Bool × Mem) => WI R Mm s.2 ∧ (s.1 = true → 1 ≤ i ∧ k = i - 1) ∧ (s.1 = false → i ≤ k)) _ ?_ ?_ 0 (false, M0) (Nat.zero_le _) ⟨h0, fun z => (by cases z), fun _ => Nat.zero_le _⟩
  · rintro i ⟨b, M⟩ hi ⟨g1, g2, g3⟩
    cases b with
    | true =>
      right
      refine ⟨(sv (i - 1), M), ?_, ?_, g1⟩
      · show f_MM_slack_L37 (nI r) (nI f) (nI t) (sv (i - 1)) 0 (nI i) M = _
        unfold f_MM_slack_L37
        rw [j8, if_neg (nI_ge hi (by decide)), if_pos rfl]
      · rw [(g2 rfl).2]
    | false =>
      left
      have g3 := g3 rfl
      obtain ⟨M', m1, m2⟩ := step i M (sv i) hi g1
      refine ⟨(chgB R (slR R r f t) (slX r f t i), M'), ?_, m2, fun z => ?_, fun z => ?_⟩
      · show f_MM_slack_L37 (nI r) (nI f) (nI t) (sv i) 1 (nI i) M = some (Sum.inl (if chgB R (slR R r f t) (slX r f t i) = true then sv (i + 1 - 1) else sv (i + 1), bI (!chgB R (slR R r f t) (slX r f t i)), nI (i + 1), M'))
        unfold f_MM_slack_L37
        rw [j8, if_neg (nI_ge hi (by decide)), if_neg (show ¬ (1 : Int32) = 0 by decide), m1, Nat.add_sub_cancel, sv_S]
      · have z : chgB R (slR R r f t) (slX r f t i) = true := z
        refine ⟨by omega, ?_⟩
        rw [Nat.add_sub_cancel]
        rcases ksp with ⟨h1, h2⟩ | ⟨h1, h2, h3⟩
        · rw [show chgB R (slR R r f t) (slX r f t i) = false from h2 i hi] at z
          cases z
        · rcases Nat.lt_or_ge i k with w | w
          · rw [show chgB R (slR R r f t) (slX r f t i) = false from h3 i w] at z
            cases z
          · omega
      · have z : chgB R (slR R r f t) (slX r f t i) = false := z
        show i + 1 ≤ k
        rcases ksp with ⟨h1, h2⟩ | ⟨h1, h2, h3⟩
        · omega
        · by_cases w : i = k
          · have h2 : chgB R (slR R r f t) (slX r f t k) = true := h2
            rw [← w, z] at h2
            cases h2
          · omega
  · rintro ⟨b, M⟩ ⟨g1, g2, g3⟩
    refine ⟨(if b = true then sv (8 - 1) else sv 8, M), ?_, ?_, g1⟩
    · show f_MM_slack_L37 (nI r) (nI f) (nI t) (if b = true then sv (8 - 1) else sv 8) (bI (!b)) (nI 8) M = _
      unfold f_MM_slack_L37
      rw [if_pos (by decide)]
    · show (if b = true then sv (8 - 1) else sv 8) = sv k
      cases b with
      | true => rw [(g2 rfl).2]; rfl
      | false =>
        have : k = 8 := by
          have g3 : 8 ≤ k := g3 rfl
          omega
        rw [this]
        rfl
theorem WI.done {R : Nat → Nat} {Mc Mm Mc' Mm' : Mem} (h : Rel Mc Mm) (hP : RelP R Mc Mm) (hc : CI Mc Mc') (hw : WI R Mm Mm') : Rel Mc' Mm' := h.wif hP hc hw.2.2.2.2 hw.1 hw.2.1
theorem a_slack {Mc Mm : Mem} (h : Rel Mc Mm) (x1 x2 x3 : Int32) : Act (f_MC_slack Mc x1 x2 x3) (f_MM_slack Mm x1 x2 x3) := by
  have hrel := h
  obtain ⟨⟨R, hP0⟩, -⟩ := h
  have hP0' := hP0
  obtain ⟨hV, hP, hM, hC, h28, hk⟩ := hP0'
  have hn := pv_n hV
  unfold f_MC_slack f_MM_slack
  rw [C_route hV hP.1, M_in18, M_unlike hV hM]
  rcases route_cases hn x1 x2 x3 with w | ⟨r, f, t, hr1, hr, hf, ht, hft, rfl, rfl, rfl, w1, w2⟩
  · rw [w]
    refine Act.no hrel rfl ?_
    cases e : in18 x1
    · rfl
    · rw [e, Bool.true_and] at w
      rw [w]
      rfl
  · rw [w1, w2, Bool.true_and, gT, gT, gT, way_of]
    obtain ⟨N, n1, n2⟩ := WI.of hP0
    obtain ⟨Mc', c1, c2⟩ := C_slack hP0 hr1 hr hf ht
    obtain ⟨Mm', m1, m2⟩ := M_slack hP0 hr1 hr hf ht n2
    exact ⟨_, Mc', Mm', c1, by rw [n1, bnd_some]; exact m1, WI.done hrel hP0 c2 m2⟩
