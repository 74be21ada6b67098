theorem val_next : ∀ d, d < 4 → (nI d + 1) - (nI d + 1) / 4 * 4 = nI ((d + 1) % 4) := by decide
theorem fstN_is {q : Nat → Bool} {n p : Nat} (hp : p < n) (h : q p = true) (hl : ∀ j, j < p → q j = false) : fstN q n = p := by
  rcases fstN_sp q n with ⟨-, h2⟩ | ⟨h1, h2, h3⟩
  · rw [h2 p hp] at h; cases h
  · rcases Nat.lt_trichotomy p (fstN q n) with w | w | w
    · rw [h3 p w] at h; cases h
    · exact w.symm
    · rw [hl _ w] at h2; cases h2
/-- the reference lays the liars' marks and writes their letter -/
theorem M_lays {R : Nat → Nat} {M : Mem} {h : Nat} (hV : PV R) (hM : PM R (M 1)) (h7 : R 7 < 16) (h1 : R 1 < R 0) (hs : lie R (R 1) = true) (hq : R 3 ≤ 1 + fb_ct (lqB R) (R 0)) (h8 : M 8 0 = nI (R 1)) : ∃ Mr, f_MM_attack_W136 (nI h) ((1 : Int32), (0 : Int32), M) = some (nI (R 3), Mr) ∧ (∀ a, a ≠ 1 → a ≠ 8 → Mr a = M a) ∧ Mr 1 7 = nI (R 7 + 1) ∧ (∀ j, j ≠ 7 → (j < 10 + 13 * R 7 ∨ 10 + 13 * R 7 + 13 ≤ j) → Mr 1 j = M 1 j) ∧ ∀ i, i < 5 + R 3 → Mr 1 (10 + 13 * R 7 + i) = nI (mkRc (R 3) (amk R (R 3 - 1)) h ((R 4 + 1) % 4) (R 3) (amk R) i) := by
  have hn := pv_n hV
  have v3 := hV.2.2.1
  have v3' := hV.2.2.2.1
  have v4 := hV.2.2.2.2.1
  unfold f_MM_attack_W136
  suffices hh : ∃ r, loop (fun t => f_MM_attack_L136 (nI h) t.1 t.2.1 t.2.2) ((fun (i : Nat) (s : Mem) => (nI (1 + fb_ct (lqB R) i), nI i, s)) 0 M) = some r ∧ r.1 = nI (R 3) ∧ (∀ a, a ≠ 1 → a ≠ 8 → r.2 a = M a) ∧ r.2 1 7 = nI (R 7 + 1) ∧ (∀ j, j ≠ 7 → (j < 10 + 13 * R 7 ∨ 10 + 13 * R 7 + 13 ≤ j) → r.2 1 j = M 1 j) ∧ ∀ i, i < 5 + R 3 → r.2 1 (10 + 13 * R 7 + i) = nI (mkRc (R 3) (amk R (R 3 - 1)) h ((R 4 + 1) % 4) (R 3) (amk R) i) by
    obtain ⟨r, r1, r2, r3⟩ := hh
    exact ⟨r.2, by rw [← r2]; exact r1, r3⟩
  have ex : ∀ i (M' : Mem), 1 + fb_ct (lqB R) i = R 3 → (∀ a, a ≠ 8 → M' a = M a) → (∀ k, k < 1 + fb_ct (lqB R) i → M' 8 k = nI (amk R k)) → ∃ r, f_MM_attack_L136 (nI h) (nI (1 + fb_ct (lqB R) i)) (nI i) M' = some (.inr r) ∧ r.1 = nI (R 3) ∧ (∀ a, a ≠ 1 → a ≠ 8 → r.2 a = M a) ∧ r.2 1 7 = nI (R 7 + 1) ∧ (∀ j, j ≠ 7 → (j < 10 + 13 * R 7 ∨ 10 + 13 * R 7 + 13 ≤ j) → r.2 1 j = M 1 j) ∧ ∀ i, i < 5 + R 3 → r.2 1 (10 + 13 * R 7 + i) = nI (mkRc (R 3) (amk R (R 3 - 1)) h ((R 4 + 1) % 4) (R 3) (amk R) i) := by
    intro i M' e g1 g2
    rw [e] at g2 ⊢
    have h13 : M' 1 3 = nI (R 3) := by rw [g1 1 (by decide)]; exact hM.1 3 (by decide)
    have h14 : M' 1 4 = nI (R 4) := by rw [g1 1 (by decide)]; exact hM.1 4 (by decide)
    obtain ⟨Mr, m1, m2, m3, m4, m5, m6, m7, m8, m9, m10⟩ := M_plans (M := M') (n := R 7) (r := R 3) (f := amk R (R 3 - 1)) (t := h) (v := (R 4 + 1) % 4) (m := R 3) (mk := amk R) h7 (by rw [g1 1 (by decide)]; exact hM.1 7 (by decide)) v3' g2
    refine ⟨(nI (R 3), Mr), ?_, rfl, fun a a1 a8 => (m2 a a1).trans (g1 a a8), m3, fun j j1 j2 => (m4 j j1 j2).trans (by rw [g1 1 (by decide)]), fun i hi => ?_⟩
    · unfold f_MM_attack_L136
      rw [h13, if_pos ((nI_leI (by omega) (by omega)).mpr (Nat.le_refl _)), h14, val_next _ v4, show nI (R 3) - 1 = nI (R 3 - 1) from pk_sub (b := 1) v3, gIn_nI (by omega) (by decide), nI_clamp (by omega), g2 _ (by omega), m1, bnd_some]
    · show Mr 1 (10 + 13 * R 7 + i) = _
      rcases (show i = 0 ∨ i = 1 ∨ i = 2 ∨ i = 3 ∨ i = 4 ∨ 5 ≤ i by omega) with rfl | rfl | rfl | rfl | rfl | q
      · exact m5
      · exact m6
      · exact m7
      · exact m8
      · exact m9
      · have := m10 (i - 5) (by omega)
        rw [← mkRc_5 (R 3) (amk R (R 3 - 1)) h ((R 4 + 1) % 4) (R 3) (amk R), show 5 + (i - 5) = i by omega, show 10 + 13 * R 7 + 5 + (i - 5) = 10 + 13 * R 7 + i by omega] at this
        exact this
  refine loop_enc (fun i s => (nI (1 + fb_ct (lqB R) i), nI i, s)) (R 0) (fun i M' => 1 + fb_ct (lqB R) i ≤ R 3 ∧ (∀ a, a ≠ 8 → M' a = M a) ∧ ∀ k, k < 1 + fb_ct (lqB R) i → M' 8 k = nI (amk R k)) _ ?_ ?_ 0 M (Nat.zero_le _) ⟨v3, fun _ _ => rfl, fun k hk => ?_⟩
  · rintro i M' hi ⟨g0, g1, g2⟩
    by_cases w : 1 + fb_ct (lqB R) i = R 3
    · right
      exact ex i M' w g1 g2
    · left
      have hM' : PM R (M' 1) := by rw [g1 1 (by decide)]; exact hM
      have h13 : M' 1 3 = nI (R 3) := hM'.1 3 (by decide)
      have h11 : M' 1 1 = nI (R 1) := hM'.1 1 (by decide)
      show ∃ s', f_MM_attack_L136 (nI h) (nI (1 + fb_ct (lqB R) i)) (nI i) M' = some (.inl (nI (1 + fb_ct (lqB R) (i + 1)), nI (i + 1), s')) ∧ _
      unfold f_MM_attack_L136
      rw [h13, if_neg (nI_ge (by omega) (by omega)), M_liar (x := none0) hV hM' (by omega), h11, ← nI_succ]
      have ct := fb_ct_succ (lqB R) i
      by_cases wq : lqB R i = true
      · have w2 := wq
        unfold lqB at w2
        simp only [Bool.and_eq_true, decide_eq_true_eq] at w2
        rw [wq, if_pos rfl] at ct
        rw [ct]
        refine ⟨upM M' 8 (1 + fb_ct (lqB R) i) (nI i), ?_, by omega, fun a ha => (upM_row ha).trans (g1 a ha), fun k hk => ?_⟩
        · rw [w2.1, gT, if_neg (fun z => w2.2 ((nI_eq (by omega) (by omega)).mp z)), gIn_nI (by omega) (by decide), lt1_eq, nI_clamp (by omega), ← nI_succ, Nat.add_assoc]
        · by_cases e : k = 1 + fb_ct (lqB R) i
          · subst e
            rw [upM_eq, amk_at (by omega) wq]
          · rw [upM_ne (fun _ => e)]
            exact g2 k (by omega)
      · have wq := Bool.eq_false_iff.mpr wq
        rw [wq] at ct
        have ct : fb_ct (lqB R) (i + 1) = fb_ct (lqB R) i := by simpa using ct
        rw [ct]
        refine ⟨M', ?_, g0, g1, g2⟩
        unfold lqB at wq
        cases e : lie R i
        · rfl
        · rw [e] at wq
          simp at wq
          rw [gT, if_pos (by rw [wq])]
  · rintro M' ⟨g0, g1, g2⟩
    exact ex (R 0) M' (by omega) g1 g2
  · have : k = 0 := by
      have hk : k < 1 + 0 := hk
      omega
    subst this
    exact h8
theorem a_attack {Mc Mm : Mem} (h : Rel Mc Mm) : Act (f_MC_attack Mc) (f_MM_attack Mm) := by
  have hrel := h
  obtain ⟨⟨R, hP0⟩, -⟩ := h
  have hP0' := hP0
  obtain ⟨hV, hP, hM, hC, h28, hk⟩ := hP0'
  have hn := pv_n hV
  have v0 := hV.1
  have v3 := hV.2.2.1
  have v3' := hV.2.2.2.1
  have v4 := hV.2.2.2.2.1
  have v6 := hV.2.2.2.2.2.2.2.1
  have h10 : Mm 1 0 = nI (R 0) := hM.1 0 (by decide)
  have h11 : Mm 1 1 = nI (R 1) := hM.1 1 (by decide)
  have h13 : Mm 1 3 = nI (R 3) := hM.1 3 (by decide)
  have h16 : Mm 1 6 = nI (R 6) := hM.1 6 (by decide)
  have c10 : Mc 1 0 = nI (R 1) := hP.2.2.2.2.2.1 0 (by decide)
  have c12 : Mc 1 2 = nI (R 3) := hP.2.2.2.2.2.1 2 (by decide)
  obtain ⟨y, y1, y2⟩ := M_hon24 hV hM
  unfold f_MC_attack f_MM_attack
  rw [h10] at y1 ⊢
  rw [hP.1]
  by_cases w0 : R 0 = 0
  · rw [w0, if_pos (show nI 0 = (0 : Int32) from rfl), if_pos (show nI 0 = (0 : Int32) from rfl)]
    exact Act.no hrel rfl rfl
  · have n0 : ¬ nI (R 0) = 0 := fun z => w0 ((nI_eq (b := 0) (by omega) (by omega)).mp z)
    have h1 : R 1 < R 0 := by omega
    have bl : f_Int_bitCount (nI (R 6)) = nI (fb_ct (lie R) (R 0)) := bc_n v6 hn
    have bh : f_Int_bitCount (nI (hnN R)) = nI (fb_ct (fun p => !lie R p) (R 0)) := by
      rw [bc_n (s := hnN R) (orN_lt _ _) hn]
      congr 1
      exact fb_ct_cong (fun k hk => by unfold hnN; rw [orN_bit, decide_eq_true hk, Bool.true_and])
    have ll := fb_ct_le (lie R) (R 0)
    have lh := fb_ct_le (fun p => !lie R p) (R 0)
    rw [if_neg n0, if_neg n0, hP.2.1, bl, C_honestN hV hP.1 hP.2.1, bh, c12]
    unfold f_MM_attack_J24
    rw [y1, bnd_some, h11, M_liar (x := none0) hV hM (by omega), h16, bl, h13]
    unfold f_MC_attack_J54 f_MC_attack_J55
    rw [c10, C_isLiar hV hP.1 hP.2.1 (by omega)]
    by_cases wA : fb_ct (lie R) (R 0) < R 3
    · rw [if_pos (nI_lt wA (by omega)), if_pos rfl]
      refine Act.no hrel rfl ?_
      cases lie R (R 1)
      · rfl
      · rw [gT, if_pos (nI_lt wA (by omega))]
    · rw [if_neg (nI_nlt (by omega) (by omega))]
      by_cases wB : fb_ct (fun p => !lie R p) (R 0) < 2
      · rw [if_pos (show nI (fb_ct (fun p => !lie R p) (R 0)) < (2 : Int32) from nI_lt (b := 2) wB (by decide)), if_pos rfl]
        refine Act.no hrel rfl ?_
        cases lie R (R 1)
        · rfl
        · rw [gT, if_neg (nI_nlt (by omega) (by omega)), if_neg (show ¬ (2 : Int32) ≤ nI (fb_ct (fun p => !lie R p) (R 0)) from nI_ge (b := 2) wB (by decide))]
      · rw [if_neg (show ¬ nI (fb_ct (fun p => !lie R p) (R 0)) < (2 : Int32) from nI_nlt (b := 2) (by omega) (by omega)), if_neg (show ¬ (1 : Int32) = 0 by decide)]
        cases es : lie R (R 1)
        · exact Act.no hrel rfl rfl
        · rw [gT, gT, if_neg (nI_nlt (by omega) (by omega)), if_pos (show (2 : Int32) ≤ nI (fb_ct (fun p => !lie R p) (R 0)) from (nI_leI (a := 2) (by decide) (by omega)).mpr (by omega))]
          have hq : R 3 ≤ 1 + fb_ct (lqB R) (R 0) := by rw [lq_ct h1 es]; omega
          have y2 := y2 (by omega)
          obtain ⟨lh1, lh2, lh3⟩ : fstN (fun p => !lie R p) (R 0) < R 0 ∧ lie R (fstN (fun p => !lie R p) (R 0)) = false ∧ ∀ j, j < fstN (fun p => !lie R p) (R 0) → lie R j = true := by
            rcases fstN_sp (fun p => !lie R p) (R 0) with ⟨-, q2⟩ | ⟨q1, q2, q3⟩
            · have := fb_ct_zero.mpr q2
              omega
            · exact ⟨q1, by simpa using q2, fun j hj => by simpa using q3 j hj⟩
          obtain ⟨lh, hlh⟩ : ∃ lh, lh = fstN (fun p => !lie R p) (R 0) := ⟨_, rfl⟩
          rw [← hlh] at y2 lh1 lh2 lh3
          have hfs : fstN (fun p => (hnN R).testBit p) 8 = lh := fstN_is (by omega) (by unfold hnN; rw [orN_bit, decide_eq_true lh1, lh2]; rfl) (fun j hj => by unfold hnN; rw [orN_bit, lh3 j hj]; simp)
          obtain ⟨ak1, ak2, -, -⟩ := amk_ok hn h1 es (k := R 3 - 1) (by omega)
          obtain ⟨S, hS⟩ : ∃ S, S = setR R 7 0 := ⟨_, rfl⟩
          have S7 : S 7 = 0 := by rw [hS]; exact setR_eq _ _ _
          have So : ∀ j, j ≠ 7 → S j = R j := fun j hj => by rw [hS]; exact setR_ne hj
          have eamk : amk S = amk R := by rw [hS]; rfl
          have hVS : PV S := by rw [hS]; exact z7_PV hV
          obtain ⟨rc, hrc⟩ : ∃ rc, rc = mkRc (R 3) (amk R (R 3 - 1)) lh ((R 4 + 1) % 4) (R 3) (amk R) := ⟨_, rfl⟩
          have rc0 : rc 0 = R 3 := by rw [hrc]; rfl
          have rc1 : rc 1 = amk R (R 3 - 1) := by rw [hrc]; rfl
          have rc2 : rc 2 = lh := by rw [hrc]; rfl
          have rc3 : rc 3 = (R 4 + 1) % 4 := by rw [hrc]; rfl
          have rc4 : rc 4 = R 3 := by rw [hrc]; rfl
          have rc5 : ∀ i, rc (5 + i) = amk R i := fun i => by rw [hrc, mkRc_5]
          have hok : rcOK S rc := by
            refine ⟨?_, ?_, ?_, ?_, fun i hi => ?_, fun i j hij hj => ?_⟩
            · rw [rc0, rc1, rc2, So 0 (by decide)]
              exact ⟨v3, v3', ak1, lh1, fun z => by rw [z, lh2] at ak2; cases ak2⟩
            · rw [rc3]; omega
            · rw [rc4]; omega
            · rw [rc4]; omega
            · rw [rc4] at hi
              rw [rc5, So 0 (by decide)]
              exact (amk_ok hn h1 es (by omega)).1
            · rw [rc4] at hj
              rw [rc5, rc5]
              exact amk_ne hn h1 es hij (by omega)
          obtain ⟨Mc1, Mm1, r1, r2, r3, r4, r5, r6⟩ := act_fin8 (R' := apR S rc) hrel hP0
          have hPc : PC R Mc1 0 := hP.cg (fun a _ q => r3 a (by omega))
          obtain ⟨c, c1, c2⟩ := C_liarsChain hV hPc h1 es hq
          have hPS : PC S (upM Mc1 0 2 0) 0 := by rw [hS]; exact z7_PC hPc
          obtain ⟨Mc2, p1, p2, p3⟩ := apR_PC (rc := rc) (c := c) hVS hPS (by omega) (by omega) (by rw [rc4]; exact c2.congr (fun i _ => rc5 i))
          have hM1 : PM R (Mm1 1) := by rw [r4 1 (by decide) (by decide)]; exact hM
          have hMS : PM S (upM (upM Mm1 1 7 0) 8 0 (upM Mm1 1 7 0 1 1) 1) := by
            rw [upM_row (by decide), hS]
            exact z7_PM hM1 upM_eq (fun j hj => upM_ne (fun _ => hj))
          have e11 : upM Mm1 1 7 0 1 1 = nI (S 1) := by rw [upM_ne (by omega), So 1 (by decide)]; exact hM1.1 1 (by decide)
          have hq' : S 3 ≤ 1 + fb_ct (lqB S) (S 0) := by rw [hS]; exact hq
          have es' : lie S (S 1) = true := by rw [hS]; exact es
          obtain ⟨Mr, m1, m2, m3, m4, m5⟩ := M_lays (h := lh) hVS hMS (by omega) (by rw [So 1 (by decide), So 0 (by decide)]; exact h1) es' hq' (by rw [upM_eq, e11])
          rw [eamk, So 3 (by decide), So 4 (by decide), ← hrc] at m5
          have hM3 : PM (apR S rc) (Mr 1) := apR_PM hVS (by omega) (by omega) hMS m3 (fun i hi => m5 i (by omega)) m4
          obtain ⟨Mc3, q1, q2, q3⟩ := r6 Mc2 Mr (fun a ha => (p2 a ha).trans (upM_row (by omega))) (fun a a1 a8 => by rw [m2 a a1 a8, upM_row a8, upM_row a1]) (apR_PV hVS (by omega) hok) p3 hM3
          refine ⟨nI (R 3), Mc3, Mr, ?_, ?_, q2⟩
          · have e13 : upM Mc1 0 2 0 1 3 = nI (R 4) := by rw [upM_row (by decide)]; exact hPc.2.2.2.2.2.1 3 (by decide)
            rw [rc0, rc1, rc2, rc3] at p1
            rw [r1, bnd_some, c1, bnd_some, C_honestN hV hPc.1 hPc.2.1, C_least (s := hnN R) (orN_lt9 _ hn) (by rw [hfs]; omega), hfs, bnd_some, lt1_eq, e13, val_next _ v4, show nI (R 3) - 1 = nI (R 3 - 1) from pk_sub (b := 1) v3, Chn_mark c2 (by omega), way_of, p1, bnd_some, q1, bnd_some, Chn_size c2]
          · rw [So 3 (by decide)] at m1
            rw [r2, bnd_some, lt1_eq, lt1_eq, y2]
            unfold f_MM_attack_J136
            rw [bnd_id]
            exact m1
