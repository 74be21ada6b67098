/-! the reference: planned letters, reading, the run -/
theorem RM.fg {Q : Tab} {M : Mem} (h : RM Q M) (x : Nat) : RM (upN Q 0 1 x) (upM M 0 25 (nI x)) := by
  obtain ⟨h1, h2, h3, h4⟩ := h
  have e : ∀ a b, a ≠ 0 → upN Q 0 1 x a b = Q a b := fun a b ha => if_neg (fun q => ha q.1)
  have e5 : ∀ i b, upN Q 0 1 x (5 + i) b = Q (5 + i) b := fun i b => e _ b (by omega)
  have e0 : upN Q 0 1 x 0 0 = Q 0 0 := rfl
  unfold RM RMl
  simp only [e0, e5, e 1 _ (by decide), e 2 _ (by decide), e 3 _ (by decide), e 4 _ (by decide)]
  simp (disch := omega) only [upM_row, upM_ne, upM_eq]
  exact ⟨h1, rfl, h3, h4⟩
set_option maxHeartbeats 1000000 in
theorem M_planned {r : Nat} {R x : Nat → Nat} {Q : Tab} {M : Mem} (hV : PV R) (hS : SM R x M) (hQ : RM Q M) (hI : INV R r Q) (hr1 : 1 ≤ r) (hr : r ≤ 8) (hfg : Q 0 1 < 2 ^ 16) (hB : Q 0 0 + fb_ct (fun l => decide (plR R l 0 = r)) (R 7) ≤ 212) : ∃ M', f_MM_sendsPlanned M (nI r) = some M' ∧ RM (sPlans R (dlM R x) (R 7) (plR R) (fun _ => true) r Q) M' ∧ FrM M M' := by
  have hn := pv_n hV
  have h7 := hV.2.2.2.2.2.2.2.2.1
  have hok := plR_ok hV
  unfold f_MM_sendsPlanned f_MM_sendsPlanned_J2
  rw [bnd_id]
  unfold f_MM_sendsPlanned_W2 sPlans
  refine loop_enc (fun i s => (nI i, s)) (R 7) (fun l N => RM (itr (fun l Q => sPlan R (dlM R x) r l (plR R l) true Q) l Q) N ∧ FrM M N) _ ?_ ?_ 0 M (Nat.zero_le _) ⟨hQ, FrM.rf⟩
  · rintro l N hl ⟨h1, h2⟩
    left
    have el : itr (fun l Q => sPlan R (dlM R x) r l (plR R l) true Q) (l + 1) Q = sPlan R (dlM R x) r l (plR R l) true (itr (fun l Q => sPlan R (dlM R x) r l (plR R l) true Q) l Q) := rfl
    obtain ⟨g1, g2, g3⟩ := sPlans_sp (dl := dlM R x) (PL := plR R) (al := fun _ => true) hV hI hr l (fun j hj => hok j (by omega))
    have h3 := sPlans_fg (R := R) (dl := dlM R x) (r := r) (PL := plR R) (al := fun _ => true) hfg l (by omega)
    have hSN := hS.fr h2
    obtain ⟨p0, p0', p1, p2, p3, p4, p4', pm, pd⟩ := hok l hl
    have hrow : ∀ i, i < 5 + plR R l 4 → N 1 (10 + 13 * l + i) = nI (plR R l i) := fun i hi => hSN.1.2.1 l i hl hi
    have hr0 := hrow 0 (by omega)
    rw [Nat.add_zero] at hr0
    have hct : fb_ct (fun l => decide (plR R l 0 = r)) (l + 1) ≤ fb_ct (fun l => decide (plR R l 0 = r)) (R 7) := fb_ct_mono _ (by omega)
    rw [fb_ct_succ] at hct
    have h17 : N 1 7 = nI (R 7) := hSN.1.1 7 (by decide)
    rw [el]
    generalize itr (fun l Q => sPlan R (dlM R x) r l (plR R l) true Q) l Q = T at *
    have hmark := M_forged hV hSN.1 h1 g1 hl hr
    have start : f_MM_sendsPlanned_L2 (nI r) (nI l) N = if (true && decide (plR R l 0 = r) && lie R (plR R l 1)) = true then bnd (f_MM_isForged N (nI (10 + 13 * l)) (nI r)) (fun y14 => if (bI y14) = 0 then f_MM_sendsPlanned_J76 N (nI r) (nI l) (nI (10 + 13 * l)) (0 : Int32) else lt1 (upM N 0 25 ((N 0 25) ||| ((1 : Int32) <<< (nI l &&& 31)))) (fun M15 => some (.inl (nI (l + 1), M15)))) else some (.inl (nI (l + 1), N)) := by
      unfold f_MM_sendsPlanned_L2
      rw [h17, if_neg (nI_ge hl (by omega)), j10, j13, pk_mul, nI_add, gIn_nI (by omega) (by decide), nI_clamp (by omega), hr0, ← nI_succ, ← nI_succ]
      by_cases w2 : plR R l 0 = r
      · rw [if_pos (by rw [w2]), gIn_nI (by omega) (by decide), nI_clamp (by omega), hrow 1 (by omega), M_liar (x := x) hV hSN.1 (by omega)]
        cases w3 : lie R (plR R l 1)
        · rw [if_pos (show bI false = 0 from rfl), if_neg (by simp)]
        · rw [if_neg (show ¬ bI true = 0 by decide), if_pos (by simp [w2])]
      · rw [if_neg (fun z => w2 ((nI_eq (by omega) (by omega)).mp z)), if_neg (by simp [w2])]
    unfold sPlan
    by_cases w : (true && decide (plR R l 0 = r) && lie R (plR R l 1)) = true
    · rw [if_pos w]
      have w0 : plR R l 0 = r := by simp only [Bool.and_eq_true, decide_eq_true_eq] at w; exact w.1.2
      rw [if_pos (by simpa using w0)] at hct
      by_cases hf : anyB (fun i => decide (r < T 3 (4 * plR R l (5 + i) + plR R l 3))) (plR R l 4) = true
      · rw [if_pos hf]
        refine ⟨upM N 0 25 (nI (T 0 1 ||| 2 ^ l)), ?_, h1.fg _, h2.up _ (by omega)⟩
        show f_MM_sendsPlanned_L2 (nI r) (nI l) N = _
        rw [start, if_pos w, hmark, hf, bnd_some, if_neg (by decide), lt1_eq, h1.2.1, sh1 l (by omega), fa_or]
      · rw [if_neg hf]
        have hf' : anyB (fun i => decide (r < T 3 (4 * plR R l (5 + i) + plR R l 3))) (plR R l 4) = false := by simpa using hf
        have er : prec (plR R l) = lrec r (plR R l 1) (plR R l 2) (plR R l 3) (plR R l 4) (fun i => plR R l (5 + i)) := by unfold prec; rw [w0]
        obtain ⟨A, a1, a2, a3⟩ := M_layP (M := N) (pl := plR R l) (l := l) (by omega) p4' hrow rfl
        have hrA : ∀ i, i < 5 + plR R l 4 → A 1 (10 + 13 * l + i) = nI (plR R l i) := fun i hi => by rw [a2 1 (by decide)]; exact hrow i hi
        obtain ⟨N', c1, c2, c3, -⟩ := M_sends (x := x) hV (hSN.fr (FrM.told a2)) (h1.told a2) (fun c hc => (g1.2.1 c hc).1) (fun i hi => (g1.1 i hi).1.2.2.2.2.2.2) (by omega) (f := plR R l 1) (t := plR R l 2) (v := plR R l 3) (m := plR R l 4) (mk := fun i => plR R l (5 + i)) hr1 hr (by omega) (by omega) p3 p4' (fun i hi => ⟨a3 i hi, by have := pm i hi; omega⟩)
        refine ⟨N', ?_, by rw [er]; exact c2, h2.tr ((FrM.told a2).tr c3)⟩
        show f_MM_sendsPlanned_L2 (nI r) (nI l) N = _
        rw [start, if_pos w, hmark, hf', bnd_some, if_pos (by decide)]
        unfold f_MM_sendsPlanned_J76
        rw [a1, bnd_some, j1, j2, j3, j4, nI_add, nI_add, nI_add, nI_add, nI_add, gIn_nI (by omega) (by decide), gIn_nI (by omega) (by decide), gIn_nI (by omega) (by decide), gIn_nI (by omega) (by decide), nI_clamp (show 10 + 13 * l + 1 < 2 ^ 31 by omega), nI_clamp (show 10 + 13 * l + 2 < 2 ^ 31 by omega), nI_clamp (show 10 + 13 * l + 3 < 2 ^ 31 by omega), nI_clamp (show 10 + 13 * l + 4 < 2 ^ 31 by omega), hrA 1 (by omega), hrA 2 (by omega), hrA 3 (by omega), hrA 4 (by omega), c1, bnd_some]
    · rw [if_neg w]
      refine ⟨N, ?_, h1, h2⟩
      show f_MM_sendsPlanned_L2 (nI r) (nI l) N = _
      rw [start, if_neg w]
  · rintro N ⟨h1, h2⟩
    refine ⟨N, ?_, h1, h2⟩
    have h17 : N 1 7 = nI (R 7) := (hS.fr h2).1.1 7 (by decide)
    show f_MM_sendsPlanned_L2 (nI r) (nI (R 7)) N = _
    unfold f_MM_sendsPlanned_L2
    rw [h17, if_pos ((nI_leI (by omega) (by omega)).mpr (Nat.le_refl _))]
theorem cmI_eq {x r : Nat} (hr : 1 ≤ r) (hr' : r < 2 ^ 31) (hx : x < 2 ^ 31) : cmI x = nI r ↔ x = r := by
  unfold cmI
  split
  · rename_i h
    constructor
    · intro w
      exact absurd w.symm (nI_neg1 hr')
    · intro w; omega
  · exact nI_eq hx hr'
set_option maxHeartbeats 1000000 in
theorem M_reads {r : Nat} {R x : Nat → Nat} {Q : Tab} {M : Mem} (hV : PV R) (hS : SM R x M) (hQ : RM Q M) (hI : INV R r Q) (hr1 : 1 ≤ r) (hr : r ≤ 8) (hB : Q 0 0 ≤ 212) : ∃ M', f_MM_reads M (nI r) = some M' ∧ RM (sRds R r Q) M' ∧ FrM M M' := by
  have hn := pv_n hV
  have hR1 : R 1 < 8 := by have := hV.1; omega
  have hR3 := hV.2.2.2.1
  unfold f_MM_reads f_MM_reads_J2
  rw [bnd_id]
  unfold f_MM_reads_W2 sRds
  refine loop_enc (fun i s => (nI i, s)) (Q 0 0) (fun k N => RM (itr (fun k Q => sRd R r k Q) k Q) N ∧ FrM M N) _ ?_ ?_ 0 M (Nat.zero_le _) ⟨hQ, FrM.rf⟩
  · rintro k N hk ⟨h1, h2⟩
    left
    have el : itr (fun k Q => sRd R r k Q) (k + 1) Q = sRd R r k (itr (fun k Q => sRd R r k Q) k Q) := rfl
    obtain ⟨g1, g2, g3, g4, g5⟩ := sRds_sp hV hI hr1 hr k (by omega)
    have hSN := hS.fr h2
    have h11 : N 1 1 = nI (R 1) := hSN.1.1 1 (by decide)
    rw [el]
    generalize itr (fun k Q => sRd R r k Q) k Q = T at *
    have hkT : k < T 0 0 := by rw [g2]; exact hk
    obtain ⟨⟨l0, l0', l1, l2, l3, l4, l4'⟩, lm, ld, l5, ls⟩ := g1.1 k hkT
    have lm0 : T (5 + k) 6 < R 0 := (lm 0 (by omega)).1
    obtain ⟨m1, m2, m3, m4, m5, m6, m7, m8⟩ := h1.2.2.1 k hkT
    have m80 := m8 0 (by omega)
    have hcl : 4 * T (5 + k) 2 + T (5 + k) 3 < 32 := by omega
    have hc9 : T 1 (4 * T (5 + k) 2 + T (5 + k) 3) ≤ 99 := by
      have := (g1.2.1 _ hcl).2.2.2.1
      omega
    have hex := (h1.2.2.2 _ hcl).1
    have start : f_MM_reads_L2 (nI r) (nI k) N = if (decide (T (5 + k) 5 = r) && !lie R (T (5 + k) 2) && decide (T (5 + k) 6 = R 1) && decide (r ≤ T (5 + k) 4)) = true then f_MM_reads_J100 N (nI r) (nI k) (nI (4 * T (5 + k) 2 + T (5 + k) 3)) (if T 1 (4 * T (5 + k) 2 + T (5 + k) 3) = 99 then 2 else 1) (nI k) else some (.inl (nI (k + 1), N)) := by
      unfold f_MM_reads_L2
      rw [h1.1, if_neg (nI_ge hkT (by rw [g2]; omega)), gIn_nI (by omega) (by decide), nI_clamp (by omega), m6, ← nI_succ]
      by_cases w1 : T (5 + k) 5 = r
      · rw [if_pos ((cmI_eq hr1 (by omega) (by omega)).mpr w1), m3, M_liar (x := x) hV hSN.1 (by omega)]
        cases w2 : lie R (T (5 + k) 2)
        · rw [if_pos (show bI false = 0 from rfl), j8, pk_mul, gIn_nI (by omega) (by decide), nI_clamp (by omega)]
          rw [Nat.add_zero] at m80
          rw [m80, h11, Nat.add_zero]
          by_cases w3 : T (5 + k) 6 = R 1
          · rw [if_pos (by rw [w3]), m5]
            by_cases w4 : r ≤ T (5 + k) 4
            · rw [if_pos ((nI_leI (by omega) (by omega)).mpr w4), m4, mcell_of, gIn_nI hcl (by decide), nI_clamp (by omega), hex, if_pos (show (decide (T (5 + k) 5 = r) && !false && decide (T (5 + k) 6 = R 1) && decide (r ≤ T (5 + k) 4)) = true by simp [w1, w3, w4])]
              by_cases w5 : T 1 (4 * T (5 + k) 2 + T (5 + k) 3) = 99
              · rw [if_pos ((exI_ne hc9).mpr w5), if_pos w5]
              · rw [if_neg (fun z => w5 ((exI_ne hc9).mp z)), if_neg w5]
            · rw [if_neg (nI_ge (by omega) (by omega)), if_neg (by simp [w4])]
          · rw [if_neg (fun z => w3 ((nI_eq (by omega) (by omega)).mp z)), if_neg (by simp [w3])]
        · rw [if_neg (show ¬ bI true = 0 by decide), if_neg (by simp)]
      · rw [if_neg (fun z => w1 ((cmI_eq hr1 (by omega) (by omega)).mp z)), if_neg (by simp [w1])]
    unfold sRd
    by_cases w : (decide (T (5 + k) 5 = r) && !lie R (T (5 + k) 2) && decide (T (5 + k) 6 = R 1) && decide (r ≤ T (5 + k) 4)) = true
    · rw [if_pos w]
      by_cases w5 : T 1 (4 * T (5 + k) 2 + T (5 + k) 3) = 99
      · rw [if_pos w5]
        refine ⟨upM (upM (upM N 15 k (nI 2)) 17 (4 * T (5 + k) 2 + T (5 + k) 3) (nI r)) 18 (4 * T (5 + k) 2 + T (5 + k) 3) (nI k), ?_, ?_, ((h2.up _ (by omega)).up _ (by omega)).up _ (by omega)⟩
        · show f_MM_reads_L2 (nI r) (nI k) N = _
          rw [start, if_pos w, if_pos w5]
          unfold f_MM_reads_J100
          rw [gIn_nI (by omega) (by decide), nI_clamp (show k < 2 ^ 31 by omega), lt1_eq, gIn_nI hcl (by decide), nI_clamp (show 4 * T (5 + k) 2 + T (5 + k) 3 < 2 ^ 31 by omega), upM_row (by decide), hex, if_pos ((exI_ne hc9).mpr w5), lt1_eq, lt1_eq, ← nI_succ]
          rfl
        · obtain ⟨q1, q2, q3, q4⟩ := h1
          have e5 : ∀ i b, upN (upN (upN T 4 k 2) 1 (4 * T (5 + k) 2 + T (5 + k) 3) r) 2 (4 * T (5 + k) 2 + T (5 + k) 3) (k + 1) (5 + i) b = T (5 + i) b := fun i b => by rw [upN_ne (by omega), upN_ne (by omega), upN_ne (by omega)]
          refine ⟨?_, ?_, fun i hi => ?_, fun c hc => ?_⟩
          · rw [upM_row (by decide), upM_row (by decide), upM_row (by decide), upN_ne (by omega), upN_ne (by omega), upN_ne (by omega)]
            exact q1
          · rw [upM_row (by decide), upM_row (by decide), upM_row (by decide), upN_ne (by omega), upN_ne (by omega), upN_ne (by omega)]
            exact q2
          · rw [upN_ne (by omega), upN_ne (by omega), upN_ne (by omega)] at hi
            obtain ⟨r1, r2, r3, r4, r5, r6, r7, r8⟩ := q3 i hi
            unfold RMl
            simp only [e5]
            simp (disch := omega) only [upM_row, upN_ne]
            refine ⟨r1, r2, r3, r4, r5, r6, ?_, r8⟩
            by_cases e : i = k
            · subst e; rw [upM_eq, upN_eq]
            · rw [upM_ne (fun _ => e), upN_ne (fun _ => e)]
              exact r7
          · obtain ⟨r1, r2, r3⟩ := q4 c hc
            by_cases e : c = 4 * T (5 + k) 2 + T (5 + k) 3
            · rw [← e]
              refine ⟨?_, ?_, ?_⟩
              · rw [upM_row (by decide), upM_eq, upN_ne (by omega), upN_eq]
                unfold exI
                rw [if_neg (by omega)]
              · rw [upM_eq, upN_eq]
                rfl
              · simp (disch := omega) only [upM_row, upN_ne]
                exact r3
            · simp (disch := omega) only [upM_row, upN_ne, upM_ne]
              exact ⟨r1, r2, r3⟩
      · rw [if_neg w5]
        refine ⟨upM N 15 k (nI 1), ?_, ?_, h2.up _ (by omega)⟩
        · show f_MM_reads_L2 (nI r) (nI k) N = _
          rw [start, if_pos w, if_neg w5]
          unfold f_MM_reads_J100
          rw [gIn_nI (by omega) (by decide), nI_clamp (show k < 2 ^ 31 by omega), lt1_eq, gIn_nI hcl (by decide), nI_clamp (show 4 * T (5 + k) 2 + T (5 + k) 3 < 2 ^ 31 by omega), upM_row (by decide), hex, if_neg (fun z => w5 ((exI_ne hc9).mp z)), ← nI_succ]
          rfl
        · obtain ⟨q1, q2, q3, q4⟩ := h1
          refine ⟨?_, ?_, fun i hi => ?_, fun c hc => ?_⟩
          · rw [upM_row (by decide), upN_ne (by omega)]
            exact q1
          · rw [upM_row (by decide), upN_ne (by omega)]
            exact q2
          · rw [upN_ne (by omega)] at hi
            obtain ⟨r1, r2, r3, r4, r5, r6, r7, r8⟩ := q3 i hi
            unfold RMl
            simp (disch := omega) only [upM_row, upN_ne]
            refine ⟨r1, r2, r3, r4, r5, r6, ?_, r8⟩
            by_cases e : i = k
            · subst e; rw [upM_eq, upN_eq]
            · rw [upM_ne (fun _ => e), upN_ne (fun _ => e)]
              exact r7
          · simp (disch := omega) only [upM_row, upN_ne]
            exact q4 c hc
    · rw [if_neg w]
      refine ⟨N, ?_, h1, h2⟩
      show f_MM_reads_L2 (nI r) (nI k) N = _
      rw [start, if_neg w]
  · rintro N ⟨h1, h2⟩
    refine ⟨N, ?_, h1, h2⟩
    obtain ⟨g1, g2, g3, g4, g5⟩ := sRds_sp hV hI hr1 hr (Q 0 0) (Nat.le_refl _)
    show f_MM_reads_L2 (nI r) (nI (Q 0 0)) N = _
    unfold f_MM_reads_L2
    rw [h1.1, g2, if_pos ((nI_leI (by omega) (by omega)).mpr (Nat.le_refl _))]
