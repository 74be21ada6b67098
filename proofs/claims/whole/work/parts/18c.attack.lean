/-! attack -/
theorem bc_256 : ∀ s, s < 256 → f_Int_bitCount (nI s) = nI (fb_ct (fun p => s.testBit p) 8) := by decide +kernel
theorem bc_n {s n : Nat} (hs : s < 2 ^ n) (hn : n ≤ 8) : f_Int_bitCount (nI s) = nI (fb_ct (fun p => s.testBit p) n) := by
  have : s < 256 := Nat.lt_of_lt_of_le hs (Nat.pow_le_pow_right (n := 2) (j := 8) (by decide) hn)
  rw [bc_256 s this]
  congr 1
  have e := fb_ct_split (fun p => s.testBit p) n (8 - n)
  rw [show n + (8 - n) = 8 by omega] at e
  have z : fb_ct (fun k => s.testBit (n + k)) (8 - n) = 0 := fb_ct_zero.mpr (fun k _ => Nat.testBit_lt_two_pow (Nat.lt_of_lt_of_le hs (Nat.pow_le_pow_right (by decide) (by omega))))
  rw [e, z, Nat.add_zero]
/-- the j-th one (from 0) with the property -/
def kth (q : Nat → Bool) (j : Nat) : Nat := fstN (fun p => q p && decide (fb_ct q p = j)) 8
theorem ct_inj {q : Nat → Bool} {a b : Nat} (ha : q a = true) (hb : q b = true) (e : fb_ct q a = fb_ct q b) : a = b := by
  have key : ∀ a b, q a = true → a < b → fb_ct q a < fb_ct q b := fun a b ha hab => by
    have h1 := fb_ct_succ q a
    have h2 := fb_ct_mono q (m := a + 1) (n := b) hab
    rw [ha, if_pos rfl] at h1
    omega
  rcases Nat.lt_trichotomy a b with w | w | w
  · have := key a b ha w; omega
  · exact w
  · have := key b a hb w; omega
theorem kth_at {q : Nat → Bool} {p : Nat} (hp : p < 8) (h : q p = true) : kth q (fb_ct q p) = p := by
  unfold kth
  rcases fstN_sp (fun x => q x && decide (fb_ct q x = fb_ct q p)) 8 with ⟨-, h2⟩ | ⟨h1, h2, -⟩
  · have := h2 p hp
    rw [h] at this
    simp at this
  · simp only [Bool.and_eq_true, decide_eq_true_eq] at h2
    exact ct_inj h2.1 h h2.2
theorem ct_ex {q : Nat → Bool} : ∀ {n j : Nat}, j < fb_ct q n → ∃ p, p < n ∧ q p = true ∧ fb_ct q p = j := by
  intro n
  induction n with
  | zero => intro j h; exact absurd h (Nat.not_lt_zero j)
  | succ n ih =>
    intro j h
    rw [fb_ct_succ] at h
    by_cases w : j < fb_ct q n
    · obtain ⟨p, a, b, c⟩ := ih w
      exact ⟨p, by omega, b, c⟩
    · cases e : q n
      · rw [e] at h
        simp at h
        omega
      · rw [e, if_pos rfl] at h
        exact ⟨n, by omega, e, by omega⟩
def lqB (R : Nat → Nat) (p : Nat) : Bool := lie R p && decide (p ≠ R 1)
def amk (R : Nat → Nat) (k : Nat) : Nat := if k = 0 then R 1 else kth (lqB R) (k - 1)
theorem amk_at {R : Nat → Nat} {p : Nat} (hp : p < 8) (h : lqB R p = true) : amk R (1 + fb_ct (lqB R) p) = p := by
  unfold amk
  rw [if_neg (by omega), show 1 + fb_ct (lqB R) p - 1 = fb_ct (lqB R) p by omega]
  exact kth_at hp h
theorem lq_ct {R : Nat → Nat} (h1 : R 1 < R 0) (hs : lie R (R 1) = true) : 1 + fb_ct (lqB R) (R 0) = fb_ct (lie R) (R 0) := by
  have e := fb_ct_upd (lie R) false h1
  rw [hs, if_pos rfl, if_neg (show ¬ false = true by decide)] at e
  have e2 : fb_ct (lqB R) (R 0) = fb_ct (fun k => if k = R 1 then false else lie R k) (R 0) := fb_ct_cong (fun k _ => by
    unfold lqB
    by_cases w : k = R 1 <;> simp [w])
  omega
theorem amk_ok {R : Nat → Nat} (hn : R 0 ≤ 8) (h1 : R 1 < R 0) (hs : lie R (R 1) = true) {k : Nat} (hk : k < 1 + fb_ct (lqB R) (R 0)) : amk R k < R 0 ∧ lie R (amk R k) = true ∧ (k = 0 → amk R k = R 1) ∧ (k ≠ 0 → lqB R (amk R k) = true ∧ fb_ct (lqB R) (amk R k) = k - 1) := by
  by_cases w : k = 0
  · subst w
    have e : amk R 0 = R 1 := if_pos rfl
    rw [e]
    exact ⟨h1, hs, fun _ => rfl, fun z => absurd rfl z⟩
  · obtain ⟨p, a, b, c⟩ := ct_ex (q := lqB R) (j := k - 1) (n := R 0) (by omega)
    have e : amk R k = p := by
      have := amk_at (R := R) (p := p) (by omega) b
      rw [c, show 1 + (k - 1) = k by omega] at this
      exact this
    rw [e]
    refine ⟨a, ?_, fun z => absurd z w, fun _ => ⟨b, c⟩⟩
    unfold lqB at b
    simp only [Bool.and_eq_true] at b
    exact b.1
theorem amk_ne {R : Nat → Nat} (hn : R 0 ≤ 8) (h1 : R 1 < R 0) (hs : lie R (R 1) = true) {i j : Nat} (hij : i < j) (hj : j < 1 + fb_ct (lqB R) (R 0)) : amk R i ≠ amk R j := by
  obtain ⟨-, -, a3, a4⟩ := amk_ok hn h1 hs (k := i) (by omega)
  obtain ⟨-, -, -, b4⟩ := amk_ok hn h1 hs hj
  obtain ⟨c1, c2⟩ := b4 (by omega)
  intro e
  by_cases w : i = 0
  · rw [← e, a3 w] at c1
    unfold lqB at c1
    simp at c1
  · obtain ⟨d1, d2⟩ := a4 w
    rw [e] at d2
    omega
/-- no letter -/
theorem z7_PV {R : Nat → Nat} (hV : PV R) : PV (setR R 7 0) := by
  obtain ⟨v0, v2, v3, v3', v4, v5, v5', v6, v7, v8, v9, va, vb, vc, vd, ve⟩ := hV
  have e : ∀ j, j ≠ 7 → setR R 7 0 j = R j := fun j h => setR_ne h
  refine ⟨v0, v2, v3, v3', v4, v5, v5', v6, Nat.zero_le _, v8, v9, fun l hl => absurd hl (Nat.not_lt_zero l), fun l hl => (vb l hl).cg rfl (fun j _ => e _ (by omega)), fun l hl => ?_, fun i j hij hj => ?_, fun i j hij hj => ?_⟩
  · obtain ⟨a, b, c⟩ := vc l hl
    rw [e (254 + 4 * l + 3) (by omega)]
    exact ⟨a.cg rfl (fun j _ => e _ (by omega)), b, c⟩
  · rw [way_cg (R' := setR R 7 0) (R := R) (q := 218 + 3 * i) (fun m _ => e _ (by omega)), way_cg (R' := setR R 7 0) (R := R) (q := 218 + 3 * j) (fun m _ => e _ (by omega))]
    exact vd i j hij hj
  · rw [way_cg (R' := setR R 7 0) (R := R) (q := 254 + 4 * i) (fun m _ => e _ (by omega)), way_cg (R' := setR R 7 0) (R := R) (q := 254 + 4 * j) (fun m _ => e _ (by omega))]
    exact ve i j hij hj
theorem z7_PC {R : Nat → Nat} {M : Mem} (hP : PC R M 0) : PC (setR R 7 0) (upM M 0 2 0) 0 := by
  obtain ⟨p0, p1, p2, p3, p4, p5, p6, p7, p8⟩ := hP
  have e : ∀ j, j ≠ 7 → setR R 7 0 j = R j := fun j h => setR_ne h
  refine ⟨(upM_ne (by omega)).trans p0, (upM_ne (by omega)).trans p1, upM_eq, (upM_ne (by omega)).trans p3, (upM_ne (by omega)).trans p4, fun i hi => ?_, fun l hl => absurd hl (Nat.not_lt_zero l), fun l hl => ?_, fun l hl => ?_⟩
  · rw [upM_row (by decide), e _ (by omega)]; exact p5 i hi
  · rw [upM_row (by decide), way_cg (R' := setR R 7 0) (R := R) (q := 218 + 3 * l) (fun m _ => e _ (by omega))]; exact p7 l hl
  · rw [upM_row (by decide), upM_row (by decide), way_cg (R' := setR R 7 0) (R := R) (q := 254 + 4 * l) (fun m _ => e _ (by omega)), e (254 + 4 * l + 3) (by omega)]; exact p8 l hl
theorem z7_PM {R : Nat → Nat} {m m' : Nat → Int32} (hM : PM R m) (e7 : m' 7 = 0) (er : ∀ j, j ≠ 7 → m' j = m j) : PM (setR R 7 0) m' := by
  obtain ⟨p0, p1, p2, p3⟩ := hM
  have e : ∀ j, j ≠ 7 → setR R 7 0 j = R j := fun j h => setR_ne h
  refine ⟨fun i hi => ?_, fun l i hl => absurd hl (Nat.not_lt_zero l), fun l i hl hi => ?_, fun l i hl hi => ?_⟩
  · by_cases w : i = 7
    · subst w; rw [e7]; rfl
    · rw [er i w, e i w]; exact p0 i hi
  · rw [er _ (by omega), e _ (by omega)]; exact p2 l i hl hi
  · rw [er _ (by omega), e _ (by omega)]; exact p3 l i hl hi
theorem C_liarsChain {R : Nat → Nat} {M : Mem} (hV : PV R) (hP : PC R M 0) (h1 : R 1 < R 0) (hs : lie R (R 1) = true) (hq : R 3 ≤ 1 + fb_ct (lqB R) (R 0)) : ∃ c, f_Play_liarsChain 0 M (nI (R 3)) = some c ∧ Chn c (R 3) (amk R) := by
  have hn := pv_n hV
  have v3 := hV.2.2.1
  have v3' := hV.2.2.2.1
  have s1 : M (0 + 1) 0 = nI (R 1) := hP.2.2.2.2.2.1 0 (by decide)
  unfold f_Play_liarsChain f_Play_liarsChain_J16
  rw [bnd_id, s1]
  unfold f_Play_liarsChain_W16
  have st0 : Chn (f_Chain_with 0 (nI (R 1))) 1 (amk R) := Chn_with (m := 0) (f := amk R) (Chn_0 _) (by decide) (by omega) (fun _ _ => rfl) (if_pos rfl)
  suffices hh : ∃ c, loop (fun t => f_Play_liarsChain_L16 0 M (nI (R 3)) (nI (R 1)) t.1 t.2) ((fun (i : Nat) (s : Int32) => (s, nI i)) 0 (f_Chain_with 0 (nI (R 1)))) = some c ∧ Chn c (R 3) (amk R) from hh
  refine loop_enc (fun i s => (s, nI i)) (R 0) (fun i c => Chn c (min (R 3) (1 + fb_ct (lqB R) i)) (amk R)) _ ?_ ?_ 0 _ (Nat.zero_le _) (by rw [show min (R 3) (1 + fb_ct (lqB R) 0) = 1 from by show min (R 3) (1 + 0) = 1; omega]; exact st0)
  · intro i c hi g
    left
    show ∃ s', f_Play_liarsChain_L16 0 M (nI (R 3)) (nI (R 1)) c (nI i) = some (.inl (s', nI (i + 1))) ∧ _
    unfold f_Play_liarsChain_L16
    rw [hP.1, if_neg (nI_ge hi (by omega)), C_isLiar hV hP.1 hP.2.1 (by omega), ← nI_succ, fb_ct_succ]
    by_cases w : lqB R i = true
    · rw [w, if_pos rfl]
      have w2 := w
      unfold lqB at w2
      simp only [Bool.and_eq_true, decide_eq_true_eq] at w2
      rw [w2.1, gT, if_neg (fun z => w2.2 ((nI_eq (by omega) (by omega)).mp z)), Chn_size g]
      by_cases w3 : R 3 ≤ min (R 3) (1 + fb_ct (lqB R) i)
      · rw [if_pos ((nI_leI (by omega) (by omega)).mpr w3)]
        refine ⟨c, rfl, ?_⟩
        rw [show min (R 3) (1 + (fb_ct (lqB R) i + 1)) = min (R 3) (1 + fb_ct (lqB R) i) by omega]
        exact g
      · rw [if_neg (nI_ge (by omega) (by omega))]
        have em : min (R 3) (1 + fb_ct (lqB R) i) = 1 + fb_ct (lqB R) i := by omega
        rw [em] at g
        refine ⟨_, rfl, ?_⟩
        rw [show min (R 3) (1 + (fb_ct (lqB R) i + 1)) = 1 + fb_ct (lqB R) i + 1 by omega]
        exact Chn_with g (by omega) (by omega) (fun _ _ => rfl) (amk_at (by omega) w)
    · have w := Bool.eq_false_iff.mpr w
      rw [w]
      refine ⟨c, ?_, by simpa using g⟩
      unfold lqB at w
      cases e : lie R i
      · rfl
      · rw [e] at w
        simp at w
        rw [gT, if_pos (by rw [w])]
  · intro c g
    refine ⟨c, ?_, ?_⟩
    · show f_Play_liarsChain_L16 0 M (nI (R 3)) (nI (R 1)) c (nI (R 0)) = _
      unfold f_Play_liarsChain_L16
      rw [hP.1, if_pos ((nI_leI (by omega) (by omega)).mpr (Nat.le_refl _))]
    · rw [show min (R 3) (1 + fb_ct (lqB R) (R 0)) = R 3 by omega] at g
      exact g
theorem C_least {s : Nat} (hs : s < 256) (h : fstN (fun p => s.testBit p) 8 < 8) : f_MC_leastOf (nI s) = some (nI (fstN (fun p => s.testBit p) 8)) := by
  unfold f_MC_leastOf f_MC_leastOf_J2
  rw [bnd_id]
  unfold f_MC_leastOf_W2
  have st : ∀ i, i < 8 → f_MC_leastOf_L2 (nI s) (nI i) = if s.testBit i = true then some (.inr (nI i)) else some (.inl (nI (i + 1))) := fun i hi => by
    unfold f_MC_leastOf_L2
    rw [show (8 : Int32) = nI 8 from rfl, if_neg (nI_ge hi (by decide)), ← nI_succ]
    cases e : s.testBit i
    · rw [if_pos ((bit_0 (by omega) (by omega)).mpr e)]; rfl
    · rw [if_neg (fun z => by rw [bit_0 (by omega) (by omega), e] at z; cases z)]; rfl
  refine (loop_first (fun i => nI i) (fun p => s.testBit p) 8 (fun i => nI i) (0 : Int32) (fun i hi hb => by rw [st i hi, hb]; rfl) (fun i hi hb => by rw [st i hi, if_pos hb]) ?_).trans (by rw [if_pos h])
  unfold f_MC_leastOf_L2
  rw [if_pos (by decide)]
/-- how many honest there are, and the least of them -/
theorem M_hon24 {R : Nat → Nat} {M : Mem} (hV : PV R) (hM : PM R (M 1)) : ∃ y, f_MM_attack_W24 M ((-1 : Int32), (0 : Int32), (M 1 0) - 1) = some (y, nI (fb_ct (fun p => !lie R p) (R 0))) ∧ (0 < fb_ct (fun p => !lie R p) (R 0) → y = nI (fstN (fun p => !lie R p) (R 0))) := by
  have hn := pv_n hV
  have h0 : M 1 0 = nI (R 0) := hM.1 0 (by decide)
  obtain ⟨q, hq⟩ : ∃ q : Nat → Bool, q = fun p => !lie R p := ⟨_, rfl⟩
  rw [← hq, h0]
  unfold f_MM_attack_W24
  suffices hh : ∃ r, loop (fun t => f_MM_attack_L24 M t.1 t.2.1 t.2.2) ((fun (i : Nat) (s : Int32) => (s, nI (fb_ct q (R 0) - fb_ct q (R 0 - i)), nI (R 0 - i) - 1)) 0 (-1)) = some r ∧ r.2 = nI (fb_ct q (R 0)) ∧ (0 < fb_ct q (R 0) → r.1 = nI (fstN q (R 0))) by
    obtain ⟨r, r1, r2, r3⟩ := hh
    refine ⟨r.1, ?_, r3⟩
    rw [← r2]
    refine Eq.trans ?_ r1
    show loop _ _ = loop _ (-1, nI (fb_ct q (R 0) - fb_ct q (R 0)), nI (R 0) - 1)
    rw [Nat.sub_self]
    rfl
  refine loop_enc (fun i s => (s, nI (fb_ct q (R 0) - fb_ct q (R 0 - i)), nI (R 0 - i) - 1)) (R 0) (fun i y => ((∀ p, R 0 - i ≤ p → p < R 0 → q p = false) ∧ y = -1) ∨ ∃ p, R 0 - i ≤ p ∧ p < R 0 ∧ q p = true ∧ y = nI p ∧ ∀ p', R 0 - i ≤ p' → p' < p → q p' = false) _ ?_ ?_ 0 (-1) (Nat.zero_le _) (Or.inl ⟨fun p a b => by omega, rfl⟩)
  · intro i y hi g
    left
    show ∃ s', f_MM_attack_L24 M y (nI (fb_ct q (R 0) - fb_ct q (R 0 - i))) (nI (R 0 - i) - 1) = some (.inl (s', nI (fb_ct q (R 0) - fb_ct q (R 0 - (i + 1))), nI (R 0 - (i + 1)) - 1)) ∧ _
    have eq1 : q (R 0 - (i + 1)) = !lie R (R 0 - (i + 1)) := by rw [hq]
    have ct := fb_ct_succ q (R 0 - (i + 1))
    rw [show R 0 - (i + 1) + 1 = R 0 - i by omega] at ct
    have mono := fb_ct_mono q (m := R 0 - i) (n := R 0) (by omega)
    unfold f_MM_attack_L24 f_MM_attack_J41 f_MM_attack_J56
    rw [down_step hi, if_neg (show ¬ nI (R 0 - (i + 1)) < 0 from nI_pos (by omega)), M_liar (x := none0) hV hM (by omega), down_next]
    cases e : lie R (R 0 - (i + 1))
    · rw [e] at eq1
      rw [eq1] at ct
      simp only [Bool.not_false, if_true] at ct
      refine ⟨nI (R 0 - (i + 1)), ?_, Or.inr ⟨R 0 - (i + 1), Nat.le_refl _, by omega, eq1, rfl, fun p' a b => by omega⟩⟩
      rw [gF, gF, show f_MM_truth 1 = nI 1 from rfl, nI_add, show fb_ct q (R 0) - fb_ct q (R 0 - i) + 1 = fb_ct q (R 0) - fb_ct q (R 0 - (i + 1)) by omega]
    · rw [e] at eq1
      rw [eq1] at ct
      simp only [Bool.not_true] at ct
      refine ⟨y, ?_, ?_⟩
      · rw [gT, gT, show f_MM_truth 0 = nI 0 from rfl, nI_add, show fb_ct q (R 0) - fb_ct q (R 0 - i) + 0 = fb_ct q (R 0) - fb_ct q (R 0 - (i + 1)) by simp at ct; omega]
      · have eq1 : q (R 0 - (i + 1)) = false := eq1
        have ext : ∀ p', R 0 - (i + 1) ≤ p' → ¬ R 0 - i ≤ p' → q p' = false := fun p' a b => by
          rw [show p' = R 0 - (i + 1) by omega]; exact eq1
        rcases g with ⟨g1, g2⟩ | ⟨p, g1, g2, g3, g4, g5⟩
        · refine Or.inl ⟨fun p a b => ?_, g2⟩
          by_cases w : R 0 - i ≤ p
          · exact g1 p w b
          · exact ext p a w
        · refine Or.inr ⟨p, by omega, g2, g3, g4, fun p' a b => ?_⟩
          by_cases w : R 0 - i ≤ p'
          · exact g5 p' w b
          · exact ext p' a w
  · intro y g
    rw [Nat.sub_self] at g
    refine ⟨(y, nI (fb_ct q (R 0))), ?_, rfl, fun hp => ?_⟩
    · show f_MM_attack_L24 M y (nI (fb_ct q (R 0) - fb_ct q (R 0 - R 0))) (nI (R 0 - R 0) - 1) = _
      unfold f_MM_attack_L24
      rw [if_pos (neg_1 _), Nat.sub_self]
      rfl
    · rcases g with ⟨g1, g2⟩ | ⟨p, g1, g2, g3, g4, g5⟩
      · obtain ⟨k, k1, k2⟩ := fb_ct_pos.mp hp
        rw [g1 k (Nat.zero_le _) k1] at k2
        cases k2
      · rw [g4]
        show nI p = nI (fstN q (R 0))
        refine congrArg nI ?_
        rcases fstN_sp q (R 0) with ⟨-, h2⟩ | ⟨h1, h2, h3⟩
        · rw [h2 p g2] at g3; cases g3
        · rcases Nat.lt_trichotomy p (fstN q (R 0)) with w | w | w
          · rw [h3 p w] at g3; cases g3
          · exact w
          · rw [g5 _ (Nat.zero_le _) w] at h2; cases h2
