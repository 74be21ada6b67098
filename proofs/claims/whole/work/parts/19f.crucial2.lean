def cpB (R : Nat → Nat) (r : Nat) (x2 : Int32) (w : Nat) : Bool := crB R r w && decide (nI (fb_ct (crB R r) w) = x2)
def crA (R : Nat → Nat) (r : Nat) (x2 : Int32) : Int32 := if fstN (cpB R r x2) 64 < 64 then nI (fstN (cpB R r x2) 64) else if x2 = -1 then nI (fb_ct (crB R r) 64) else -2
theorem C_crucial {R : Nat → Nat} {Mc Mm : Mem} (hP0 : RelP R Mc Mm) {r : Nat} (hr1 : 1 ≤ r) (hr : r ≤ R 3) (x2 : Int32) : ∃ Mc', f_MC_crucial_J40 Mc (nI r) x2 0 0 = some (crA R r x2, Mc') ∧ CI Mc Mc' := by
  unfold f_MC_crucial_J40
  suffices hh : ∃ e, loop (fun t' => f_MC_crucial_L40 (nI r) x2 t'.1 t'.2.1 t'.2.2) ((fun (i : Nat) (s : Mem) => (nI (fb_ct (crB R r) i), nI i, s)) 0 Mc) = some e ∧ ((fstN (cpB R r x2) 64 < 64 ∧ ∃ M', e = .inr (nI (fstN (cpB R r x2) 64), M') ∧ CI Mc M') ∨ (¬ fstN (cpB R r x2) 64 < 64 ∧ ∃ M', e = .inl (nI (fb_ct (crB R r) 64), M') ∧ CI Mc M')) by
    obtain ⟨e, e1, e2⟩ := hh
    have e1 : f_MC_crucial_W40 (nI r) x2 (0, 0, Mc) = some e := e1
    rw [e1, bnd_some]
    unfold crA
    rcases e2 with ⟨h8, M', rfl, hM'⟩ | ⟨h8, M', rfl, hM'⟩
    · rw [if_pos h8]
      exact ⟨M', rfl, hM'⟩
    · rw [if_neg h8]
      refine ⟨M', ?_, hM'⟩
      show (if x2 = -1 then some (nI (fb_ct (crB R r) 64), M') else some ((-2 : Int32), M')) = _
      by_cases w : x2 = -1
      · rw [if_pos w, if_pos w]
      · rw [if_neg w, if_neg w]
  refine loop_enc (fun i s => (nI (fb_ct (crB R r) i), nI i, s)) 64 (fun i M => (∀ j, j < i → cpB R r x2 j = false) ∧ CI Mc M) _ ?_ ?_ 0 Mc (Nat.zero_le _) ⟨fun j hj => absurd hj (Nat.not_lt_zero j), fun _ _ => rfl⟩
  · rintro i M hi ⟨g1, g2⟩
    obtain ⟨M', m1, m2⟩ := C_isCrucial hP0 g2 (r := r) (f := i / 8) (t := i % 8) hr1 hr (by omega) (by omega)
    rw [show 8 * (i / 8) + i % 8 = i by omega] at m1
    have st : f_MC_crucial_L40 (nI r) x2 (nI (fb_ct (crB R r) i)) (nI i) M = if bI (crB R r i) = 0 then some (.inl (nI (fb_ct (crB R r) i), nI (i + 1), M')) else if nI (fb_ct (crB R r) i) = x2 then some (.inr (.inr (nI i, M'))) else some (.inl (nI (fb_ct (crB R r) i) + 1, nI (i + 1), M')) := by
      unfold f_MC_crucial_L40
      rw [j64, if_neg (nI_ge hi (by decide)), j8, pk_div (by omega) (by decide) (by decide), pk_mul, pk_sub (by omega), show i - i / 8 * 8 = i % 8 by omega, m1, bnd2_some, ← nI_succ]
    show (∃ s', f_MC_crucial_L40 (nI r) x2 (nI (fb_ct (crB R r) i)) (nI i) M = some (.inl (nI (fb_ct (crB R r) (i + 1)), nI (i + 1), s')) ∧ _) ∨ ∃ r', f_MC_crucial_L40 (nI r) x2 (nI (fb_ct (crB R r) i)) (nI i) M = some (.inr r') ∧ _
    rw [st, fb_ct_succ]
    have ext : cpB R r x2 i = false → ∀ j, j < i + 1 → cpB R r x2 j = false := fun z j hj => by
      by_cases e : j = i
      · rw [e]; exact z
      · exact g1 j (by omega)
    cases e : crB R r i
    · left
      exact ⟨M', rfl, ext (by unfold cpB; rw [e]; rfl), m2⟩
    · by_cases w : nI (fb_ct (crB R r) i) = x2
      · right
        have cp : cpB R r x2 i = true := by
          unfold cpB
          rw [e, decide_eq_true w]
          rfl
        have ek := fstN_is hi cp g1
        refine ⟨.inr (nI i, M'), by rw [if_neg (show ¬ bI true = 0 by decide), if_pos w], Or.inl ⟨by omega, M', by rw [ek], m2⟩⟩
      · left
        refine ⟨M', ?_, ext (by unfold cpB; rw [e, decide_eq_false w]; rfl), m2⟩
        rw [if_neg (show ¬ bI true = 0 by decide), if_neg w, if_pos rfl, ← nI_succ]
  · rintro M ⟨g1, g2⟩
    refine ⟨.inl (nI (fb_ct (crB R r) 64), M), ?_, Or.inr ⟨fun z => ?_, M, rfl, g2⟩⟩
    · show f_MC_crucial_L40 (nI r) x2 (nI (fb_ct (crB R r) 64)) (nI 64) M = _
      unfold f_MC_crucial_L40
      rw [if_pos (by decide)]
    · rcases fstN_sp (cpB R r x2) 64 with ⟨h1, h2⟩ | ⟨h1, h2, h3⟩
      · omega
      · rw [g1 _ h1] at h2
        cases h2
theorem crB_no {R : Nat → Nat} {r f t : Nat} (ht : t < 8) (h : R 0 ≤ t) : crB R r (8 * f + t) = false := by
  rw [crB_ft ht, decide_eq_false (fun z => by omega)]
  rfl
theorem ct_skip {R : Nat → Nat} {r f : Nat} (hn : R 0 ≤ 8) : fb_ct (crB R r) (8 * f + R 0) = fb_ct (crB R r) (8 * (f + 1)) := by
  have e := fb_ct_split (crB R r) (8 * f + R 0) (8 - R 0)
  rw [show 8 * f + R 0 + (8 - R 0) = 8 * (f + 1) by omega] at e
  have z : fb_ct (fun k => crB R r (8 * f + R 0 + k)) (8 - R 0) = 0 := fb_ct_zero.mpr (fun k hk => by
    show crB R r (8 * f + R 0 + k) = false
    rw [Nat.add_assoc]
    exact crB_no (by omega) (by omega))
  omega
theorem M_crucial {R : Nat → Nat} {Mc Mm : Mem} (hP0 : RelP R Mc Mm) {r : Nat} (hr1 : 1 ≤ r) (hr : r ≤ R 3) (x2 : Int32) {M0 : Mem} (h0 : WI R Mm M0) : ∃ Mm', f_MM_crucial_J41 M0 (nI r) x2 0 0 = some (crA R r x2, Mm') ∧ WI R Mm Mm' := by
  have hV := hP0.1
  have hn := pv_n hV
  have hR3 := hV.2.2.2.1
  have v8 := hV.2.2.2.2.2.2.2.2.2.1
  -- one way
  have step : ∀ f t M, f < R 0 → t < R 0 → WI R Mm M → ∃ M', f_MM_crucial_L55 (nI r) x2 (nI f) (nI (fb_ct (crB R r) (8 * f + t))) (nI t) M = (if crB R r (8 * f + t) = true then (if nI (fb_ct (crB R r) (8 * f + t)) = x2 then some (.inr (.inr (nI (8 * f + t), M'))) else some (.inl (nI (fb_ct (crB R r) (8 * f + t)) + 1, nI (t + 1), M'))) else some (.inl (nI (fb_ct (crB R r) (8 * f + t)), nI (t + 1), M'))) ∧ WI R Mm M' := by
    intro f t M hf ht hM
    have h10 : M 1 0 = nI (R 0) := hM.1.1 0 (by decide)
    rw [crB_ft (by omega)]
    unfold f_MM_crucial_L55
    rw [h10, if_neg (nI_ge ht (by omega)), ← nI_succ]
    by_cases eft : f = t
    · rw [if_pos (by rw [eft]), decide_eq_false (fun z => z.2.2.1 eft)]
      exact ⟨M, rfl, hM⟩
    · rw [if_neg (fun z => eft ((nI_eq (by omega) (by omega)).mp z)), M_omit hV hM.1 (by omega) (by omega) (by omega), bnd_some]
      by_cases wo : omI R r f t < R 8
      · rw [if_pos wo, if_neg (nI_neg1 (by omega)), decide_eq_false (fun z => z.2.2.2 wo)]
        exact ⟨M, rfl, hM⟩
      · rw [if_neg wo, if_pos rfl, decide_eq_true (show f < R 0 ∧ t < R 0 ∧ f ≠ t ∧ ¬ omI R r f t < R 8 from ⟨hf, ht, eft, wo⟩), Bool.true_and]
        unfold f_MM_faultsAside
        rw [lt1_eq, lt1_eq, lt1_eq, lt1_eq, bnd_some]
        obtain ⟨N, n1, n2⟩ := hM.play (R' := R) (x := x4 r f t 0) (A := upM (upM (upM (upM M 0 28 (nI r)) 0 29 (nI f)) 0 30 (nI t)) 0 31 0) hV hP0.2.2.1 hV (fun _ _ => rfl) (by
          refine ⟨?_, ?_, fun _ => ⟨?_, ?_, ?_⟩, ?_, ?_, ?_, ?_⟩
          · rw [upM_row (by decide), upM_row (by decide), upM_row (by decide), upM_row (by decide)]
            exact hM.1
          · rw [upM_ne (by omega), upM_ne (by omega), upM_ne (by omega), upM_eq]
            show nI r = cmI r
            unfold cmI
            rw [if_neg (by omega)]
          · rw [upM_ne (by omega), upM_ne (by omega), upM_eq]; rfl
          · rw [upM_ne (by omega), upM_eq]; rfl
          · rw [upM_eq]; rfl
          · show r < 100; omega
          · show f < 100; omega
          · show t < 100; omega
          · show 0 < 100; omega) (fun a ha => by rw [upM_row (by omega), upM_row (by omega), upM_row (by omega), upM_row (by omega)]) (fun b hb => by rw [upM_ne (by omega), upM_ne (by omega), upM_ne (by omega), upM_ne (by omega)])
        rw [n1, bnd2_some, lt1_eq]
        refine ⟨upM N 0 28 (-1), ?_, n2⟩
        cases chgB R R (x4 r f t 0)
        · rfl
        · rw [Bool.not_true, if_pos (show bI false = 0 from rfl), if_pos rfl, j8, pk_mul, nI_add]
  -- one sender
  have inner : ∀ f M, f < R 0 → WI R Mm M → (∀ j, j < 8 * f → cpB R r x2 j = false) → ∃ e, f_MM_crucial_W55 (nI r) x2 (nI f) (nI (fb_ct (crB R r) (8 * f)), 0, M) = some e ∧ ((∃ M', e = .inl (nI (fb_ct (crB R r) (8 * (f + 1))), M') ∧ WI R Mm M' ∧ ∀ j, j < 8 * (f + 1) → cpB R r x2 j = false) ∨ (∃ w M', e = .inr (nI w, M') ∧ w < 64 ∧ cpB R r x2 w = true ∧ (∀ j, j < w → cpB R r x2 j = false) ∧ WI R Mm M')) := by
    intro f M hf hM hno
    unfold f_MM_crucial_W55
    suffices hh : ∃ e, loop (fun t' => f_MM_crucial_L55 (nI r) x2 (nI f) t'.1 t'.2.1 t'.2.2) ((fun (i : Nat) (s : Mem) => (nI (fb_ct (crB R r) (8 * f + i)), nI i, s)) 0 M) = some e ∧ ((∃ M', e = .inl (nI (fb_ct (crB R r) (8 * (f + 1))), M') ∧ WI R Mm M' ∧ ∀ j, j < 8 * (f + 1) → cpB R r x2 j = false) ∨ (∃ w M', e = .inr (nI w, M') ∧ w < 64 ∧ cpB R r x2 w = true ∧ (∀ j, j < w → cpB R r x2 j = false) ∧ WI R Mm M')) from hh
    refine loop_enc (fun i s => (nI (fb_ct (crB R r) (8 * f + i)), nI i, s)) (R 0) (fun i M => WI R Mm M ∧ ∀ j, j < 8 * f + i → cpB R r x2 j = false) _ ?_ ?_ 0 M (Nat.zero_le _) ⟨hM, fun j hj => hno j hj⟩
    · rintro i M hi ⟨g1, g2⟩
      obtain ⟨M', m1, m2⟩ := step f i M hf hi g1
      show (∃ s', f_MM_crucial_L55 (nI r) x2 (nI f) (nI (fb_ct (crB R r) (8 * f + i))) (nI i) M = some (.inl (nI (fb_ct (crB R r) (8 * f + i + 1)), nI (i + 1), s')) ∧ _) ∨ ∃ r', f_MM_crucial_L55 (nI r) x2 (nI f) (nI (fb_ct (crB R r) (8 * f + i))) (nI i) M = some (.inr r') ∧ _
      rw [m1, fb_ct_succ]
      have ext : cpB R r x2 (8 * f + i) = false → ∀ j, j < 8 * f + (i + 1) → cpB R r x2 j = false := fun z j hj => by
        by_cases e : j = 8 * f + i
        · rw [e]; exact z
        · exact g2 j (by omega)
      cases e : crB R r (8 * f + i)
      · left
        exact ⟨M', rfl, m2, ext (by unfold cpB; rw [e]; rfl)⟩
      · by_cases w : nI (fb_ct (crB R r) (8 * f + i)) = x2
        · right
          refine ⟨.inr (nI (8 * f + i), M'), by rw [if_pos rfl, if_pos w], Or.inr ⟨8 * f + i, M', rfl, by omega, ?_, g2, m2⟩⟩
          unfold cpB
          rw [e, decide_eq_true w]
          rfl
        · left
          refine ⟨M', ?_, m2, ext (by unfold cpB; rw [e, decide_eq_false w]; rfl)⟩
          rw [if_pos rfl, if_neg w, if_pos rfl, ← nI_succ]
    · rintro M ⟨g1, g2⟩
      have h10 : M 1 0 = nI (R 0) := g1.1.1 0 (by decide)
      refine ⟨.inl (nI (fb_ct (crB R r) (8 * (f + 1))), M), ?_, Or.inl ⟨M, rfl, g1, fun j hj => ?_⟩⟩
      · show f_MM_crucial_L55 (nI r) x2 (nI f) (nI (fb_ct (crB R r) (8 * f + R 0))) (nI (R 0)) M = _
        unfold f_MM_crucial_L55
        rw [h10, if_pos ((nI_leI (by omega) (by omega)).mpr (Nat.le_refl _)), ct_skip hn]
      · by_cases w : j < 8 * f + R 0
        · exact g2 j w
        · unfold cpB
          rw [show j = 8 * f + (j - 8 * f) by omega, crB_no (by omega) (by omega)]
          rfl
  unfold f_MM_crucial_J41
  suffices hh : ∃ e, loop (fun t' => f_MM_crucial_L41 (nI r) x2 t'.1 t'.2.1 t'.2.2) ((fun (i : Nat) (s : Mem) => (nI (fb_ct (crB R r) (8 * i)), nI i, s)) 0 M0) = some e ∧ ((fstN (cpB R r x2) 64 < 64 ∧ ∃ M', e = .inr (nI (fstN (cpB R r x2) 64), M') ∧ WI R Mm M') ∨ (¬ fstN (cpB R r x2) 64 < 64 ∧ ∃ M', e = .inl (nI (fb_ct (crB R r) 64), M') ∧ WI R Mm M')) by
    obtain ⟨e, e1, e2⟩ := hh
    have e1 : f_MM_crucial_W41 (nI r) x2 (0, 0, M0) = some e := e1
    rw [e1, bnd_some]
    unfold crA
    rcases e2 with ⟨h8, M', rfl, hM'⟩ | ⟨h8, M', rfl, hM'⟩
    · rw [if_pos h8]
      exact ⟨M', rfl, hM'⟩
    · rw [if_neg h8]
      refine ⟨M', ?_, hM'⟩
      show (if x2 = -1 then some (nI (fb_ct (crB R r) 64), M') else some ((-2 : Int32), M')) = _
      by_cases w : x2 = -1
      · rw [if_pos w, if_pos w]
      · rw [if_neg w, if_neg w]
  refine loop_enc (fun i s => (nI (fb_ct (crB R r) (8 * i)), nI i, s)) (R 0) (fun i M => WI R Mm M ∧ ∀ j, j < 8 * i → cpB R r x2 j = false) _ ?_ ?_ 0 M0 (Nat.zero_le _) ⟨h0, fun j hj => absurd hj (Nat.not_lt_zero j)⟩
  · rintro i M hi ⟨g1, g2⟩
    have h10 : M 1 0 = nI (R 0) := g1.1.1 0 (by decide)
    obtain ⟨e, e1, e2⟩ := inner i M hi g1 g2
    show (∃ s', f_MM_crucial_L41 (nI r) x2 (nI (fb_ct (crB R r) (8 * i))) (nI i) M = some (.inl (nI (fb_ct (crB R r) (8 * (i + 1))), nI (i + 1), s')) ∧ _) ∨ ∃ r', f_MM_crucial_L41 (nI r) x2 (nI (fb_ct (crB R r) (8 * i))) (nI i) M = some (.inr r') ∧ _
    unfold f_MM_crucial_L41 f_MM_crucial_J55
    rw [h10, if_neg (nI_ge hi (by omega)), e1, bnd_some]
    rcases e2 with ⟨M', rfl, m1, m2⟩ | ⟨w, M', rfl, w1, w2, w3, m1⟩
    · left
      refine ⟨M', ?_, m1, m2⟩
      rw [nI_succ]
      rfl
    · right
      have ek := fstN_is w1 w2 w3
      refine ⟨.inr (nI w, M'), rfl, Or.inl ⟨by omega, M', by rw [ek], m1⟩⟩
  · rintro M ⟨g1, g2⟩
    have h10 : M 1 0 = nI (R 0) := g1.1.1 0 (by decide)
    have all : ∀ j, j < 64 → cpB R r x2 j = false := fun j hj => by
      by_cases w : j < 8 * R 0
      · exact g2 j w
      · unfold cpB crB
        rw [decide_eq_false (fun z => by omega)]
        rfl
    have e64 : fb_ct (crB R r) (8 * R 0) = fb_ct (crB R r) 64 := by
      have e := fb_ct_split (crB R r) (8 * R 0) (64 - 8 * R 0)
      rw [show 8 * R 0 + (64 - 8 * R 0) = 64 by omega] at e
      have z : fb_ct (fun k => crB R r (8 * R 0 + k)) (64 - 8 * R 0) = 0 := fb_ct_zero.mpr (fun k hk => by
        show crB R r (8 * R 0 + k) = false
        unfold crB
        rw [decide_eq_false (fun z => by omega)]
        rfl)
      omega
    refine ⟨.inl (nI (fb_ct (crB R r) 64), M), ?_, Or.inr ⟨fun z => ?_, M, rfl, g1⟩⟩
    · show f_MM_crucial_L41 (nI r) x2 (nI (fb_ct (crB R r) (8 * R 0))) (nI (R 0)) M = _
      unfold f_MM_crucial_L41
      rw [h10, if_pos ((nI_leI (by omega) (by omega)).mpr (Nat.le_refl _)), e64]
    · rcases fstN_sp (cpB R r x2) 64 with ⟨h1, h2⟩ | ⟨h1, h2, h3⟩
      · omega
      · rw [all _ h1] at h2
        cases h2
theorem a_crucial {Mc Mm : Mem} (h : Rel Mc Mm) (x1 x2 : Int32) : Act (f_MC_crucial Mc x1 x2) (f_MM_crucial Mm x1 x2) := by
  have hrel := h
  obtain ⟨⟨R, hP0⟩, -⟩ := h
  have hP0' := hP0
  obtain ⟨hV, hP, hM, hC, h28, hk⟩ := hP0'
  have hn := pv_n hV
  have hR3 := hV.2.2.2.1
  have h10 : Mm 1 0 = nI (R 0) := hM.1 0 (by decide)
  have h13 : Mm 1 3 = nI (R 3) := hM.1 3 (by decide)
  have c12 : Mc 1 2 = nI (R 3) := hP.2.2.2.2.2.1 2 (by decide)
  unfold f_MC_crucial f_MM_crucial
  rw [h10, h13, hP.1, c12, M_in, Int32.toInt_toInt64, Int32.toInt_toInt64, nI_toInt (by omega), show (1 : Int64).toInt = 1 from rfl]
  by_cases w0 : R 0 = 0
  · rw [w0, if_pos (show nI 0 = (0 : Int32) from rfl)]
    refine Act.no hrel rfl ?_
    rw [if_pos (show nI 0 = (0 : Int32) from rfl)]
    split <;> rfl
  · have n0 : ¬ nI (R 0) = 0 := fun z => w0 ((nI_eq (b := 0) (by omega) (by omega)).mp z)
    rw [if_neg n0, if_neg n0]
    have e1 : (1 : Int32).toInt = 1 := rfl
    rcases i32c x1 with q | ⟨r, hr31, rfl⟩
    · rw [Int32.lt_iff_toInt_lt] at q
      have e0 : (0 : Int32).toInt = 0 := rfl
      rw [if_pos (by rw [Int32.lt_iff_toInt_lt]; omega), decide_eq_false (show ¬ 1 ≤ x1.toInt by omega), Bool.false_and]
      exact Act.no hrel rfl rfl
    · rw [nI_toInt hr31]
      by_cases w1 : 1 ≤ r
      · rw [if_neg (show ¬ nI r < 1 from nI_nlt (b := 1) w1 hr31), decide_eq_true (show (1 : Int) ≤ (r : Int) by omega), Bool.true_and]
        by_cases w2 : r ≤ R 3
        · rw [if_neg (nI_nlt (by omega) (by omega)), decide_eq_true (show (r : Int) ≤ (R 3 : Int) by omega), gT]
          by_cases w3 : (-1 : Int32) ≤ x2
          · rw [if_pos w3, if_pos w3]
            obtain ⟨N, n1, n2⟩ := WI.of hP0
            obtain ⟨Mc', c1, c2⟩ := C_crucial hP0 w1 w2 x2
            obtain ⟨Mm', m1, m2⟩ := M_crucial hP0 w1 w2 x2 n2
            exact ⟨_, Mc', Mm', c1, by rw [n1, bnd_some]; exact m1, WI.done hrel hP0 c2 m2⟩
          · rw [if_neg w3, if_neg w3]
            exact Act.no hrel rfl rfl
        · rw [if_pos (nI_lt (by omega) hr31), decide_eq_false (show ¬ (r : Int) ≤ (R 3 : Int) by omega)]
          exact Act.no hrel rfl rfl
      · rw [if_pos (show nI r < 1 from nI_lt (b := 1) (by omega) (by decide)), decide_eq_false (show ¬ (1 : Int) ≤ (r : Int) by omega), Bool.false_and]
        exact Act.no hrel rfl rfl
