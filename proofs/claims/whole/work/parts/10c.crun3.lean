/-! the class: planned letters, and the reading -/
theorem C_canMark {k r sr : Nat} {R : Nat → Nat} {Q : Tab} {M : Mem} (hC : RC k r sr Q M) (hI : INV R r Q) {v m : Nat} {mk : Nat → Nat} {c : Int32} (hr : r ≤ 8) (hv : v < 4) (hc : Chn c m mk) : f_Run_canMark k M c (nI v) (nI r) = some (!anyB (fun i => decide (r < Q 3 (4 * mk i + v))) m) := by
  have hm := hc.le
  unfold f_Run_canMark f_Run_canMark_J3
  rw [bnd_id]
  unfold f_Run_canMark_W3
  suffices hh : ∃ x, loop (fun t => f_Run_canMark_L3 k M c (nI v) (nI r) t) (nI 0) = some x ∧ x = (!anyB (fun i => decide (r < Q 3 (4 * mk i + v))) m) by
    obtain ⟨x, g1, g2⟩ := hh
    rw [← g2, ← g1]
    rfl
  refine loop_enc (fun i (_ : Unit) => nI i) m (fun i _ => anyB (fun i => decide (r < Q 3 (4 * mk i + v))) i = false) _ ?_ ?_ 0 () (Nat.zero_le _) rfl
  · rintro i - hi h1
    have hmk := hc.lt hi
    have hcl : 4 * mk i + v < 32 := by omega
    have hu := hC.2.2.2.2.1 _ hcl
    have hb := hI.b3 _ hcl
    have start : f_Run_canMark_L3 k M c (nI v) (nI r) (nI i) = if Q 3 (4 * mk i + v) ≤ r then some (.inl (nI (i + 1))) else some (.inr false) := by
      unfold f_Run_canMark_L3
      rw [Chn_size hc, if_neg (nI_ge hi (by omega)), Chn_mark hc hi, cell_of, gIn_nI hcl (by decide), nI_clamp (by omega), hu, nI_succ]
      by_cases w : Q 3 (4 * mk i + v) ≤ r
      · rw [if_pos w, if_pos w, if_pos ((nI_leI (by omega) (by omega)).mpr w)]
      · rw [if_neg w, if_neg w, if_neg (nI_ge (by omega) (by decide))]
    by_cases w : Q 3 (4 * mk i + v) ≤ r
    · left
      refine ⟨(), ?_, ?_⟩
      · show f_Run_canMark_L3 k M c (nI v) (nI r) (nI i) = _
        rw [start, if_pos w]
      · show (anyB _ i || _) = false
        rw [h1, Bool.false_or]
        simpa using w
    · right
      refine ⟨false, ?_, ?_⟩
      · show f_Run_canMark_L3 k M c (nI v) (nI r) (nI i) = _
        rw [start, if_neg w]
      · have : anyB (fun i => decide (r < Q 3 (4 * mk i + v))) m = true := anyB_iff.mpr ⟨i, hi, by simpa using w⟩
        rw [this]
        rfl
  · rintro - h1
    refine ⟨true, ?_, by rw [h1]; rfl⟩
    show f_Run_canMark_L3 k M c (nI v) (nI r) (nI m) = _
    unfold f_Run_canMark_L3
    rw [Chn_size hc, if_pos ((nI_leI (by omega) (by omega)).mpr (Nat.le_refl _))]
/-- the class's planned letters, and which of them it may use -/
def CP (k np : Nat) (PL : Nat → Nat → Nat) (al : Nat → Bool) (M : Mem) : Prop := M 0 2 = nI np ∧ np ≤ 16 ∧ (∀ l, l < np → M 2 l = nI (64 * PL l 0 + 8 * PL l 1 + PL l 2) ∧ M 3 l = nI (PL l 3) ∧ Chn (M 4 l) (PL l 4) (fun i => PL l (5 + i))) ∧ ∀ l, l < np → (((M k 2 >>> (nI l &&& 31)) &&& (1 : Int32)) = 0 ↔ al l = false)
theorem CP.fr {k np : Nat} {PL : Nat → Nat → Nat} {al : Nat → Bool} {M M' : Mem} (h : CP k np PL al M) (hk : 112 ≤ k) (hf : FrC k M M') : CP k np PL al M' := by
  unfold CP at h ⊢
  rw [hf.1 0 (by omega), hf.1 2 (by omega), hf.1 3 (by omega), hf.1 4 (by omega), hf.2.2.2]
  exact h
theorem RC.fg {k r sr : Nat} {Q : Tab} {M : Mem} (h : RC k r sr Q M) (x : Nat) : RC k r sr (upN Q 0 1 x) (upM M k 3 (nI x)) := by
  obtain ⟨h1, h2, h3, h4, h5, h6⟩ := h
  have e : ∀ a b, a ≠ 0 → upN Q 0 1 x a b = Q a b := fun a b ha => if_neg (fun q => ha q.1)
  have e5 : ∀ i b, upN Q 0 1 x (5 + i) b = Q (5 + i) b := fun i b => e _ b (by omega)
  have e0 : upN Q 0 1 x 0 0 = Q 0 0 := rfl
  unfold RC RCl RCc setN
  simp only [e0, e5, e 1 _ (by decide), e 2 _ (by decide), e 3 _ (by decide), e 4 _ (by decide)]
  simp (disch := omega) only [upM_row, upM_ne, upM_eq]
  exact ⟨h1, rfl, h3, h4, h5, h6⟩
set_option maxHeartbeats 1000000 in
theorem C_sendPlans {k r sr np : Nat} {R : Nat → Nat} {dl : Nat → Nat → Nat → Nat} {Q : Tab} {M : Mem} {PL : Nat → Nat → Nat} {al : Nat → Bool} (hk : 112 ≤ k) (hV : PV R) (hcs : CS R M) (hS : SC k R dl M) (hP : CP k np PL al M) (hC : RC k r sr Q M) (hI : INV R r Q) (hok : ∀ l, l < np → plOK R (PL l)) (hr1 : 1 ≤ r) (hr : r ≤ 8) (hfg : Q 0 1 < 2 ^ 16) (hB : Q 0 0 + fb_ct (fun l => decide (PL l 0 = r)) np ≤ 212) : ∃ M', f_Run_sendPlans k M (nI r) = some M' ∧ RC k r sr (sPlans R dl np PL al r Q) M' ∧ FrC k M M' ∧ sPlans R dl np PL al r Q 0 1 < 2 ^ 16 := by
  have hn := pv_n hV
  have hnp := hP.2.1
  unfold f_Run_sendPlans f_Run_sendPlans_J2
  rw [bnd_id]
  unfold f_Run_sendPlans_W2 sPlans
  refine loop_enc (fun i s => (nI i, s)) np (fun l N => RC k r sr (itr (fun l Q => sPlan R dl r l (PL l) (al l) Q) l Q) N ∧ FrC k M N ∧ itr (fun l Q => sPlan R dl r l (PL l) (al l) Q) l Q 0 1 < 2 ^ 16) _ ?_ ?_ 0 M (Nat.zero_le _) ⟨hC, FrC.rf, hfg⟩
  · rintro l N hl ⟨h1, h2, h3⟩
    left
    have el : itr (fun l Q => sPlan R dl r l (PL l) (al l) Q) (l + 1) Q = sPlan R dl r l (PL l) (al l) (itr (fun l Q => sPlan R dl r l (PL l) (al l) Q) l Q) := rfl
    obtain ⟨g1, g2, g3⟩ := sPlans_sp (dl := dl) (PL := PL) (al := al) hV hI hr l (fun j hj => hok j (by omega))
    have hcN := hcs.fr hk h2
    have hpN := hP.fr hk h2
    obtain ⟨q1, q2, q3⟩ := hpN.2.2.1 l hl
    have q4 := hpN.2.2.2 l hl
    obtain ⟨p0, p0', p1, p2, p3, p4, p4', pm, pd⟩ := hok l hl
    have hct : fb_ct (fun l => decide (PL l 0 = r)) (l + 1) ≤ fb_ct (fun l => decide (PL l 0 = r)) np := fb_ct_mono _ (by omega)
    rw [fb_ct_succ] at hct
    rw [el]
    generalize itr (fun l Q => sPlan R dl r l (PL l) (al l) Q) l Q = T at *
    have hmark := C_canMark h1 g1 (v := PL l 3) hr p3 q3
    have start : f_Run_sendPlans_L2 k (nI r) (nI l) N = if (al l && decide (PL l 0 = r) && lie R (PL l 1)) = true then bnd (f_Run_canMark k N (N 4 l) (N 3 l) (nI r)) (fun y4 => if (bI y4) = 0 then lt1 (upM N k 3 ((N k 3) ||| ((1 : Int32) <<< (nI l &&& 31)))) (fun M1 => some (.inl (nI l + (1 : Int32), M1))) else bnd (f_Run_post k N (N 2 l) (N 3 l) (N 4 l)) (fun M6 => some (.inl (nI l + (1 : Int32), M6)))) else some (.inl (nI l + (1 : Int32), N)) := by
      have J60 : f_Run_sendPlans_J60 k N (nI r) (nI l) (N 2 l) = some (.inl (nI l + (1 : Int32), N)) := by
        unfold f_Run_sendPlans_J60 f_Run_sendPlans_J61 f_Run_sendPlans_J120
        rw [if_pos rfl, if_pos rfl]
      unfold f_Run_sendPlans_L2
      rw [hpN.1, if_neg (nI_ge hl (by omega)), gIn_nI (by omega) (by decide), nI_clamp (by omega)]
      by_cases w1 : al l = false
      · rw [if_pos (q4.mpr w1), J60, w1]
        rfl
      · rw [if_neg (fun z => w1 (q4.mp z)), q1, way_round (by omega) (by omega) (by omega)]
        have w1' : al l = true := by simpa using w1
        by_cases w2 : PL l 0 = r
        · rw [if_pos (by rw [w2]), way_from (by omega) (by omega) (by omega), C_isLiar hV hcN.1 hcN.2.1 (by omega)]
          by_cases w3 : lie R (PL l 1) = true
          · rw [w3, if_neg (by decide), if_pos (by simp [w1', w2])]
            unfold f_Run_sendPlans_J61 f_Run_sendPlans_J120
            rw [if_neg (by decide), gIn_nI (by omega) (by decide), nI_clamp (by omega), if_neg (by decide)]
          · have w3' : lie R (PL l 1) = false := by simpa using w3
            rw [w3', if_pos (by decide), if_neg (by simp), ← q1, J60]
        · rw [if_neg (fun z => w2 ((nI_eq (by omega) (by omega)).mp z)), if_neg (by simp [w2]), ← q1, J60]
    unfold sPlan
    by_cases w : (al l && decide (PL l 0 = r) && lie R (PL l 1)) = true
    · rw [if_pos w]
      have w0 : PL l 0 = r := by simp only [Bool.and_eq_true, decide_eq_true_eq] at w; exact w.1.2
      rw [if_pos (by simpa using w0)] at hct
      by_cases hf : anyB (fun i => decide (r < T 3 (4 * PL l (5 + i) + PL l 3))) (PL l 4) = true
      · rw [if_pos hf]
        have hor : T 0 1 ||| 2 ^ l < 2 ^ 16 := Nat.or_lt_two_pow h3 (Nat.pow_lt_pow_right (by decide) (by omega))
        refine ⟨upM N k 3 (nI (T 0 1 ||| 2 ^ l)), ?_, h1.fg _, h2.up _ (by omega), hor⟩
        show f_Run_sendPlans_L2 k (nI r) (nI l) N = _
        rw [start, if_pos w, q2, hmark, hf, bnd_some, if_pos (by decide), lt1_eq, h1.2.1, sh1 l (by omega), fa_or, nI_succ]
      · rw [if_neg hf]
        have hf' : anyB (fun i => decide (r < T 3 (4 * PL l (5 + i) + PL l 3))) (PL l 4) = false := by simpa using hf
        have er : prec (PL l) = lrec r (PL l 1) (PL l 2) (PL l 3) (PL l 4) (fun i => PL l (5 + i)) := by unfold prec; rw [w0]
        obtain ⟨N', c1, c2, c3⟩ := C_post (hS.fr h2) h1 (by omega) (f := PL l 1) (t := PL l 2) (v := PL l 3) hr1 hr (by omega) (by omega) q3 g1.b2
        refine ⟨N', ?_, by rw [er]; exact c2, h2.tr c3, by rw [sSend_0]; exact h3⟩
        show f_Run_sendPlans_L2 k (nI r) (nI l) N = _
        rw [start, if_pos w, q2, hmark, hf', bnd_some, if_neg (by decide), q1, w0, c1, bnd_some, nI_succ]
    · rw [if_neg w]
      refine ⟨N, ?_, h1, h2, h3⟩
      show f_Run_sendPlans_L2 k (nI r) (nI l) N = _
      rw [start, if_neg w, nI_succ]
  · rintro N ⟨h1, h2, h3⟩
    refine ⟨N, ?_, h1, h2, h3⟩
    show f_Run_sendPlans_L2 k (nI r) (nI np) N = _
    unfold f_Run_sendPlans_L2
    rw [(hP.fr hk h2).1, if_pos ((nI_leI (by omega) (by omega)).mpr (Nat.le_refl _))]
