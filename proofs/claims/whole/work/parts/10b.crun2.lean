/-! the class: relaying, the first letters, planned ones -/
theorem sRels_sp {R : Nat → Nat} {dl : Nat → Nat → Nat → Nat} {r p : Nat} {P : Tab} (hV : PV R) (h : INV R r P) (hp : p < R 0) (hr : 2 ≤ r) (hr8 : r ≤ 8) : ∀ v, v ≤ 4 → INV R r (itr (fun v Q => sRel R dl r p v Q) v P) ∧ itr (fun v Q => sRel R dl r p v Q) v P 0 0 + 7 * fb_ct (fun c => decide (P 1 c = r - 1)) (4 * p) ≤ P 0 0 + 7 * fb_ct (fun c => decide (P 1 c = r - 1)) (4 * p + v) ∧ (∀ c, itr (fun v Q => sRel R dl r p v Q) v P 1 c = P 1 c ∧ itr (fun v Q => sRel R dl r p v Q) v P 2 c = P 2 c) := by
  intro v
  induction v with
  | zero => intro _; exact ⟨h, Nat.le_refl _, fun c => ⟨rfl, rfl⟩⟩
  | succ v ihv =>
    intro hv
    obtain ⟨k1, k2, k3⟩ := ihv (by omega)
    have ev : itr (fun v Q => sRel R dl r p v Q) (v + 1) P = sRel R dl r p v (itr (fun v Q => sRel R dl r p v Q) v P) := rfl
    rw [ev]
    obtain ⟨m1, m2, m3, m4⟩ := sRel_sp (dl := dl) hV k1 (p := p) (v := v) hp (by omega) hr hr8
    refine ⟨m1, ?_, fun c => ⟨(m3 c).1.trans (k3 c).1, (m3 c).2.trans (k3 c).2⟩⟩
    rw [(k3 _).1] at m2
    rw [show 4 * p + (v + 1) = 4 * p + v + 1 by omega, fb_ct_succ]
    by_cases w : P 1 (4 * p + v) = r - 1
    · rw [if_pos w] at m2
      rw [if_pos (by simpa using w)]
      omega
    · rw [if_neg w] at m2
      rw [if_neg (by simpa using w)]
      omega
theorem sRels_lie {R : Nat → Nat} {dl : Nat → Nat → Nat → Nat} {r p : Nat} {P : Tab} (h : ∀ v, v < 4 → P 1 (4 * p + v) ≠ r - 1) : ∀ v, v ≤ 4 → itr (fun v Q => sRel R dl r p v Q) v P = P := by
  intro v
  induction v with
  | zero => intro _; rfl
  | succ v ih =>
    intro hv
    have ev : itr (fun v Q => sRel R dl r p v Q) (v + 1) P = sRel R dl r p v (itr (fun v Q => sRel R dl r p v Q) v P) := rfl
    rw [ev, ih (by omega), sRel_no (h v (by omega))]
set_option maxHeartbeats 1000000 in
theorem C_rels {k r sr p : Nat} {R : Nat → Nat} {dl : Nat → Nat → Nat → Nat} {P : Tab} {M : Mem} (hk : 112 ≤ k) (hV : PV R) (hcs : CS R M) (hS : SC k R dl M) (hC : RC k r sr P M) (hI : INV R r P) (hp : p < R 0) (hr2 : 2 ≤ r) (hr : r ≤ 8) (hB : P 0 0 + 7 * fb_ct (fun c => decide (P 1 c = r - 1)) 32 ≤ 212 + 7 * fb_ct (fun c => decide (P 1 c = r - 1)) (4 * p)) : ∃ M', f_Run_relayAll_W15 k (nI r) (nI p) ((0 : Int32), M) = some M' ∧ RC k r sr (itr (fun v Q => sRel R dl r p v Q) 4 P) M' ∧ FrC k M M' := by
  have hn := pv_n hV
  have h99 : ∀ c, c < 32 → P 1 c ≤ 99 := fun c hc => by have := (hI.2.1 c hc).2.2.2.1; omega
  unfold f_Run_relayAll_W15
  refine loop_enc (fun i s => (nI i, s)) 4 (fun v N => RC k r sr (itr (fun v Q => sRel R dl r p v Q) v P) N ∧ FrC k M N) _ ?_ ?_ 0 M (Nat.zero_le _) ⟨hC, FrC.rf⟩
  · rintro v N hv ⟨h1, h2⟩
    left
    have ev : itr (fun v Q => sRel R dl r p v Q) (v + 1) P = sRel R dl r p v (itr (fun v Q => sRel R dl r p v Q) v P) := rfl
    obtain ⟨g1, g2, g3⟩ := sRels_sp (dl := dl) hV hI hp hr2 hr v (by omega)
    have hcl : 4 * p + v < 32 := by omega
    have hc7 := (h1.2.2.2.1 _ hcl).1
    have hx := (g3 (4 * p + v)).1
    have hb := h99 _ hcl
    generalize hQ : itr (fun v Q => sRel R dl r p v Q) v P = T at *
    rw [ev]
    have start : f_Run_relayAll_L15 k (nI r) (nI p) (nI v) N = if P 1 (4 * p + v) = r - 1 then bnd (f_Run_relays k N (nI p) (nI v)) (fun y3 => if (bI y3) = 0 then some (.inl (nI v + (1 : Int32), N)) else bnd (f_Run_sendOthers k N (nI r) (nI p) (nI v) (N (k + 9) (4 * p + v))) (fun M5 => some (.inl (nI v + (1 : Int32), M5)))) else some (.inl (nI v + (1 : Int32), N)) := by
      unfold f_Run_relayAll_L15
      rw [j4, if_neg (nI_ge hv (by decide)), cell_of, gIn_nI hcl (by decide), nI_clamp (by omega), hc7, hx, j1, pk_sub (by omega)]
      by_cases w : P 1 (4 * p + v) = r - 1
      · rw [if_pos w, if_pos (by rw [w])]
      · rw [if_neg w, if_neg (fun q => w ((nI_eq (by omega) (by omega)).mp q))]
    by_cases w : P 1 (4 * p + v) = r - 1
    · have w' : T 1 (4 * p + v) = r - 1 := by rw [hx]; exact w
      obtain ⟨k1, k2, k3, k4⟩ := rel_ok hV g1 hp (by omega) hr2 hr w'
      have hrl := C_relays hV (hcs.fr hk h2) h1 (p := p) (v := v) (by omega) (by omega) (fun c hc => by rw [(g3 c).1]; exact h99 c hc) (by rw [w']; omega)
      by_cases hrel : rlN R T p v = true
      · obtain ⟨-, -, c3⟩ := h1.2.2.2.1 _ hcl
        obtain ⟨c4, c5⟩ := c3 k1
        have hwith := Chn_with (p := p) (g := fun i => if i = T (5 + (T 2 (4 * p + v) - 1)) 4 then p else T (5 + (T 2 (4 * p + v) - 1)) (6 + i)) c5 (by omega) (by omega) (fun i hi => by rw [if_neg (by omega)]) (by rw [if_pos rfl])
        have hct : fb_ct (fun c => decide (P 1 c = r - 1)) (4 * p + v) + 1 ≤ fb_ct (fun c => decide (P 1 c = r - 1)) 32 := by
          have : fb_ct (fun c => decide (P 1 c = r - 1)) (4 * p + v + 1) ≤ fb_ct (fun c => decide (P 1 c = r - 1)) 32 := fb_ct_mono _ (by omega)
          rw [fb_ct_succ, if_pos (by simpa using w)] at this
          exact this
        obtain ⟨N', p1, p2, p3⟩ := C_all hk hV (hcs.fr hk h2) (hS.fr h2) h1 g1 (by omega) (by omega) hr hp k4 hwith
        refine ⟨N', ?_, ?_, h2.tr p3⟩
        · show f_Run_relayAll_L15 k (nI r) (nI p) (nI v) N = _
          rw [start, if_pos w, hrl, bnd_some, hrel, if_neg (by decide)]
          unfold f_Run_sendOthers f_Run_sendOthers_J11
          rw [bnd_id, p1, bnd_some, nI_succ]
        · unfold sRel
          rw [if_pos (by rw [w', hrel]; simp)]
          exact p2
      · have hrel' : rlN R T p v = false := by simpa using hrel
        refine ⟨N, ?_, ?_, h2⟩
        · show f_Run_relayAll_L15 k (nI r) (nI p) (nI v) N = _
          rw [start, if_pos w, hrl, bnd_some, hrel', if_pos (by decide), nI_succ]
        · unfold sRel
          rw [if_neg (by rw [hrel']; simp)]
          exact h1
    · refine ⟨N, ?_, ?_, h2⟩
      · show f_Run_relayAll_L15 k (nI r) (nI p) (nI v) N = _
        rw [start, if_neg w, nI_succ]
      · rw [sRel_no (by rw [hx]; exact w)]
        exact h1
  · rintro N ⟨h1, h2⟩
    refine ⟨N, ?_, h1, h2⟩
    show f_Run_relayAll_L15 k (nI r) (nI p) (nI 4) N = _
    unfold f_Run_relayAll_L15
    rw [j4, if_pos ((nI_leI (by decide) (by decide)).mpr (Nat.le_refl _))]
theorem C_relayAll {k r sr : Nat} {R : Nat → Nat} {dl : Nat → Nat → Nat → Nat} {Q : Tab} {M : Mem} (hk : 112 ≤ k) (hV : PV R) (hcs : CS R M) (hS : SC k R dl M) (hC : RC k r sr Q M) (hI : INV R r Q) (hr2 : 2 ≤ r) (hr : r ≤ 8) (hB : Q 0 0 + 7 * fb_ct (fun c => decide (Q 1 c = r - 1)) 32 ≤ 212) : ∃ M', f_Run_relayAll k M (nI r) = some M' ∧ RC k r sr (sHons R dl r Q) M' ∧ FrC k M M' := by
  have hn := pv_n hV
  unfold f_Run_relayAll f_Run_relayAll_J2
  rw [bnd_id]
  unfold f_Run_relayAll_W2 sHons
  refine loop_enc (fun i s => (nI i, s)) (R 0) (fun p N => RC k r sr (itr (fun p Q => sHon R dl r p Q) p Q) N ∧ FrC k M N) _ ?_ ?_ 0 M (Nat.zero_le _) ⟨hC, FrC.rf⟩
  · rintro p N hp ⟨h1, h2⟩
    left
    have ep : itr (fun p Q => sHon R dl r p Q) (p + 1) Q = sHon R dl r p (itr (fun p Q => sHon R dl r p Q) p Q) := rfl
    obtain ⟨g1, g2, g3, g4⟩ := sHons_sp (dl := dl) hV hI (by omega) hr p (by omega)
    rw [if_neg (by omega)] at g2
    have hcong : ∀ n, fb_ct (fun c => decide (itr (fun p Q => sHon R dl r p Q) p Q 1 c = r - 1)) n = fb_ct (fun c => decide (Q 1 c = r - 1)) n := fun n => fb_ct_cong (fun c _ => by rw [(g3 c).1])
    obtain ⟨N', p1, p2, p3⟩ := C_rels hk hV (hcs.fr hk h2) (hS.fr h2) h1 g1 hp hr2 hr (by rw [hcong, hcong]; omega)
    refine ⟨N', ?_, ?_, h2.tr p3⟩
    · show f_Run_relayAll_L2 k (nI r) (nI p) N = _
      unfold f_Run_relayAll_L2
      rw [(hcs.fr hk h2).1, if_neg (nI_ge hp (by omega))]
      unfold f_Run_relayAll_J15
      rw [p1, bnd_some, nI_succ]
    · rw [ep]
      unfold sHon
      by_cases hl : lie R p = true
      · rw [if_pos hl]
        rw [sRels_lie (fun v hv => ?_) 4 (Nat.le_refl _)] at p2
        · exact p2
        · rw [(g3 _).1]
          have := (hI.2.1 (4 * p + v) (by omega)).2.2.2.2.2.1 (Or.inl (by rw [show (4 * p + v) / 4 = p by omega]; exact hl))
          omega
      · rw [if_neg hl, if_neg (by omega)]
        exact p2
  · rintro N ⟨h1, h2⟩
    refine ⟨N, ?_, h1, h2⟩
    show f_Run_relayAll_L2 k (nI r) (nI (R 0)) N = _
    unfold f_Run_relayAll_L2
    rw [(hcs.fr hk h2).1, if_pos ((nI_leI (by omega) (by omega)).mpr (Nat.le_refl _))]
theorem sHons_1 {R : Nat → Nat} {dl : Nat → Nat → Nat → Nat} {Q : Tab} : ∀ p, itr (fun p Q => sHon R dl 1 p Q) p Q = if R 1 < p ∧ lie R (R 1) = false then sAll R dl 1 (R 1) (R 2) 1 (fun _ => R 1) (R 0) Q else Q := by
  intro p
  induction p with
  | zero => rw [if_neg (by omega)]; rfl
  | succ p ih =>
    have ep : itr (fun p Q => sHon R dl 1 p Q) (p + 1) Q = sHon R dl 1 p (itr (fun p Q => sHon R dl 1 p Q) p Q) := rfl
    rw [ep, ih]
    unfold sHon
    by_cases hl : lie R p = true
    · rw [if_pos hl]
      by_cases e : R 1 < p ∧ lie R (R 1) = false
      · rw [if_pos e, if_pos ⟨by omega, e.2⟩]
      · rw [if_neg e, if_neg]
        rintro ⟨w1, w2⟩
        by_cases z : p = R 1
        · rw [z, w2] at hl; cases hl
        · exact e ⟨by omega, w2⟩
    · rw [if_neg hl, if_pos rfl]
      by_cases z : p = R 1
      · subst z
        rw [if_pos rfl, if_neg (by omega), if_pos ⟨by omega, by simpa using hl⟩]
      · rw [if_neg z]
        by_cases e : R 1 < p ∧ lie R (R 1) = false
        · rw [if_pos e, if_pos ⟨by omega, e.2⟩]
        · rw [if_neg e, if_neg (fun w => e ⟨by omega, w.2⟩)]
theorem C_sendFirst {k sr : Nat} {R : Nat → Nat} {dl : Nat → Nat → Nat → Nat} {Q : Tab} {M : Mem} (hk : 112 ≤ k) (hV : PV R) (hcs : CS R M) (hS : SC k R dl M) (hC : RC k 1 sr Q M) (hI : INV R 1 Q) (hB : Q 0 0 + 7 ≤ 212) : ∃ M', f_Run_sendFirst k M = some M' ∧ RC k 1 sr (sHons R dl 1 Q) M' ∧ FrC k M M' := by
  have hn := pv_n hV
  have hR1 : R 1 < 8 := by have := hV.1; omega
  unfold f_Run_sendFirst sHons
  rw [sHons_1, hcs.2.2.1, C_isHonest hV hcs.1 hcs.2.1 (by omega)]
  by_cases hs : R 1 < R 0 ∧ lie R (R 1) = false
  · rw [if_pos hs, if_neg (by rw [hs.2]; simp [hs.1, bI])]
    have hwith := Chn_with (p := R 1) (g := fun _ => R 1) (Chn_0 (fun _ => R 1)) (by decide) hR1 (fun _ _ => rfl) rfl
    obtain ⟨N', p1, p2, p3⟩ := C_all hk hV hcs hS hC hI hB (by omega) (by omega) hs.1 (fst_ok hV hI hs) hwith
    refine ⟨N', ?_, p2, p3⟩
    rw [hcs.2.2.2.1, bnd_id]
    unfold f_Run_sendOthers f_Run_sendOthers_J11
    rw [bnd_id]
    exact p1
  · rw [if_neg hs, if_pos]
    · exact ⟨M, rfl, hC, FrC.rf⟩
    · rw [bI_0]
      by_cases w : R 1 < R 0
      · have : lie R (R 1) = true := by
          cases e : lie R (R 1) with
          | true => rfl
          | false => exact absurd ⟨w, e⟩ hs
        simp [this]
      · simp [w]
