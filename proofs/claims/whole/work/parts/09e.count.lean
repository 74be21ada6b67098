/-! how many letters there are at most; a round in the table -/
def exB (Q : Tab) (r : Nat) (c : Nat) : Bool := decide (1 ≤ Q 1 c) && decide (Q 1 c < r)
noncomputable def sN (R : Nat → Nat) : Nat := by
  classical
  exact if sdH R then 1 else 0
theorem ct_a : ∀ a, a < 8 → ∀ b, b < 4 → fb_ct (fun c => decide (c % 4 = b) && decide (c ≠ 4 * a + b)) 32 = 7 := by decide +kernel
theorem ct_b : ∀ a, a < 8 → fb_ct (fun c => decide (c / 4 ≠ a)) 32 = 28 := by decide +kernel
theorem ct_28 {R : Nat → Nat} {r : Nat} {Q : Tab} (hV : PV R) (h : INV R r Q) {q : Nat} (hq : q ≤ 99) : fb_ct (exB Q q) 32 + sN R ≤ 28 := by
  have hn := pv_n hV
  obtain ⟨h1, h2, h3⟩ := h
  have hv := hV.2.1
  unfold sN
  by_cases hs : sdH R
  · rw [if_pos hs]
    have : fb_ct (exB Q q) 32 ≤ fb_ct (fun c => decide (c % 4 = R 2) && decide (c ≠ 4 * R 1 + R 2)) 32 := by
      refine fb_ct_sub (fun c hc he => ?_)
      unfold exB at he
      simp only [Bool.and_eq_true, decide_eq_true_eq] at he ⊢
      obtain ⟨c1, c2, c3, c4, c5, c6, c7, c8⟩ := h2 c hc
      refine ⟨c7 hs (by omega), fun w => ?_⟩
      have := c8.mpr ⟨hs, w⟩
      omega
    rw [ct_a (R 1) (by have := hs.1; omega) (R 2) hv] at this
    omega
  · rw [if_neg hs]
    have : fb_ct (exB Q q) 32 ≤ fb_ct (fun c => decide (c / 4 ≠ R 1)) 32 := by
      refine fb_ct_sub (fun c hc he => ?_)
      unfold exB at he
      simp only [Bool.and_eq_true, decide_eq_true_eq] at he ⊢
      obtain ⟨c1, c2, c3, c4, c5, c6, c7, c8⟩ := h2 c hc
      intro w
      by_cases hl : lie R (R 1) = true
      · have := c6 (Or.inl (by rw [w]; exact hl))
        omega
      · by_cases hlt : R 1 < R 0
        · exact hs ⟨hlt, by simpa using hl⟩
        · have := c6 (Or.inr (by omega))
          omega
    have hR1 : R 1 < 8 := by
      have := hV.1
      omega
    rw [ct_b (R 1) hR1] at this
    omega
theorem sRel_no {R : Nat → Nat} {dl : Nat → Nat → Nat → Nat} {r p v : Nat} {Q : Tab} (h : Q 1 (4 * p + v) ≠ r - 1) : sRel R dl r p v Q = Q := by
  unfold sRel
  rw [if_neg (by simp [h])]
/-- the letter that an honest party relays may be sent -/
theorem rel_ok {R : Nat → Nat} {r : Nat} {Q : Tab} (hV : PV R) (h : INV R r Q) {p v : Nat} (hp : p < R 0) (hv : v < 4) (hr : 2 ≤ r) (hr8 : r ≤ 8) (he : Q 1 (4 * p + v) = r - 1) : Q 2 (4 * p + v) ≠ 0 ∧ Q 2 (4 * p + v) - 1 < Q 0 0 ∧ Q (5 + (Q 2 (4 * p + v) - 1)) 4 ≤ 7 ∧ ∀ t, t < R 0 → t ≠ p → ROK R r Q p t v (Q (5 + (Q 2 (4 * p + v) - 1)) 4 + 1) (fun i => if i = Q (5 + (Q 2 (4 * p + v) - 1)) 4 then p else Q (5 + (Q 2 (4 * p + v) - 1)) (6 + i)) := by
  have hn := pv_n hV
  obtain ⟨h1, h2, h3⟩ := h
  obtain ⟨c1, c2, c3, c4, c5, c6, c7, c8⟩ := h2 (4 * p + v) (by omega)
  have hb : Q 2 (4 * p + v) ≠ 0 := c3.mpr (by omega)
  obtain ⟨d1, d2⟩ := c5 hb
  have dm : (4 * p + v) % 4 = v := by omega
  have dp : (4 * p + v) / 4 = p := by omega
  rw [dm] at d1
  rw [dp] at d2
  have hlt : Q 2 (4 * p + v) - 1 < Q 0 0 := by omega
  obtain ⟨⟨a1, a2, a3, a4, a5, a6, a7⟩, b1, b2, b3, b4⟩ := h1 _ hlt
  generalize hb' : Q 2 (4 * p + v) - 1 = b at *
  have hm7 : Q (5 + b) 4 ≤ 7 := by
    have := fb_holes 8 (Q (5 + b) 4 + 1) (fun i => if i = Q (5 + b) 4 then p else Q (5 + b) (6 + i)) (fun i hi => by
      split
      · omega
      · have := (b1 i (by omega)).1
        omega) (fun i j hij hj => by
      rw [if_neg (by omega)]
      split
      · exact d2 i (by omega)
      · exact b2 i j hij (by omega))
    omega
  refine ⟨hb, hlt, hm7, fun t ht htp => ⟨by omega, hp, ht, hv, by omega, by omega, fun j hj => ?_, fun i j hij hj => ?_, fun hs ⟨j, hj, hw⟩ => ?_⟩⟩
  · dsimp only
    split
    · exact ⟨hp, fun _ => by omega⟩
    · have := b1 j (by omega)
      rw [d1] at this
      exact this
  · dsimp only
    rw [if_neg (by omega)]
    split
    · exact d2 i (by omega)
    · exact b2 i j hij (by omega)
  · dsimp only at hw
    split at hw
    · have := c7 hs (by omega)
      omega
    · rw [← d1]
      exact b4 hs ⟨j, by omega, hw⟩
theorem sRel_sp {R : Nat → Nat} {dl : Nat → Nat → Nat → Nat} {r : Nat} {Q : Tab} (hV : PV R) (h : INV R r Q) {p v : Nat} (hp : p < R 0) (hv : v < 4) (hr : 2 ≤ r) (hr8 : r ≤ 8) : INV R r (sRel R dl r p v Q) ∧ sRel R dl r p v Q 0 0 ≤ Q 0 0 + 7 * (if Q 1 (4 * p + v) = r - 1 then 1 else 0) ∧ (∀ c, sRel R dl r p v Q 1 c = Q 1 c ∧ sRel R dl r p v Q 2 c = Q 2 c) ∧ sRel R dl r p v Q 0 1 = Q 0 1 := by
  have hn := pv_n hV
  by_cases he : Q 1 (4 * p + v) = r - 1
  · obtain ⟨k1, k2, k3, k4⟩ := rel_ok hV h hp hv hr hr8 he
    rw [if_pos he]
    unfold sRel
    by_cases hc : (decide (Q 1 (4 * p + v) = r - 1) && rlN R Q p v) = true
    · rw [if_pos hc]
      obtain ⟨g1, g2, g3, g4, g5⟩ := sAll_sp (dl := dl) h k4 (R 0) (Nat.le_refl _)
      rw [if_pos hp] at g2
      exact ⟨g1, by omega, g3, g5⟩
    · rw [if_neg hc]
      exact ⟨h, by omega, fun c => ⟨rfl, rfl⟩, rfl⟩
  · rw [sRel_no he]
    exact ⟨h, by omega, fun c => ⟨rfl, rfl⟩, rfl⟩
/-- the first letter of an honest sender may be sent -/
theorem fst_ok {R : Nat → Nat} {Q : Tab} (hV : PV R) (h : INV R 1 Q) (hs : sdH R) : ∀ t, t < R 0 → t ≠ R 1 → ROK R 1 Q (R 1) t (R 2) 1 (fun _ => R 1) := by
  have hn := pv_n hV
  have hv := hV.2.1
  intro t ht htp
  have hc := h.2.1 (4 * R 1 + R 2) (by have := hs.1; omega)
  obtain ⟨c1, c2, c3, c4, c5, c6, c7, c8⟩ := hc
  have := c8.mpr ⟨hs, rfl⟩
  exact ⟨by omega, hs.1, ht, hv, by omega, by omega, fun j hj => ⟨hs.1, fun _ => by show Q 1 (4 * R 1 + R 2) ≠ 99; omega⟩, fun i j hij hj => by omega, fun _ _ => rfl⟩
/-- all honest parties' sending in a round -/
theorem sHons_sp {R : Nat → Nat} {dl : Nat → Nat → Nat → Nat} {r : Nat} {Q : Tab} (hV : PV R) (h : INV R r Q) (hr : 1 ≤ r) (hr8 : r ≤ 8) : ∀ p, p ≤ R 0 → INV R r (itr (fun p Q => sHon R dl r p Q) p Q) ∧ itr (fun p Q => sHon R dl r p Q) p Q 0 0 ≤ Q 0 0 + 7 * (if r = 1 then (if R 1 < p then sN R else 0) else fb_ct (fun c => decide (Q 1 c = r - 1)) (4 * p)) ∧ (∀ c, itr (fun p Q => sHon R dl r p Q) p Q 1 c = Q 1 c ∧ itr (fun p Q => sHon R dl r p Q) p Q 2 c = Q 2 c) ∧ itr (fun p Q => sHon R dl r p Q) p Q 0 1 = Q 0 1 := by
  intro p
  induction p with
  | zero => intro _; exact ⟨h, Nat.le_add_right _ _, fun c => ⟨rfl, rfl⟩, rfl⟩
  | succ p ih =>
    intro hp
    obtain ⟨g1, g2, g3, g4⟩ := ih (by omega)
    have es : itr (fun p Q => sHon R dl r p Q) (p + 1) Q = sHon R dl r p (itr (fun p Q => sHon R dl r p Q) p Q) := rfl
    rw [es]
    generalize itr (fun p Q => sHon R dl r p Q) p Q = P at g1 g2 g3 g4
    have hmono : fb_ct (fun c => decide (Q 1 c = r - 1)) (4 * p) ≤ fb_ct (fun c => decide (Q 1 c = r - 1)) (4 * (p + 1)) := fb_ct_mono _ (by omega)
    have hsn : sN R ≤ 1 := by unfold sN; split <;> omega
    unfold sHon
    by_cases hl : lie R p = true
    · rw [if_pos hl]
      refine ⟨g1, ?_, g3, g4⟩
      by_cases e1 : r = 1
      · rw [if_pos e1] at g2 ⊢
        split at g2 <;> split <;> omega
      · rw [if_neg e1] at g2 ⊢
        omega
    · rw [if_neg hl]
      by_cases e1 : r = 1
      · subst e1
        rw [if_pos rfl] at g2 ⊢
        rw [if_pos rfl]
        by_cases ep : p = R 1
        · subst ep
          have hs : sdH R := ⟨by omega, by simpa using hl⟩
          rw [if_pos rfl]
          obtain ⟨k1, k2, k3, k4, k5⟩ := sAll_sp (dl := dl) g1 (fst_ok hV g1 hs) (R 0) (Nat.le_refl _)
          rw [if_pos hs.1] at k2
          have hn := pv_n hV
          refine ⟨k1, ?_, fun c => ⟨(k3 c).1.trans (g3 c).1, (k3 c).2.trans (g3 c).2⟩, k5.trans g4⟩
          rw [if_neg (by omega)] at g2
          rw [if_pos (by omega)]
          unfold sN
          rw [if_pos hs]
          omega
        · rw [if_neg ep]
          refine ⟨g1, ?_, g3, g4⟩
          split at g2 <;> split <;> omega
      · rw [if_neg e1] at g2 ⊢
        rw [if_neg e1]
        have inner : ∀ v, v ≤ 4 → INV R r (itr (fun v Q => sRel R dl r p v Q) v P) ∧ itr (fun v Q => sRel R dl r p v Q) v P 0 0 ≤ Q 0 0 + 7 * fb_ct (fun c => decide (Q 1 c = r - 1)) (4 * p + v) ∧ (∀ c, itr (fun v Q => sRel R dl r p v Q) v P 1 c = Q 1 c ∧ itr (fun v Q => sRel R dl r p v Q) v P 2 c = Q 2 c) ∧ itr (fun v Q => sRel R dl r p v Q) v P 0 1 = Q 0 1 := by
          intro v
          induction v with
          | zero => intro _; exact ⟨g1, g2, g3, g4⟩
          | succ v ihv =>
            intro hv
            obtain ⟨k1, k2, k3, k4⟩ := ihv (by omega)
            have ev : itr (fun v Q => sRel R dl r p v Q) (v + 1) P = sRel R dl r p v (itr (fun v Q => sRel R dl r p v Q) v P) := rfl
            rw [ev]
            obtain ⟨m1, m2, m3, m4⟩ := sRel_sp (dl := dl) hV k1 (p := p) (v := v) (by omega) (by omega) (by omega) hr8
            refine ⟨m1, ?_, fun c => ⟨(m3 c).1.trans (k3 c).1, (m3 c).2.trans (k3 c).2⟩, m4.trans k4⟩
            rw [(k3 _).1] at m2
            rw [show 4 * p + (v + 1) = 4 * p + v + 1 by omega, fb_ct_succ]
            by_cases w : Q 1 (4 * p + v) = r - 1
            · rw [if_pos w] at m2
              rw [if_pos (by simpa using w)]
              omega
            · rw [if_neg w] at m2
              rw [if_neg (by simpa using w)]
              omega
        have := inner 4 (Nat.le_refl _)
        rw [show 4 * p + 4 = 4 * (p + 1) by omega] at this
        exact this

theorem plan_pm {R : Nat → Nat} {pl : Nat → Nat} (i : Nat) : prec pl (6 + i) = pl (5 + i) := by
  unfold prec
  rw [lrec_6]
/-- a plan as it may stand in a play -/
def plOK (R : Nat → Nat) (pl : Nat → Nat) : Prop := 1 ≤ pl 0 ∧ pl 0 ≤ 8 ∧ pl 1 < R 0 ∧ pl 2 < R 0 ∧ pl 3 < 4 ∧ 1 ≤ pl 4 ∧ pl 4 ≤ 8 ∧ (∀ i, i < pl 4 → pl (5 + i) < R 0) ∧ ∀ i j, i < j → j < pl 4 → pl (5 + i) ≠ pl (5 + j)
/-- a plan that isn't forged may be sent -/
theorem plan_ok {R : Nat → Nat} {r : Nat} {Q : Tab} {pl : Nat → Nat} (hV : PV R) (h : INV R r Q) (hp : plOK R pl) (hr8 : r ≤ 8) (he : pl 0 = r) (hf : anyB (fun i => decide (r < Q 3 (4 * pl (5 + i) + pl 3))) (pl 4) = false) : ROK R r Q (pl 1) (pl 2) (pl 3) (pl 4) (fun i => pl (5 + i)) := by
  have hn := pv_n hV
  obtain ⟨p0, p0', p1, p2, p3, p4, p4', pm, pd⟩ := hp
  obtain ⟨h1, h2, h3⟩ := h
  -- a mark that can be used and is honest: there is a letter with it
  have key : ∀ j, j < pl 4 → lie R (pl (5 + j)) = false → ∃ i, i < Q 0 0 ∧ Q (5 + i) 3 = pl 3 ∧ ∃ e, e < Q (5 + i) 4 ∧ Q (5 + i) (6 + e) = pl (5 + j) := by
    intro j hj hl
    have hm := pm j hj
    have hu := anyB_f.mp hf j hj
    simp only [decide_eq_false_iff_not] at hu
    have d1 : (4 * pl (5 + j) + pl 3) / 4 = pl (5 + j) := by omega
    have d2 : (4 * pl (5 + j) + pl 3) % 4 = pl 3 := by omega
    obtain ⟨-, u2⟩ := h3 (4 * pl (5 + j) + pl 3) (by omega)
    rw [d1, d2] at u2
    obtain ⟨u3, -⟩ := u2 hl
    rcases u3 with u3 | ⟨i, w1, w2, w3, w4, w5, w6⟩
    · omega
    · exact ⟨i, w1, w5, w6⟩
  refine ⟨by omega, p1, p2, p3, p4, p4', fun j hj => ⟨pm j hj, fun hl => ?_⟩, pd, fun hs hw => ?_⟩
  · obtain ⟨i, w1, w2, e, w3, w4⟩ := key j hj hl
    obtain ⟨-, b1, -⟩ := h1 i w1
    have := (b1 e w3).2 (by rw [w4]; exact hl)
    rw [w4, w2] at this
    exact this
  · obtain ⟨j, hj, hw⟩ := hw
    have hw : pl (5 + j) = R 1 := hw
    obtain ⟨i, w1, w2, e, w3, w4⟩ := key j hj (by rw [hw]; exact hs.2)
    obtain ⟨-, -, -, -, b4⟩ := h1 i w1
    rw [← w2]
    exact b4 hs ⟨e, w3, by rw [w4]; exact hw⟩
theorem sPlan_sp {R : Nat → Nat} {dl : Nat → Nat → Nat → Nat} {r l : Nat} {Q : Tab} {pl : Nat → Nat} {al : Bool} (hV : PV R) (h : INV R r Q) (hp : plOK R pl) (hr8 : r ≤ 8) : INV R r (sPlan R dl r l pl al Q) ∧ sPlan R dl r l pl al Q 0 0 ≤ Q 0 0 + (if pl 0 = r then 1 else 0) ∧ (∀ c, sPlan R dl r l pl al Q 1 c = Q 1 c ∧ sPlan R dl r l pl al Q 2 c = Q 2 c) := by
  unfold sPlan
  by_cases hc : (al && decide (pl 0 = r) && lie R (pl 1)) = true
  · rw [if_pos hc]
    simp only [Bool.and_eq_true, decide_eq_true_eq] at hc
    obtain ⟨⟨-, e0⟩, hl⟩ := hc
    by_cases hf : anyB (fun i => decide (r < Q 3 (4 * pl (5 + i) + pl 3))) (pl 4) = true
    · rw [if_pos hf]
      exact ⟨h.fg _, by show Q 0 0 ≤ _; omega, fun c => ⟨upN_ne (by omega), upN_ne (by omega)⟩⟩
    · rw [if_neg hf, if_pos e0]
      have hk := plan_ok hV h hp hr8 e0 (by simpa using hf)
      have hs := h.send (dl := dl) hk
      have er : prec pl = lrec r (pl 1) (pl 2) (pl 3) (pl 4) (fun i => pl (5 + i)) := by unfold prec; rw [e0]
      rw [er]
      exact ⟨hs, by rw [sSend_L]; omega, fun c => ⟨sSend_1 _ _ _ _ _, sSend_2 _ _ _ _ _⟩⟩
  · rw [if_neg hc]
    exact ⟨h, by omega, fun c => ⟨rfl, rfl⟩⟩
theorem sPlans_sp {R : Nat → Nat} {dl : Nat → Nat → Nat → Nat} {r : Nat} {Q : Tab} {PL : Nat → Nat → Nat} {al : Nat → Bool} (hV : PV R) (h : INV R r Q) (hr8 : r ≤ 8) : ∀ n, (∀ l, l < n → plOK R (PL l)) → INV R r (itr (fun l Q => sPlan R dl r l (PL l) (al l) Q) n Q) ∧ itr (fun l Q => sPlan R dl r l (PL l) (al l) Q) n Q 0 0 ≤ Q 0 0 + fb_ct (fun l => decide (PL l 0 = r)) n ∧ (∀ c, itr (fun l Q => sPlan R dl r l (PL l) (al l) Q) n Q 1 c = Q 1 c ∧ itr (fun l Q => sPlan R dl r l (PL l) (al l) Q) n Q 2 c = Q 2 c) := by
  intro n
  induction n with
  | zero => intro _; exact ⟨h, Nat.le_refl _, fun c => ⟨rfl, rfl⟩⟩
  | succ n ih =>
    intro hp
    obtain ⟨g1, g2, g3⟩ := ih (fun l hl => hp l (by omega))
    have es : itr (fun l Q => sPlan R dl r l (PL l) (al l) Q) (n + 1) Q = sPlan R dl r n (PL n) (al n) (itr (fun l Q => sPlan R dl r l (PL l) (al l) Q) n Q) := rfl
    rw [es]
    obtain ⟨m1, m2, m3⟩ := sPlan_sp (dl := dl) (l := n) (al := al n) hV g1 (hp n (by omega)) hr8
    refine ⟨m1, ?_, fun c => ⟨(m3 c).1.trans (g3 c).1, (m3 c).2.trans (g3 c).2⟩⟩
    rw [fb_ct_succ]
    by_cases w : PL n 0 = r
    · rw [if_pos w] at m2
      rw [if_pos (by simpa using w)]
      omega
    · rw [if_neg w] at m2
      rw [if_neg (by simpa using w)]
      omega
theorem sRds_sp {R : Nat → Nat} {r : Nat} {Q : Tab} (hV : PV R) (h : INV R r Q) (hr : 1 ≤ r) (hr8 : r ≤ 8) : ∀ k, k ≤ Q 0 0 → INV R r (itr (fun k Q => sRd R r k Q) k Q) ∧ (∀ b, itr (fun k Q => sRd R r k Q) k Q 0 b = Q 0 b) ∧ (∀ b, itr (fun k Q => sRd R r k Q) k Q 3 b = Q 3 b) ∧ (∀ i b, itr (fun k Q => sRd R r k Q) k Q (5 + i) b = Q (5 + i) b) ∧ (∀ c, c < 32 → itr (fun k Q => sRd R r k Q) k Q 1 c = Q 1 c ∨ (Q 1 c = 99 ∧ itr (fun k Q => sRd R r k Q) k Q 1 c = r)) := by
  intro k
  induction k with
  | zero => intro _; exact ⟨h, fun _ => rfl, fun _ => rfl, fun _ _ => rfl, fun _ _ => Or.inl rfl⟩
  | succ k ih =>
    intro hk
    obtain ⟨g1, g2, g3, g4, g5⟩ := ih (by omega)
    have es : itr (fun k Q => sRd R r k Q) (k + 1) Q = sRd R r k (itr (fun k Q => sRd R r k Q) k Q) := rfl
    rw [es]
    obtain ⟨m1, m2⟩ := INV.read hV g1 (k := k) (by rw [g2]; omega) hr hr8
    obtain ⟨z0, z3, z5, z4⟩ := sRd_sp R r k (itr (fun k Q => sRd R r k Q) k Q)
    refine ⟨m1, fun b => (z0 b).trans (g2 b), fun b => (z3 b).trans (g3 b), fun i b => (z5 i b).trans (g4 i b), fun c hc => ?_⟩
    rcases m2 c hc with w | ⟨w1, w2⟩
    · rw [w]
      exact g5 c hc
    · rw [w2]
      rcases g5 c hc with u | ⟨u1, u2⟩
      · exact Or.inr ⟨by rw [← u]; exact w1, rfl⟩
      · exact Or.inr ⟨u1, rfl⟩
theorem INV0 {R : Nat → Nat} (hV : PV R) : INV R 0 (sQ0 R) := by
  have hn := pv_n hV
  have hv := hV.2.1
  refine ⟨fun i hi => absurd hi (Nat.not_lt_zero i), fun c hc => ?_, fun c hc => ?_⟩
  · have e1 : sQ0 R 1 c = if R 1 < R 0 ∧ lie R (R 1) = false ∧ c = 4 * R 1 + R 2 then 0 else 99 := rfl
    have e2 : sQ0 R 2 c = 0 := rfl
    have e3 : sQ0 R 3 c = if lie R (c / 4) = true then 0 else 1000 := rfl
    have e0 : sQ0 R 0 0 = 0 := rfl
    unfold COK
    rw [e0, e1, e2, e3]
    by_cases hs : R 1 < R 0 ∧ lie R (R 1) = false ∧ c = 4 * R 1 + R 2
    · rw [if_pos hs]
      obtain ⟨s1, s2, s3⟩ := hs
      have d1 : c / 4 = R 1 := by omega
      have d2 : c % 4 = R 2 := by omega
      refine ⟨by split <;> omega, Nat.le_refl _, ⟨fun w => absurd rfl w, fun w => by omega⟩, Or.inr (Nat.le_refl _), fun w => absurd rfl w, fun w => ?_, fun _ _ => d2, ⟨fun _ => ⟨⟨s1, s2⟩, s3⟩, fun _ => rfl⟩⟩
      rw [d1, s2] at w
      rcases w with w | w
      · cases w
      · omega
    · rw [if_neg hs]
      refine ⟨by split <;> omega, Nat.le_refl _, ⟨fun w => absurd rfl w, fun w => absurd rfl w.2⟩, Or.inl rfl, fun w => absurd rfl w, fun _ => rfl, fun _ w => absurd rfl w, ⟨fun w => by omega, fun w => absurd ⟨w.1.1, w.1.2, w.2⟩ hs⟩⟩
  · have e3 : sQ0 R 3 c = if lie R (c / 4) = true then 0 else 1000 := rfl
    refine ⟨fun w => by rw [e3, if_pos w], fun w => ⟨Or.inl (by rw [e3, if_neg (by rw [w]; decide)]), fun i hi => absurd hi (Nat.not_lt_zero i)⟩⟩
