/-! the class's run holds the table, step by step -/
def CS (R : Nat → Nat) (M : Mem) : Prop := M 0 0 = nI (R 0) ∧ M 0 1 = nI (R 6) ∧ M 1 0 = nI (R 1) ∧ M 1 1 = nI (R 2) ∧ M 1 3 = nI (R 4) ∧ M 1 4 = nI (R 5)
theorem CS.fr {k : Nat} {R : Nat → Nat} {M M' : Mem} (h : CS R M) (hk : 112 ≤ k) (hf : FrC k M M') : CS R M' := by
  unfold CS at h ⊢
  rw [hf.1 0 (by omega), hf.1 1 (by omega)]
  exact h
theorem lie_lt {R : Nat → Nat} (hV : PV R) {p : Nat} (h : lie R p = true) : p < R 0 := by
  obtain ⟨v0, v2, v3, v3', v4, v5, v5', v6, -⟩ := hV
  apply Classical.byContradiction
  intro hn
  have : (R 6).testBit p = false := Nat.testBit_lt_two_pow (Nat.lt_of_lt_of_le v6 (Nat.pow_le_pow_right (by decide) (by omega)))
  unfold lie at h
  rw [this] at h
  cases h
theorem C_hasParty {k n : Nat} {M : Mem} (h : M k 0 = nI n) (hn : n ≤ 8) {p : Nat} (hp : p < 2 ^ 31) : f_Play_hasParty k M (nI p) = decide (p < n) := by
  unfold f_Play_hasParty f_Play_hasParty_J16
  rw [if_neg (nI_pos hp), h]
  by_cases q : p < n
  · rw [if_neg (nI_ge q (by omega))]
    simp [q]
  · rw [if_pos ((nI_leI (by omega) hp).mpr (by omega))]
    simp [q]
theorem C_isLiar {k : Nat} {R : Nat → Nat} {M : Mem} (hV : PV R) (h0 : M k 0 = nI (R 0)) (h1 : M k 1 = nI (R 6)) {p : Nat} (hp : p < 32) : f_Play_isLiar k M (nI p) = lie R p := by
  have hn := pv_n hV
  have hl := pv_lie hV
  unfold f_Play_isLiar f_Play_isLiar_J23
  rw [C_hasParty h0 hn (by omega), h1]
  by_cases q : p < R 0
  · rw [if_neg (by simp [q, bI])]
    by_cases w : lie R p = true
    · rw [if_neg (fun z => by rw [bit_0 (by omega) hp] at z; unfold lie at w; rw [z] at w; cases w), w]
    · have w' : lie R p = false := by simpa using w
      rw [if_pos ((bit_0 (by omega) hp).mpr w'), w']
  · rw [if_pos (by simp [q, bI])]
    cases e : lie R p with
    | false => rfl
    | true => exact absurd (lie_lt hV e) q
theorem C_isHonest {k : Nat} {R : Nat → Nat} {M : Mem} (hV : PV R) (h0 : M k 0 = nI (R 0)) (h1 : M k 1 = nI (R 6)) {p : Nat} (hp : p < 32) : f_Play_isHonest k M (nI p) = (decide (p < R 0) && !lie R p) := by
  have hn := pv_n hV
  have hl := pv_lie hV
  unfold f_Play_isHonest f_Play_isHonest_J23
  rw [C_hasParty h0 hn (by omega), h1]
  by_cases q : p < R 0
  · rw [if_neg (by simp [q, bI])]
    by_cases w : lie R p = true
    · rw [if_neg (fun z => by rw [bit_0 (by omega) hp] at z; unfold lie at w; rw [z] at w; cases w), w]
      simp
    · have w' : lie R p = false := by simpa using w
      rw [if_pos ((bit_0 (by omega) hp).mpr w'), w']
      simp [q]
  · rw [if_pos (by simp [q, bI])]
    simp [q]
theorem INV.b2 {R : Nat → Nat} {r : Nat} {Q : Tab} (h : INV R r Q) : ∀ a, a < 32 → Q 2 a ≤ Q 0 0 := fun a ha => (h.2.1 a ha).2.1
theorem INV.b3 {R : Nat → Nat} {r : Nat} {Q : Tab} (h : INV R r Q) : ∀ a, a < 32 → Q 3 a ≤ 1000 := fun a ha => (h.2.1 a ha).1
theorem INV.b4 {R : Nat → Nat} {r : Nat} {Q : Tab} (h : INV R r Q) : ∀ i, i < Q 0 0 → Q (5 + i) 4 ≤ 8 := fun i hi => (h.1 i hi).1.2.2.2.2.2.2
set_option maxHeartbeats 1000000 in
theorem C_all {k r sr : Nat} {R : Nat → Nat} {dl : Nat → Nat → Nat → Nat} {Q : Tab} {M : Mem} (hk : 112 ≤ k) (hV : PV R) (hcs : CS R M) (hS : SC k R dl M) (hC : RC k r sr Q M) (hI : INV R r Q) (hL : Q 0 0 + 7 ≤ 212) {f v m : Nat} {mk : Nat → Nat} {c : Int32} (hr1 : 1 ≤ r) (hr : r ≤ 8) (hf : f < R 0) (hok : ∀ t, t < R 0 → t ≠ f → ROK R r Q f t v m mk) (hc : Chn c m mk) : ∃ M', f_Run_sendOthers_W11 k (nI r) (nI f) (nI v) c ((0 : Int32), M) = some M' ∧ RC k r sr (sAll R dl r f v m mk (R 0) Q) M' ∧ FrC k M M' := by
  have hn := pv_n hV
  unfold f_Run_sendOthers_W11
  refine loop_enc (fun i s => (nI i, s)) (R 0) (fun i N => RC k r sr (sAll R dl r f v m mk i Q) N ∧ FrC k M N) _ ?_ ?_ 0 M (Nat.zero_le _) ⟨hC, FrC.rf⟩
  · rintro i N hi ⟨h1, h2⟩
    have hN := hcs.fr hk h2
    have es : sAll R dl r f v m mk (i + 1) Q = if i = f then sAll R dl r f v m mk i Q else sSend R dl (lrec r f i v m mk) (sAll R dl r f v m mk i Q) := rfl
    obtain ⟨g1, g2, g3, g4, g5⟩ := sAll_sp (dl := dl) hI hok i (by omega)
    left
    by_cases e : i = f
    · refine ⟨N, ?_, by rw [es, if_pos e]; exact h1, h2⟩
      show f_Run_sendOthers_L11 k (nI r) (nI f) (nI v) c (nI i) N = _
      unfold f_Run_sendOthers_L11
      rw [hN.1, if_neg (nI_ge (by omega) (by omega)), if_pos (by rw [e]), nI_succ]
    · have hlt : sAll R dl r f v m mk i Q 0 0 < 212 := by split at g2 <;> omega
      obtain ⟨N', p1, p2, p3⟩ := C_post (hS.fr h2) h1 hlt (f := f) (t := i) (v := v) (m := m) (mk := mk) (c := c) hr1 hr (by omega) (by omega) hc g1.b2
      refine ⟨N', ?_, by rw [es, if_neg e]; exact p2, h2.tr p3⟩
      show f_Run_sendOthers_L11 k (nI r) (nI f) (nI v) c (nI i) N = _
      unfold f_Run_sendOthers_L11
      rw [hN.1, if_neg (nI_ge (by omega) (by omega)), if_neg (fun q => e ((nI_eq (by omega) (by omega)).mp q)), way_of, p1, bnd_some, nI_succ]
  · rintro N ⟨h1, h2⟩
    refine ⟨N, ?_, h1, h2⟩
    show f_Run_sendOthers_L11 k (nI r) (nI f) (nI v) c (nI (R 0)) N = _
    unfold f_Run_sendOthers_L11
    rw [(hcs.fr hk h2).1, if_pos ((nI_leI (by omega) (by omega)).mpr (Nat.le_refl _))]
theorem C_relays {k r sr : Nat} {R : Nat → Nat} {Q : Tab} {M : Mem} (hV : PV R) (hcs : CS R M) (hC : RC k r sr Q M) {p v : Nat} (hp : p < 8) (hv : v < 4) (h9 : ∀ c, c < 32 → Q 1 c ≤ 99) (he : Q 1 (4 * p + v) ≠ 99) : f_Run_relays k M (nI p) (nI v) = some (rlN R Q p v) := by
  obtain ⟨h1, h2, h3, h4, h5, h6⟩ := hC
  have h5' := hV.2.2.2.2.2.2.1
  have hx : ∀ o, o < 4 → M (k + 7) (4 * p + o) = nI (Q 1 (4 * p + o)) := fun o ho => (h4 _ (by omega)).1
  have hb := h9 (4 * p + v) (by omega)
  unfold f_Run_relays
  rw [cell_of, gIn_nI (by omega) (by decide), nI_clamp (by omega), hx v hv, j1]
  unfold rlN
  by_cases h0 : 1 ≤ Q 1 (4 * p + v)
  · rw [if_pos ((nI_leI (by omega) (by omega)).mpr h0)]
    unfold f_Run_relays_J24
    have key : f_Run_relays_W24 k M (nI p) (nI v) (nI (Q 1 (4 * p + v))) ((0 : Int32), (0 : Int32)) = some (nI (rkN Q p v)) := by
      unfold f_Run_relays_W24
      suffices hh : ∃ x, loop (fun t => f_Run_relays_L24 k M (nI p) (nI v) (nI (Q 1 (4 * p + v))) t.1 t.2) (nI 0, nI 0) = some x ∧ x = nI (rkN Q p v) by
        obtain ⟨x, g1, g2⟩ := hh
        rw [show ((0 : Int32), (0 : Int32)) = (nI 0, nI 0) from rfl, g1, g2]
      refine loop_enc (fun i (s : Int32) => (s, nI i)) 4 (fun i s => s = nI (fb_ct (fun o => decide (o ≠ v) && decide (Q 1 (4 * p + o) ≠ 99) && (decide (Q 1 (4 * p + o) < Q 1 (4 * p + v)) || (decide (Q 1 (4 * p + o) = Q 1 (4 * p + v)) && decide (o < v)))) i)) (fun x => x = nI (rkN Q p v)) ?_ ?_ 0 (nI 0) (Nat.zero_le _) rfl
      · rintro i s hi rfl
        left
        have ho := h9 (4 * p + i) (by omega)
        refine ⟨_, ?_, rfl⟩
        show f_Run_relays_L24 k M (nI p) (nI v) (nI (Q 1 (4 * p + v))) (nI _) (nI i) = _
        unfold f_Run_relays_L24 f_Run_relays_J61
        rw [j4, if_neg (nI_ge hi (by decide)), cell_of, gIn_nI (by omega) (by decide), nI_clamp (by omega), hx i hi, fb_ct_succ]
        by_cases a1 : Q 1 (4 * p + i) < Q 1 (4 * p + v)
        · rw [if_pos (nI_lt a1 (by omega)), if_pos (by
            have : i ≠ v := fun z => by rw [z] at a1; omega
            simp only [Bool.and_eq_true, Bool.or_eq_true, decide_eq_true_eq]
            exact ⟨⟨this, by omega⟩, Or.inl a1⟩), j1, nI_add, nI_add]
        · rw [if_neg (nI_nlt (by omega) (by omega))]
          by_cases a2 : Q 1 (4 * p + i) = Q 1 (4 * p + v)
          · rw [if_pos (by rw [a2])]
            by_cases a3 : v ≤ i
            · rw [if_pos ((nI_leI (by omega) (by omega)).mpr a3), if_neg (by
                simp only [Bool.and_eq_true, Bool.or_eq_true, decide_eq_true_eq]
                rintro ⟨-, w | w⟩
                · exact a1 w
                · omega), Nat.add_zero, j1, nI_add]
            · rw [if_neg (nI_ge (by omega) (by omega)), if_pos (by
                simp only [Bool.and_eq_true, Bool.or_eq_true, decide_eq_true_eq]
                exact ⟨⟨by omega, by omega⟩, Or.inr ⟨a2, by omega⟩⟩), j1, nI_add, nI_add]
          · rw [if_neg (fun q => a2 ((nI_eq (by omega) (by omega)).mp q)), if_neg (by
              simp only [Bool.and_eq_true, Bool.or_eq_true, decide_eq_true_eq]
              rintro ⟨-, w | w⟩
              · exact a1 w
              · exact a2 w.1), Nat.add_zero, j1, nI_add]
      · rintro s rfl
        refine ⟨_, ?_, rfl⟩
        show f_Run_relays_L24 k M (nI p) (nI v) (nI (Q 1 (4 * p + v))) (nI _) (nI 4) = _
        unfold f_Run_relays_L24
        rw [j4, if_pos ((nI_leI (by decide) (by decide)).mpr (Nat.le_refl _))]
        rfl
    rw [key, bnd_some, hcs.2.2.2.2.2]
    have hrk : rkN Q p v ≤ 4 := fb_ct_le _ 4
    by_cases a : R 5 ≤ rkN Q p v
    · rw [if_pos ((nI_leI (by omega) (by omega)).mpr a)]
      simp [h0]
      omega
    · rw [if_neg (nI_ge (by omega) (by omega))]
      simp [h0]
      omega
  · rw [if_neg (nI_ge (by omega) (by omega))]
    simp [h0]
