/-! the reference's run holds the table, step by step -/
def toldIs (M : Mem) (m : Nat) (mk : Nat → Nat) : Prop := ∀ i, i < m → M 8 i = nI (mk i) ∧ mk i < 8
set_option maxHeartbeats 1000000 in
theorem M_all {r : Nat} {R x : Nat → Nat} {Q : Tab} {M : Mem} (hV : PV R) (hS : SM R x M) (hQ : RM Q M) (hI : INV R r Q) (hL : Q 0 0 + 7 ≤ 260) {f v m : Nat} {mk : Nat → Nat} (hr1 : 1 ≤ r) (hr : r ≤ 8) (hf : f < R 0) (hv : v < 4) (hm : m ≤ 8) (hok : ∀ t, t < R 0 → t ≠ f → ROK R r Q f t v m mk) (h8 : toldIs M m mk) : ∃ M', f_MM_sendsAll M (nI r) (nI f) (nI v) (nI m) = some M' ∧ RM (sAll R (dlM R x) r f v m mk (R 0) Q) M' ∧ FrM M M' := by
  have hn := pv_n hV
  unfold f_MM_sendsAll f_MM_sendsAll_J3
  rw [bnd_id]
  unfold f_MM_sendsAll_W3
  refine loop_enc (fun i s => (nI i, s)) (R 0) (fun i N => RM (sAll R (dlM R x) r f v m mk i Q) N ∧ FrM M N ∧ N 8 = M 8) (fun M' => RM (sAll R (dlM R x) r f v m mk (R 0) Q) M' ∧ FrM M M') ?_ ?_ 0 M (Nat.zero_le _) ⟨hQ, FrM.rf, rfl⟩
  · rintro i N hi ⟨h1, h2, h3⟩
    have es : sAll R (dlM R x) r f v m mk (i + 1) Q = if i = f then sAll R (dlM R x) r f v m mk i Q else sSend R (dlM R x) (lrec r f i v m mk) (sAll R (dlM R x) r f v m mk i Q) := rfl
    obtain ⟨g1, g2, g3, g4, g5⟩ := sAll_sp (dl := dlM R x) hI hok i (by omega)
    have h10 : N 1 0 = nI (R 0) := (hS.fr h2).1.1 0 (by decide)
    left
    by_cases e : i = f
    · refine ⟨N, ?_, by rw [es, if_pos e]; exact h1, h2, h3⟩
      show f_MM_sendsAll_L3 (nI r) (nI f) (nI v) (nI m) (nI i) N = _
      unfold f_MM_sendsAll_L3
      rw [h10, if_neg (nI_ge (by omega) (by omega)), if_pos (by rw [e]), nI_succ]
    · have hlt : sAll R (dlM R x) r f v m mk i Q 0 0 < 260 := by split at g2 <;> omega
      obtain ⟨N', p1, p2, p3, p4⟩ := M_sends hV (hS.fr h2) h1 g1.b3 g1.b4 hlt (r := r) (f := f) (t := i) (v := v) (m := m) (mk := mk) hr1 hr (by omega) (by omega) hv hm (fun j hj => by rw [h3]; exact h8 j hj)
      refine ⟨N', ?_, by rw [es, if_neg e]; exact p2, h2.tr p3, p4.trans h3⟩
      show f_MM_sendsAll_L3 (nI r) (nI f) (nI v) (nI m) (nI i) N = _
      unfold f_MM_sendsAll_L3
      rw [h10, if_neg (nI_ge (by omega) (by omega)), if_neg (fun q => e ((nI_eq (by omega) (by omega)).mp q)), p1, bnd_some, nI_succ]
  · rintro N ⟨h1, h2, h3⟩
    refine ⟨N, ?_, h1, h2⟩
    have h10 : N 1 0 = nI (R 0) := (hS.fr h2).1.1 0 (by decide)
    show f_MM_sendsAll_L3 (nI r) (nI f) (nI v) (nI m) (nI (R 0)) N = _
    unfold f_MM_sendsAll_L3
    rw [h10, if_pos ((nI_leI (by omega) (by omega)).mpr (Nat.le_refl _))]
theorem exI_ne {x : Nat} (h : x ≤ 99) : exI x = -1 ↔ x = 99 := by
  unfold exI
  by_cases e : x = 99
  · rw [if_pos e]
    exact ⟨fun _ => e, fun _ => rfl⟩
  · rw [if_neg e]
    exact ⟨fun w => absurd w (nI_neg1 (by omega)), fun w => absurd w e⟩
theorem M_relays {R : Nat → Nat} {Q : Tab} {M : Mem} (hV : PV R) (hM : PM R (M 1)) (hQ : RM Q M) {p v : Nat} (hp : p < 8) (hv : v < 4) (h9 : ∀ c, c < 32 → Q 1 c ≤ 99) (he : Q 1 (4 * p + v) ≠ 99) : f_MM_relays M (nI p) (nI v) = some (rlN R Q p v) := by
  have h5' := hV.2.2.2.2.2.2.1
  have hx : ∀ o, o < 4 → M 17 (4 * p + o) = exI (Q 1 (4 * p + o)) := fun o ho => (hQ.2.2.2 _ (by omega)).1
  have hb := h9 (4 * p + v) (by omega)
  have ev : exI (Q 1 (4 * p + v)) = nI (Q 1 (4 * p + v)) := by unfold exI; rw [if_neg he]
  unfold f_MM_relays f_MM_relays_J32
  rw [mcell_of, gIn_nI (by omega) (by decide), nI_clamp (by omega), hx v hv, ev]
  unfold rlN
  by_cases h0 : 1 ≤ Q 1 (4 * p + v)
  · rw [if_neg (nI_nle (by omega) (by omega))]
    have key : f_MM_rank M (nI p) (nI v) = some (nI (rkN Q p v)) := by
      unfold f_MM_rank f_MM_rank_J5
      rw [bnd_id]
      unfold f_MM_rank_W5
      suffices hh : ∃ y, loop (fun t => f_MM_rank_L5 M (nI p) (nI v) t.1 t.2) (nI 0, nI 0) = some y ∧ y = nI (rkN Q p v) by
        obtain ⟨y, g1, g2⟩ := hh
        rw [show ((0 : Int32), (0 : Int32)) = (nI 0, nI 0) from rfl, g1, g2]
      refine loop_enc (fun i (s : Int32) => (s, nI i)) 4 (fun i s => s = nI (fb_ct (fun o => decide (o ≠ v) && decide (Q 1 (4 * p + o) ≠ 99) && (decide (Q 1 (4 * p + o) < Q 1 (4 * p + v)) || (decide (Q 1 (4 * p + o) = Q 1 (4 * p + v)) && decide (o < v)))) i)) (fun y => y = nI (rkN Q p v)) ?_ ?_ 0 (nI 0) (Nat.zero_le _) rfl
      · rintro i s hi rfl
        left
        have ho := h9 (4 * p + i) (by omega)
        refine ⟨_, ?_, rfl⟩
        show f_MM_rank_L5 M (nI p) (nI v) (nI _) (nI i) = _
        have J77 : ∀ y : Int32, f_MM_rank_J77 M (nI p) (nI v) (nI i) y = some (.inl (y, nI (i + 1))) := fun y => by
          unfold f_MM_rank_J77 f_MM_rank_J78 f_MM_truth
          rw [if_pos rfl, nI_succ, Int32.add_zero]
        have J73 : ∀ n : Nat, f_MM_rank_J73 M (nI p) (nI v) (nI i) (nI n) = some (.inl (nI (n + 1), nI (i + 1))) := fun n => by
          unfold f_MM_rank_J73 f_MM_rank_J78 f_MM_truth
          rw [if_neg (by decide), nI_succ, nI_succ]
        unfold f_MM_rank_L5
        rw [j4, if_neg (nI_ge hi (by decide)), mcell_of, gIn_nI (by omega) (by decide), nI_clamp (by omega), hx i hi, mcell_of, gIn_nI (by omega) (by decide), nI_clamp (by omega), hx v hv, ev, J77, J73, fb_ct_succ]
        by_cases a0 : i = v
        · rw [if_pos (by rw [a0]), if_neg (by simp [a0])]
          rfl
        · rw [if_neg (fun w => a0 ((nI_eq (by omega) (by omega)).mp w))]
          by_cases a9 : Q 1 (4 * p + i) = 99
          · rw [if_pos ((exI_ne ho).mpr a9), if_neg (by simp [a9])]
            rfl
          · have ei : exI (Q 1 (4 * p + i)) = nI (Q 1 (4 * p + i)) := by unfold exI; rw [if_neg a9]
            rw [if_neg (fun w => a9 ((exI_ne ho).mp w)), ei]
            by_cases a1 : Q 1 (4 * p + i) < Q 1 (4 * p + v)
            · rw [if_pos (nI_lt a1 (by omega)), if_pos (by
                simp only [Bool.and_eq_true, Bool.or_eq_true, decide_eq_true_eq]
                exact ⟨⟨a0, a9⟩, Or.inl a1⟩)]
            · rw [if_neg (nI_nlt (by omega) (by omega))]
              by_cases a2 : Q 1 (4 * p + i) = Q 1 (4 * p + v)
              · rw [if_pos (by rw [a2])]
                by_cases a3 : v ≤ i
                · rw [if_pos ((nI_leI (by omega) (by omega)).mpr a3), if_neg (by
                    simp only [Bool.and_eq_true, Bool.or_eq_true, decide_eq_true_eq]
                    rintro ⟨-, w | w⟩
                    · exact a1 w
                    · omega)]
                  rfl
                · rw [if_neg (nI_ge (by omega) (by omega)), if_pos (by
                    simp only [Bool.and_eq_true, Bool.or_eq_true, decide_eq_true_eq]
                    exact ⟨⟨a0, a9⟩, Or.inr ⟨a2, by omega⟩⟩)]
              · rw [if_neg (fun q => a2 ((nI_eq (by omega) (by omega)).mp q)), if_neg (by
                  simp only [Bool.and_eq_true, Bool.or_eq_true, decide_eq_true_eq]
                  rintro ⟨-, w | w⟩
                  · exact a1 w
                  · exact a2 w.1)]
                rfl
      · rintro s rfl
        refine ⟨_, ?_, rfl⟩
        show f_MM_rank_L5 M (nI p) (nI v) (nI _) (nI 4) = _
        unfold f_MM_rank_L5
        rw [j4, if_pos ((nI_leI (by decide) (by decide)).mpr (Nat.le_refl _))]
        rfl
    rw [key, bnd_some, hM.1 5 (by decide)]
    have hrk : rkN Q p v ≤ 4 := fb_ct_le _ 4
    by_cases a : R 5 ≤ rkN Q p v
    · rw [if_pos ((nI_leI (by omega) (by omega)).mpr a)]
      simp [h0]
      omega
    · rw [if_neg (nI_ge (by omega) (by omega))]
      simp [h0]
      omega
  · rw [if_pos (by rw [show Q 1 (4 * p + v) = 0 by omega]; decide)]
    simp [h0]
theorem RM.told {Q : Tab} {M M' : Mem} (h : RM Q M) (he : ∀ a, a ≠ 8 → M' a = M a) : RM Q M' := by
  unfold RM RMl at h ⊢
  simp (disch := omega) only [he]
  exact h
theorem FrM.told {M M' : Mem} (he : ∀ a, a ≠ 8 → M' a = M a) : FrM M M' := ⟨fun a h1 h2 => he a (by omega), fun b _ _ => by rw [he 0 (by decide)]⟩
/-- the marks of a letter are laid out -/
theorem M_lay {M : Mem} {b m : Nat} {mk : Nat → Nat} (hb : b < 260) (hm : m ≤ 8) (h13 : M 13 b = nI m) (h16 : ∀ i, i < m → M 16 (8 * b + i) = nI (mk i)) : ∃ M', f_MM_sendsHonest_W87 (nI b) ((0 : Int32), M) = some M' ∧ (∀ a, a ≠ 8 → M' a = M a) ∧ ∀ i, i < m → M' 8 i = nI (mk i) := by
  unfold f_MM_sendsHonest_W87
  refine loop_enc (fun i s => (nI i, s)) m (fun i N => (∀ a, a ≠ 8 → N a = M a) ∧ ∀ j, j < i → N 8 j = nI (mk j)) _ ?_ ?_ 0 M (Nat.zero_le _) ⟨fun _ _ => rfl, fun j hj => absurd hj (Nat.not_lt_zero j)⟩
  · rintro i N hi ⟨h1, h2⟩
    refine Or.inl ⟨upM N 8 i (nI (mk i)), ?_, fun a ha => (upM_row ha).trans (h1 a ha), fun j hj => ?_⟩
    · show f_MM_sendsHonest_L87 (nI b) (nI i) N = _
      unfold f_MM_sendsHonest_L87
      rw [gIn_nI hb (by decide), nI_clamp (by omega), h1 13 (by decide), h13, if_neg (nI_ge hi (by omega)), j8, pk_mul, nI_add, gIn_nI (by omega) (by decide), gIn_nI (by omega) (by decide), nI_clamp (by omega), nI_clamp (by omega), lt1_eq, h1 16 (by decide), h16 i hi, nI_succ]
    · by_cases e : j = i
      · subst e; exact upM_eq
      · exact (upM_ne (fun _ => e)).trans (h2 j (by omega))
  · rintro N ⟨h1, h2⟩
    refine ⟨N, ?_, h1, h2⟩
    show f_MM_sendsHonest_L87 (nI b) (nI m) N = _
    unfold f_MM_sendsHonest_L87
    rw [gIn_nI hb (by decide), nI_clamp (by omega), h1 13 (by decide), h13, if_pos ((nI_leI (by omega) (by omega)).mpr (Nat.le_refl _))]
set_option maxHeartbeats 1000000 in
theorem M_rels {r p : Nat} {R x : Nat → Nat} {P : Tab} {M : Mem} (hV : PV R) (hS : SM R x M) (hQ : RM P M) (hI : INV R r P) (hp : p < R 0) (hr2 : 2 ≤ r) (hr : r ≤ 8) (hB : P 0 0 + 7 * fb_ct (fun c => decide (P 1 c = r - 1)) 32 ≤ 212 + 7 * fb_ct (fun c => decide (P 1 c = r - 1)) (4 * p)) : ∃ M', f_MM_sendsHonest_W37 (nI r) (nI p) ((0 : Int32), M) = some M' ∧ RM (itr (fun v Q => sRel R (dlM R x) r p v Q) 4 P) M' ∧ FrM M M' := by
  have hn := pv_n hV
  have h99 : ∀ c, c < 32 → P 1 c ≤ 99 := fun c hc => by have := (hI.2.1 c hc).2.2.2.1; omega
  unfold f_MM_sendsHonest_W37
  refine loop_enc (fun i s => (nI i, s)) 4 (fun v N => RM (itr (fun v Q => sRel R (dlM R x) r p v Q) v P) N ∧ FrM M N) _ ?_ ?_ 0 M (Nat.zero_le _) ⟨hQ, FrM.rf⟩
  · rintro v N hv ⟨h1, h2⟩
    left
    have ev : itr (fun v Q => sRel R (dlM R x) r p v Q) (v + 1) P = sRel R (dlM R x) r p v (itr (fun v Q => sRel R (dlM R x) r p v Q) v P) := rfl
    obtain ⟨g1, g2, g3⟩ := sRels_sp (dl := dlM R x) hV hI hp hr2 hr v (by omega)
    have hcl : 4 * p + v < 32 := by omega
    obtain ⟨hc7, hc8, -⟩ := h1.2.2.2 _ hcl
    have hx := (g3 (4 * p + v)).1
    have hb := h99 _ hcl
    have hSN := hS.fr h2
    generalize hQ' : itr (fun v Q => sRel R (dlM R x) r p v Q) v P = T at *
    rw [ev]
    have start : f_MM_sendsHonest_L37 (nI r) (nI p) (nI v) N = if P 1 (4 * p + v) = r - 1 then bnd (f_MM_relays N (nI p) (nI v)) (fun y12 => if (bI y12) = 0 then some (.inl (nI v + (1 : Int32), N)) else f_MM_sendsHonest_J87 N (nI r) (nI p) (nI v) (byI (T 2 (4 * p + v))) (0 : Int32)) else some (.inl (nI v + (1 : Int32), N)) := by
      unfold f_MM_sendsHonest_L37
      rw [j4, if_neg (nI_ge hv (by decide)), j1, if_neg (nI_ge (by omega) (by omega)), mcell_of, gIn_nI hcl (by decide), nI_clamp (by omega), hc7, hx, pk_sub (by omega), hc8]
      by_cases w : P 1 (4 * p + v) = r - 1
      · rw [if_pos w, if_pos (by unfold exI; rw [if_neg (by omega), w])]
      · rw [if_neg w, if_neg]
        unfold exI
        split
        · exact fun q => nI_neg1 (by omega) q.symm
        · exact fun q => w ((nI_eq (by omega) (by omega)).mp q)
    by_cases w : P 1 (4 * p + v) = r - 1
    · have w' : T 1 (4 * p + v) = r - 1 := by rw [hx]; exact w
      obtain ⟨k1, k2, k3, k4⟩ := rel_ok hV g1 hp (by omega) hr2 hr w'
      have hrl := M_relays hV hSN.1 h1 (p := p) (v := v) (by omega) (by omega) (fun c hc => by rw [(g3 c).1]; exact h99 c hc) (by rw [w']; omega)
      by_cases hrel : rlN R T p v = true
      · have hct : fb_ct (fun c => decide (P 1 c = r - 1)) (4 * p + v) + 1 ≤ fb_ct (fun c => decide (P 1 c = r - 1)) 32 := by
          have : fb_ct (fun c => decide (P 1 c = r - 1)) (4 * p + v + 1) ≤ fb_ct (fun c => decide (P 1 c = r - 1)) 32 := fb_ct_mono _ (by omega)
          rw [fb_ct_succ, if_pos (by simpa using w)] at this
          exact this
        have hb212 : T 0 0 + 7 ≤ 212 := by omega
        obtain ⟨m1, m2, m3, m4, m5, m6, m7, m8⟩ := h1.2.2.1 _ k2
        obtain ⟨⟨a1, a2, a3, a4, a5, a6, a7⟩, b1, b2, b3, b4⟩ := g1.1 _ k2
        have eby : byI (T 2 (4 * p + v)) = nI (T 2 (4 * p + v) - 1) := by unfold byI; rw [if_neg k1]
        obtain ⟨A, c1, c2, c3⟩ := M_lay (M := N) (b := T 2 (4 * p + v) - 1) (m := T (5 + (T 2 (4 * p + v) - 1)) 4) (mk := fun i => T (5 + (T 2 (4 * p + v) - 1)) (6 + i)) (by omega) (by omega) m5 m8
        obtain ⟨B, hB'⟩ : ∃ B, B = upM A 8 (T (5 + (T 2 (4 * p + v) - 1)) 4) (nI p) := ⟨_, rfl⟩
        have rB : ∀ a, a ≠ 8 → B a = N a := fun a ha => by rw [hB', upM_row ha, c2 a ha]
        have tB : toldIs B (T (5 + (T 2 (4 * p + v) - 1)) 4 + 1) (fun i => if i = T (5 + (T 2 (4 * p + v) - 1)) 4 then p else T (5 + (T 2 (4 * p + v) - 1)) (6 + i)) := fun i hi => by
          dsimp only
          by_cases e : i = T (5 + (T 2 (4 * p + v) - 1)) 4
          · rw [if_pos e, hB', e, upM_eq]
            exact ⟨rfl, by omega⟩
          · rw [if_neg e, hB', upM_ne (fun _ => e)]
            have := (b1 i (by omega)).1
            exact ⟨c3 i (by omega), by omega⟩
        obtain ⟨N', p1, p2, p3⟩ := M_all hV (hSN.fr (FrM.told rB)) (h1.told rB) g1 (by omega) (by omega) hr hp (by omega) (by omega) k4 tB
        refine ⟨N', ?_, ?_, h2.tr ((FrM.told rB).tr p3)⟩
        · show f_MM_sendsHonest_L37 (nI r) (nI p) (nI v) N = _
          rw [start, if_pos w, hrl, bnd_some, hrel, if_neg (by decide), eby]
          unfold f_MM_sendsHonest_J87
          rw [c1, bnd_some, gIn_nI (by omega) (by decide), nI_clamp (by omega), c2 13 (by decide), m5, gIn_nI (by omega) (by decide), nI_clamp (by omega), lt1_eq, ← hB', rB 13 (by decide), m5, j1, nI_add, p1, bnd_some, nI_add]
        · unfold sRel
          rw [if_pos (by rw [w', hrel]; simp)]
          exact p2
      · have hrel' : rlN R T p v = false := by simpa using hrel
        refine ⟨N, ?_, ?_, h2⟩
        · show f_MM_sendsHonest_L37 (nI r) (nI p) (nI v) N = _
          rw [start, if_pos w, hrl, bnd_some, hrel', if_pos (by decide), nI_succ]
        · unfold sRel
          rw [if_neg (by rw [hrel']; simp)]
          exact h1
    · refine ⟨N, ?_, ?_, h2⟩
      · show f_MM_sendsHonest_L37 (nI r) (nI p) (nI v) N = _
        rw [start, if_neg w, nI_succ]
      · rw [sRel_no (by rw [hx]; exact w)]
        exact h1
  · rintro N ⟨h1, h2⟩
    refine ⟨N, ?_, h1, h2⟩
    show f_MM_sendsHonest_L37 (nI r) (nI p) (nI 4) N = _
    unfold f_MM_sendsHonest_L37
    rw [j4, if_pos ((nI_leI (by decide) (by decide)).mpr (Nat.le_refl _))]
