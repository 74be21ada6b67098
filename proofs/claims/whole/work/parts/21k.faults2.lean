theorem omT_eq (M : Mem) (x : Int32) : f_Play_isOmitted 8 M x = f_Play_isOmitted 0 (sh M) x := rfl
theorem ltT_eq (M : Mem) (x : Int32) : f_Play_isLate 8 M x = f_Play_isLate 0 (sh M) x := rfl
theorem omAny {S : Nat → Nat} {r f t : Nat} : anyB (fun l => isW S (218 + 3 * l) r f t) (S 8) = decide (omI S r f t < S 8) := by
  by_cases w : omI S r f t < S 8
  · rw [decide_eq_true w]
    exact anyB_iff.mpr (om_iff.mp w)
  · rw [decide_eq_false w]
    refine anyB_f.mpr (fun l hl => Bool.eq_false_iff.mpr (fun z => w (om_iff.mpr ⟨l, hl, z⟩)))
theorem ltAny {S : Nat → Nat} {r f t : Nat} : anyB (fun l => isW S (254 + 4 * l) r f t) (S 9) = decide (ltI S r f t < S 9) := by
  by_cases w : ltI S r f t < S 9
  · rw [decide_eq_true w]
    exact anyB_iff.mpr (lt_iff.mp w)
  · rw [decide_eq_false w]
    refine anyB_f.mpr (fun l hl => Bool.eq_false_iff.mpr (fun z => w (lt_iff.mpr ⟨l, hl, z⟩)))
theorem row_lt {S : Nat → Nat} {q m : Nat} (hn : S 0 ≤ 8) (h : wayOK S q) (hm : m < 3) : S (q + m) < 100 := by
  obtain ⟨h1, h2, h3, h4, h5⟩ := h
  rcases (show m = 0 ∨ m = 1 ∨ m = 2 by omega) with rfl | rfl | rfl
  · rw [Nat.add_zero]; omega
  · omega
  · omega
set_option maxHeartbeats 1000000 in
theorem rdO_st {tl : Nat} {B : Nat → Nat} (ht : tl ≤ 400) (hB : ∀ j, j < tl → B j < 256) {S : Nat → Nat} {i s0 : Nat} {M N : Mem} (h : RT tl B S i M N) (hs0 : s0 ≤ 400) (hb : M 136 5 = nI s0) : ∃ M' N', f_Tape_readOmit M = some M' ∧ f_MM_readsFault N (nI s0) 8 218 3 = some N' ∧ RF tl B i M N M' N' := by
  have htw := h.tw
  obtain ⟨hS, hV, hS0, hP, hM⟩ := h
  have hn := pv_n hV
  have v8 := hV.2.2.2.2.2.2.2.2.2.1
  have vb := hV.2.2.2.2.2.2.2.2.2.2.2.2.1
  have n1 : 1 ≤ S 0 := Nat.pos_of_ne_zero hS0
  have N8 : N 2 8 = nI (S 8) := hM.1 8 (by decide)
  have N0 : N 2 0 = nI (S 0) := hM.1 0 (by decide)
  unfold f_Tape_readOmit f_MM_readsFault
  rw [hP.2.2.2.1, show (12 : Int32) = nI 12 from rfl, hb, j8, gIn_nI (by decide) (by decide), nI_clamp (show 8 < 2 ^ 31 by decide), N8]
  by_cases w8 : S 8 < 12
  · rw [if_pos (nI_lt w8 (by decide)), if_neg (fun z => by have := (nI_eq (by omega) (by decide)).mp z; omega), j218, j3, pk_mul, nI_add]
    obtain ⟨r, f, t, w1, i1, M1, N1, a1, a2, a3, a4, a5, a6, a7, a8, a9, a10, a11⟩ := way_st (q := 218 + 3 * S 8) ht hB hS n1 hn hP.1 (fun _ => N0) (by omega) (by omega)
    have hP1 : PC S M1 8 := hP.cg (fun a q1 q2 => a10 a (by omega))
    have htw1 := htw.cg a10
    have fin : ∀ X : Mem, bnd (some X) (fun e40 => f_MM_readsFault_J132 e40 (nI 8) (nI 3) (nI (218 + 3 * S 8))) = some (upM X 2 8 (X 2 8 + 1)) := fun X => by
      unfold f_MM_readsFault_J132 f_MM_readsFault_J154
      rw [bnd_some, if_neg (show ¬ nI 3 = 4 by decide), gIn_nI (by decide) (by decide), nI_clamp (show 8 < 2 ^ 31 by decide), lt1_eq]
    have W31 : 64 * r + 8 * f + t < 2 ^ 31 := by clear a7 a9; omega
    have cls : f_Tape_readOmit_J21 M = bnd (f_Play_isOmitted 8 M1 (nI (64 * r + 8 * f + t))) (fun y7 => if (bI y7) = 0 then bnd (f_Play_addOmit 8 M1 (nI (64 * r + 8 * f + t))) (fun M2 => some M2) else bnd (f_Tape_blame M1 (M1 136 5) (4 : Int32)) (fun M9 => bnd (f_Play_addOmit 8 M9 (nI (64 * r + 8 * f + t))) (fun M2 => some M2))) := by
      unfold f_Tape_readOmit_J21 f_Tape_readOmit_J46
      rw [a1, bnd2_some]
    rw [a2, bnd_some, cls]
    unfold f_MM_readsFault_J40
    by_cases z1 : w1 = 0
    · subst z1
      obtain ⟨hft, h0, h1, h2, k1, s, hs, e3, e4⟩ := a9 rfl
      obtain ⟨M2, N2, d1, d2, d3, d4, d5, d6, d7⟩ := blame_st (s := s) (k := 4) a7 hs (by decide) (by decide)
      have d1 : f_Tape_blame M1 (nI s) 4 = some M2 := d1
      have d2 : f_MM_fails N1 4 (nI s) = some N2 := d2
      have d3c := d3
      obtain ⟨-, u2, u3, u4, -⟩ := d3c
      have rows : ∀ j, j < 218 + 3 * S 8 → N1 2 j = N 2 j := fun j hj => a11.2.2 j (by omega)
      have tw := M_tw1 (S := S) (c := S 8) (r := r) (f := f) (t := t) (s := s) (N' := N2) a7.m w8 (by clear a7 a9 d3; omega) (by clear a7 a9 d3; omega) (by clear a7 a9 d3; omega) (fun l m hl hm => ⟨row_lt hn (vb l hl) hm, by rw [rows _ (by omega)]; exact hM.2.2.1 l m hl hm⟩) h0 h1 h2 e4 d2 ⟨_, u3, blm_ne (by decide), u2, u4⟩ d6
      rw [tw, omAny, fin, omT_eq, C_omitted hV (PC8.mp hP1) (by clear a7 a9 d3; omega) (by clear a7 a9 d3; omega) (by clear a7 a9 d3; omega), bnd_some, e3, d1, bnd_some]
      by_cases wo : omI S r f t < S 8
      · rw [decide_eq_true wo, gT, if_pos rfl]
        obtain ⟨M3, p1, p2, p3⟩ := (d3.cf (blm_ne (by decide)) (htw1.cg d5)).putO W31
        refine ⟨M3, _, by rw [p1, bnd_some], rfl, (CT.of (fun a ha => (d5 a ha).trans (a10 a ha))).tr p3, ((a11.mono (fun _ _ => trivial)).tr (FrH.fl d6 d7)).tr (FrH.up _ trivial), Or.inr ⟨_, p2, (d3.up2 8 _).rf⟩⟩
      · rw [decide_eq_false wo, gF, if_neg (by decide), addOmit8 hP1.2.2.2.1 w8, bnd_some]
        have n18 : N1 2 8 = nI (S 8) := by rw [rows 8 (by omega)]; exact N8
        have fr : ∀ a, ¬ (8 ≤ a ∧ a < 16) → upM (upM M1 13 (S 8) (nI (64 * r + 8 * f + t))) 8 3 (nI (S 8 + 1)) a = M1 a := fun a ha => by rw [upM_row (by omega), upM_row (by omega)]
        refine ⟨_, _, rfl, rfl, (CT.of a10).tr (fun a h1 _ => fr a h1), (a11.mono (fun _ _ => trivial)).tr (FrH.up _ trivial), Or.inl ⟨omR S r f t, i1, Nat.le_of_lt k1, (a7.cg (fun a ha => fr a (by omega)) rfl rfl).up2 8 _, omR_PV hV w8 a3 a4 a5 a6 hft wo, ?_, ?_, ?_⟩⟩
        · rw [omR_lo (by decide) (by omega)]; exact hS0
        · rw [PC8, sh_up _ 0, sh_up _ 5]
          exact omR_PC hV (PC8.mp hP1) w8
        · refine omR_PM hV hM w8 ?_ ?_ ?_ ?_ (fun j h1 h2 => ?_)
          · rw [upM_eq, n18, ← nI_succ]
          · rw [upM_ne (by omega)]; exact h0
          · rw [upM_ne (by omega)]; exact h1
          · rw [upM_ne (by omega)]; exact h2
          · rw [upM_ne (fun _ => h1)]
            exact a11.2.2 j (by omega)
    · have a7c := a7
      obtain ⟨u1, u2, u3, u4, -⟩ := a7c
      rw [M_tw1_f u4 z1 u2 w8, fin]
      have cf := a7.cf z1 htw1
      obtain ⟨b, b1⟩ := cf.om W31
      obtain ⟨M3, p1, p2, p3⟩ := cf.putO W31
      refine ⟨M3, _, ?_, rfl, (CT.of a10).tr p3, (a11.mono (fun _ _ => trivial)).tr (FrH.up _ trivial), Or.inr ⟨_, p2, (a7.up2 8 _).rf⟩⟩
      rw [b1, bnd_some, cf.bl, bnd_some, p1, bnd_some]
      split <;> rfl
  · have e12 : S 8 = 12 := by omega
    rw [if_neg (nI_nlt (by omega) (by omega)), if_pos (by rw [e12])]
    obtain ⟨M1, N1, d1, d2, d3, d4, d5, d6, d7⟩ := blame_st (s := s0) (k := 3) hS hs0 (by decide) (by decide)
    have d1 : f_Tape_blame M (nI s0) 3 = some M1 := d1
    have d2 : f_MM_fails N 3 (nI s0) = some N1 := d2
    obtain ⟨M2, e1, e2, e3⟩ := (d3.cf (blm_ne (by decide)) (htw.cg d5)).rdO ht hB
    refine ⟨M2, N1, by rw [d1, bnd_some, e1], ?_, (CT.of d5).tr e3, FrH.fl d6 d7, Or.inr ⟨_, e2, d3.rf⟩⟩
    exact (congrArg (fun o => bnd o (fun M20 => some M20)) d2).trans rfl
set_option maxHeartbeats 1000000 in
theorem rdL_st {tl : Nat} {B : Nat → Nat} (ht : tl ≤ 400) (hB : ∀ j, j < tl → B j < 256) {S : Nat → Nat} {i s0 : Nat} {M N : Mem} (h : RT tl B S i M N) (hs0 : s0 ≤ 400) (hb : M 136 5 = nI s0) : ∃ M' N', f_Tape_readLate M = some M' ∧ f_MM_readsFault N (nI s0) 9 254 4 = some N' ∧ RF tl B i M N M' N' := by
  have htw := h.tw
  obtain ⟨hS, hV, hS0, hP, hM⟩ := h
  have hn := pv_n hV
  have v9 := hV.2.2.2.2.2.2.2.2.2.2.1
  have vc := hV.2.2.2.2.2.2.2.2.2.2.2.2.2.1
  have n1 : 1 ≤ S 0 := Nat.pos_of_ne_zero hS0
  have N9 : N 2 9 = nI (S 9) := hM.1 9 (by decide)
  have N0 : N 2 0 = nI (S 0) := hM.1 0 (by decide)
  unfold f_Tape_readLate f_MM_readsFault
  rw [hP.2.2.2.2.1, show (12 : Int32) = nI 12 from rfl, hb, j9, gIn_nI (by decide) (by decide), nI_clamp (show 9 < 2 ^ 31 by decide), N9]
  by_cases w9 : S 9 < 12
  · rw [if_pos (nI_lt w9 (by decide)), if_neg (fun z => by have := (nI_eq (by omega) (by decide)).mp z; omega), j254, j4, pk_mul, nI_add]
    obtain ⟨r, f, t, w1, i1, M1, N1, a1, a2, a3, a4, a5, a6, a7, a8, a9, a10, a11⟩ := way_st (q := 254 + 4 * S 9) ht hB hS n1 hn hP.1 (fun _ => N0) (by omega) (by omega)
    have hP1 : PC S M1 8 := hP.cg (fun a q1 q2 => a10 a (by omega))
    have htw1 := htw.cg a10
    have W31 : 64 * r + 8 * f + t < 2 ^ 31 := by clear a7 a9; omega
    have rows : ∀ j, j < 254 + 4 * S 9 → N1 2 j = N 2 j := fun j hj => a11.2.2 j (by omega)
    -- is it there twice?
    have dup : ∃ w2 M2 N2, f_Tape_readLate_J21 M = f_Tape_readLate_J46 M2 (nI (64 * r + 8 * f + t)) ∧ f_MM_readsFault_W40 (nI 4) (nI (254 + 4 * S 9)) (nI 254, N1) = some N2 ∧ SS tl B w2 i1 M2 N2 ∧ (∀ a, a ≠ 136 → M2 a = M1 a) ∧ FrR N1 N2 ∧ (w2 = 0 → w1 = 0 ∧ ¬ ltI S r f t < S 9) := by
      have cls : f_Tape_readLate_J21 M = bnd (f_Play_isLate 8 M1 (nI (64 * r + 8 * f + t))) (fun y7 => if (bI y7) = 0 then f_Tape_readLate_J46 M1 (nI (64 * r + 8 * f + t)) else bnd (f_Tape_blame M1 (M1 136 5) (4 : Int32)) (fun M9 => f_Tape_readLate_J46 M9 (nI (64 * r + 8 * f + t)))) := by
        unfold f_Tape_readLate_J21
        rw [a1, bnd2_some]
      by_cases z1 : w1 = 0
      · subst z1
        obtain ⟨hft, h0, h1, h2, k1, s, hs, e3, e4⟩ := a9 rfl
        obtain ⟨M2, N2, d1, d2, d3, d4, d5, d6, d7⟩ := blame_st (s := s) (k := 4) a7 hs (by decide) (by decide)
        have d1 : f_Tape_blame M1 (nI s) 4 = some M2 := d1
        have d2 : f_MM_fails N1 4 (nI s) = some N2 := d2
        have d3c := d3
        obtain ⟨-, u2, u3, u4, -⟩ := d3c
        have tw := M_tw2 (S := S) (c := S 9) (r := r) (f := f) (t := t) (s := s) (N' := N2) a7.m w9 (by clear a7 a9 d3; omega) (by clear a7 a9 d3; omega) (by clear a7 a9 d3; omega) (fun l m hl hm => ⟨row_lt hn (vc l hl).1 hm, by rw [rows _ (by omega)]; exact hM.2.2.2 l m hl (by omega)⟩) h0 h1 h2 e4 d2 ⟨_, u3, blm_ne (by decide), u2, u4⟩ d6
        rw [tw, ltAny, cls, ltT_eq, C_isLate hV (PC8.mp hP1) (by clear a7 a9 d3; omega) (by clear a7 a9 d3; omega) (by clear a7 a9 d3; omega), bnd_some, e3, d1, bnd_some]
        by_cases wo : ltI S r f t < S 9
        · rw [decide_eq_true wo, gT, if_pos rfl]
          exact ⟨_, M2, N2, rfl, rfl, d3, d5, ⟨d6, fun b _ y _ => d7 b y⟩, fun y => absurd y (blm_ne (by decide))⟩
        · rw [decide_eq_false wo, gF, if_neg (by decide)]
          exact ⟨0, M1, N1, rfl, rfl, a7, fun _ _ => rfl, FrR.rf, fun _ => ⟨rfl, wo⟩⟩
      · have a7c := a7
        obtain ⟨u1, u2, u3, u4, -⟩ := a7c
        have cf := a7.cf z1 htw1
        obtain ⟨b, b1⟩ := cf.lt W31
        rw [M_tw2_f u4 z1 u2 w9, cls, b1, bnd_some, cf.bl, bnd_some]
        refine ⟨w1, M1, N1, ?_, rfl, a7, fun _ _ => rfl, FrR.rf, fun y => absurd y z1⟩
        split <;> rfl
    obtain ⟨w2, M2, N2, b1, b2, b3, b4, b5, b6⟩ := dup
    obtain ⟨v, x, w3, i3, M3, N3, c1, c2, c3, c4, c5, c6, c7, c8, c9⟩ := num_st ht hB (lo := 1) (hi := 7) (xl := 1) (xh := 7) b3 (by omega) (by omega) (fun _ => ⟨rfl, rfl⟩)
    have g3 : ∀ a, a ≠ 136 → M3 a = M a := fun a ha => by rw [c8 a ha, b4 a ha, a10 a ha]
    have f3 : FrH (fun j => 254 + 4 * S 9 ≤ j ∧ j < 254 + 4 * S 9 + 4) N N3 := (a11.mono (fun j hj => ⟨hj.1, by omega⟩)).tr ((b5.tr c9).H)
    obtain ⟨X, hX⟩ : ∃ X, X = upM (upM N3 2 (254 + 4 * S 9 + 3) x) 2 9 (nI (S 9 + 1)) := ⟨_, rfl⟩
    have ref : bnd (f_MM_readsWay N (nI (254 + 4 * S 9))) (fun M18 => f_MM_readsFault_J40 M18 (nI 9) (nI 4) (nI (254 + 4 * S 9)) (nI 254)) = some X := by
      unfold f_MM_readsFault_J40 f_MM_readsFault_J132 f_MM_readsFault_J154
      rw [a2, bnd_some, b2, bnd_some, if_pos (show nI 4 = 4 from rfl), c2, bnd2_some, j3, nI_add, gIn_nI (by omega) (by decide), nI_clamp (show 254 + 4 * S 9 + 3 < 2 ^ 31 by omega), lt1_eq, gIn_nI (by decide) (by decide), nI_clamp (show 9 < 2 ^ 31 by decide), lt1_eq, upM_ne (by omega), f3.2.2 9 (by omega), N9, ← nI_succ, ← hX]
    have hSX : SS tl B w3 i3 M3 X := by rw [hX]; exact (c5.up2 _ _).up2 _ _
    have frX : FrH (fun _ => True) N X := by
      rw [hX]
      exact ((f3.mono (fun _ _ => trivial)).tr (FrH.up _ trivial)).tr (FrH.up _ trivial)
    rw [ref, b1]
    unfold f_Tape_readLate_J46
    rw [show f_Tape_readNumber M2 1 7 = some (nI v, M3) from c1, bnd2_some]
    by_cases z3 : w3 = 0
    · subst z3
      have z2 : w2 = 0 := Classical.byContradiction (fun y => y ((c6 y).symm.trans rfl))
      obtain ⟨z1, wo⟩ := b6 z2
      obtain ⟨ex, k3, -⟩ := c7 rfl
      obtain ⟨hft, h0, h1, h2, k1, -⟩ := a9 z1
      have hP3 : PC S M3 8 := hP.cg (fun a q1 q2 => g3 a (by omega))
      rw [addLate8 hP3.2.2.2.2.1 w9, bnd_some]
      have fr : ∀ a, ¬ (8 ≤ a ∧ a < 16) → upM (upM (upM M3 14 (S 9) (nI (64 * r + 8 * f + t))) 15 (S 9) (nI v)) 8 4 (nI (S 9 + 1)) a = M3 a := fun a ha => by rw [upM_row (by omega), upM_row (by omega), upM_row (by omega)]
      have row : ∀ j, j < 254 + 4 * S 9 + 3 → j ≠ 9 → X 2 j = N1 2 j := fun j h1 h2 => by rw [hX, upM_ne (fun _ => h2), upM_ne (by omega), c9.1 2 (by decide), b5.1 2 (by decide)]
      refine ⟨_, _, rfl, rfl, (CT.of g3).tr (fun a h1 _ => fr a h1), frX, Or.inl ⟨laR S r f t v, i3, Nat.le_of_lt (Nat.lt_trans k1 k3), hSX.cg (fun a ha => fr a (by omega)) rfl rfl, laR_PV hV w9 a3 a4 a5 a6 hft c3 c4 wo, ?_, ?_, ?_⟩⟩
      · rw [laR_lo (by decide) (by omega)]; exact hS0
      · rw [PC8, sh_up _ 0, sh_up _ 7, sh_up _ 6]
        exact laR_PC hV (PC8.mp hP3) w9
      · refine laR_PM hV hM w9 ?_ ?_ ?_ ?_ ?_ (fun j h1 h2 => ?_)
        · rw [hX, upM_eq]
        · rw [row _ (by omega) (by omega)]; exact h0
        · rw [row _ (by omega) (by omega)]; exact h1
        · rw [row _ (by omega) (by omega)]; exact h2
        · rw [hX, upM_ne (by omega), upM_eq, ex]
        · rw [hX, upM_ne (fun _ => h1), upM_ne (by omega)]
          exact f3.2.2 j (by omega)
    · obtain ⟨M4, p1, p2, p3⟩ := (c5.cf z3 (htw.cg g3)).putL W31 (nI v)
      exact ⟨M4, X, by rw [p1, bnd_some], rfl, (CT.of g3).tr p3, frX, Or.inr ⟨_, p2, hSX.rf⟩⟩
  · have e12 : S 9 = 12 := by omega
    rw [if_neg (nI_nlt (by omega) (by omega)), if_pos (by rw [e12])]
    obtain ⟨M1, N1, d1, d2, d3, d4, d5, d6, d7⟩ := blame_st (s := s0) (k := 3) hS hs0 (by decide) (by decide)
    have d1 : f_Tape_blame M (nI s0) 3 = some M1 := d1
    have d2 : f_MM_fails N 3 (nI s0) = some N1 := d2
    obtain ⟨M2, e1, e2, e3⟩ := (d3.cf (blm_ne (by decide)) (htw.cg d5)).rdL ht hB
    refine ⟨M2, N1, by rw [d1, bnd_some, e1], ?_, (CT.of d5).tr e3, FrH.fl d6 d7, Or.inr ⟨_, e2, d3.rf⟩⟩
    exact (congrArg (fun o => bnd o (fun M20 => some M20)) d2).trans rfl
