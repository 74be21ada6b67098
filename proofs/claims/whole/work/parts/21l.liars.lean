theorem TW.cg8 {M M' : Mem} (h : TW M) (e : ∀ a, a ≠ 136 → a ≠ 8 → M' a = M a) (e8 : ∀ b, b ≠ 1 → M' 8 b = M 8 b) : TW M' := by
  obtain ⟨n, c2, c3, c4, p0, p1, p2, p3, p4, p5, p6, p7, p8, p9, p10⟩ := h
  refine ⟨n, c2, c3, c4, (e8 0 (by decide)).trans p0, p1, p2, (e8 2 (by decide)).trans p3, p4, (e8 3 (by decide)).trans p5, p6, fun l hl => ?_, (e8 4 (by decide)).trans p8, p9, fun l hl => ?_⟩
  · rw [e 13 (by decide) (by decide)]; exact p7 l hl
  · rw [e 14 (by decide) (by decide)]; exact p10 l hl
noncomputable def chk (N : Mem) : Option ((Int32 × Mem) ⊕ Mem) := if bI (f_MM_isRight N) = 0 then some (.inl ((0 : Int32), N)) else bnd2 (f_MM_isDigit N) (fun y5 M4 => if (bI y5) = 0 then some (.inl ((0 : Int32), M4)) else some (.inl ((1 : Int32), M4)))
theorem J33_eq {N : Mem} {s0 s1 : Int32} : f_MM_readsLiars_J33 N s0 s1 6 = chk (upM N 2 6 (s1 ||| s0)) := by
  unfold f_MM_readsLiars_J33 f_MM_readsLiars_J53 chk
  rw [j6, gIn_nI (by decide) (by decide), nI_clamp (show 6 < 2 ^ 31 by decide), lt1_eq]
theorem chk_f {tl : Nat} {B : Nat → Nat} {i w : Nat} {N : Mem} (h : TM tl B i w N) (h0 : w ≠ 0) (hw : w < 4000) : chk N = some (.inl (0, N)) := by
  unfold chk
  rw [isR_iff h.2.1 hw, decide_eq_false h0, gF]
theorem L2_0 (N : Mem) : loop (fun t : Int32 × Mem => f_MM_readsLiars_L2 t.1 t.2) ((0 : Int32), N) = some N := by
  refine loop_inr ?_
  show f_MM_readsLiars_L2 0 N = _
  unfold f_MM_readsLiars_L2
  rw [if_pos rfl]
theorem or_pw {L v n : Nat} (hL : L < 2 ^ n) (hv : v < n) : L ||| 2 ^ v < 2 ^ n := Nat.or_lt_two_pow hL (Nat.pow_lt_pow_right (by decide) hv)
set_option maxHeartbeats 1000000 in
theorem liars_lp {tl : Nat} {B : Nat → Nat} (ht : tl ≤ 400) (hB : ∀ j, j < tl → B j < 256) {n : Nat} (hn1 : 1 ≤ n) (hn : n ≤ 8) : ∀ d k i L M N, tl - i < d → SS tl B 0 i M N → k + 1 ≤ i → M 8 0 = nI n → N 2 0 = nI n → M 8 1 = nI L → N 2 6 = nI L → L < 2 ^ n → ∃ w' i' L' M' g N1 N', loop (fun t : Int32 × Mem => f_Tape_readLiars_L20 t.1 t.2) (nI k, M) = some M' ∧ chk N = some (.inl (g, N1)) ∧ loop (fun t : Int32 × Mem => f_MM_readsLiars_L2 t.1 t.2) (g, N1) = some N' ∧ SS tl B w' i' M' N' ∧ (∀ a, a ≠ 136 → a ≠ 8 → M' a = M a) ∧ (∀ b, b ≠ 1 → M' 8 b = M 8 b) ∧ FrH (fun j => j = 6) N N' ∧ (w' = 0 → i ≤ i' ∧ M' 8 1 = nI L' ∧ N' 2 6 = nI L' ∧ L' < 2 ^ n) := by
  intro d
  induction d with
  | zero => intro k i L M N h; omega
  | succ d ih =>
    intro k i L M N hd hS hki hM8 hN2 hM1 hN6 hL
    have hi := hS.1.2.2.2.1
    have hTM := hS.m
    have hTC := hS.1
    obtain ⟨r1, r2, r3, r4, -⟩ := nS_sp (B := B) hi
    have hw0 : M 136 3 = 0 := hTC.2.1
    have cH := C_hasNumber ht hB hTC
    have mH : f_MM_isDigit N = some (hdB tl B (nS tl B i), upM N 0 9 (nI (nS tl B i))) := M_isDigit ht hB hTM
    have hS4 : SS tl B 0 (nS tl B i) (upM M 136 4 (nI (nS tl B i))) (upM N 0 9 (nI (nS tl B i))) := ⟨hTC.to (by omega), by decide, _, hTM.to (by omega), fun _ => rfl⟩
    have fr4 : ∀ a, a ≠ 136 → upM M 136 4 (nI (nS tl B i)) a = M a := fun a ha => upM_row ha
    have frN4 : FrR N (upM N 0 9 (nI (nS tl B i))) := FrR.up _ (Or.inl rfl)
    have cL : f_Tape_readLiars_L20 (nI k) M = bnd2 (some (hdB tl B (nS tl B i), upM M 136 4 (nI (nS tl B i)))) (fun y3 M2 => if (bI y3) = 0 then some (.inr M2) else bnd2 (f_Tape_readParty M2) (fun y6 M5 => some (.inl (nI (k + 1), upM M5 8 1 ((M2 8 1) ||| ((1 : Int32) <<< (y6 &&& 31))))))) := by
      unfold f_Tape_readLiars_L20
      rw [j400, if_neg (nI_ge (by omega) (by decide)), if_pos hw0, cH, ← nI_succ]
      rfl
    have mJ : chk N = bnd2 (some (hdB tl B (nS tl B i), upM N 0 9 (nI (nS tl B i)))) (fun y5 M4 => if (bI y5) = 0 then some (.inl ((0 : Int32), M4)) else some (.inl ((1 : Int32), M4))) := by
      unfold chk
      rw [isR_iff hTM.2.1 (by decide), decide_eq_true rfl, gT, mH]
    rw [bnd2_some] at cL mJ
    cases hd2 : hdB tl B (nS tl B i)
    · rw [hd2, gF] at cL mJ
      refine ⟨0, nS tl B i, L, upM M 136 4 (nI (nS tl B i)), 0, _, _, loop_inr cL, mJ, L2_0 _, hS4, fun a ha _ => fr4 a ha, fun b _ => by rw [fr4 8 (by decide)], frN4.H, fun _ => ⟨r1, ?_, ?_, hL⟩⟩
      · rw [fr4 8 (by decide)]; exact hM1
      · rw [frN4.1 2 (by decide)]; exact hN6
    · rw [hd2, gT, fr4 8 (by decide), hM1] at cL
      rw [hd2, gT] at mJ
      have hsl : nS tl B i < tl := by
        unfold hdB at hd2
        simp only [Bool.and_eq_true, decide_eq_true_eq] at hd2
        exact hd2.1
      obtain ⟨v, x, w1, i1, M7, N14, a1, a2, a3, a5, a6, a7, a8, a9⟩ := party_st ht hB hS4 hn1 hn (by rw [fr4 8 (by decide)]; exact hM8) (fun _ => by rw [frN4.1 2 (by decide)]; exact hN2)
      have frN14 : FrR N N14 := frN4.tr a9
      have frM7 : ∀ a, a ≠ 136 → M7 a = M a := fun a ha => (a8 a ha).trans (fr4 a ha)
      rw [a1, bnd2_some, sh1 v (by omega), fa_or] at cL
      obtain ⟨M8, hM8'⟩ : ∃ M8, M8 = upM M7 8 1 (nI (L ||| 2 ^ v)) := ⟨_, rfl⟩
      rw [← hM8'] at cL
      have fr8 : ∀ a, a ≠ 136 → a ≠ 8 → M8 a = M a := fun a h1 h2 => by rw [hM8', upM_row h2]; exact frM7 a h1
      have fr8' : ∀ b, b ≠ 1 → M8 8 b = M 8 b := fun b hb => by rw [hM8', upM_ne (fun _ => hb), frM7 8 (by decide)]
      have n14_6 : N14 2 6 = nI L := by rw [frN14.1 2 (by decide)]; exact hN6
      by_cases w10 : w1 = 0
      · subst w10
        obtain ⟨e1, e2, -⟩ := a7 rfl
        have hdd : tl - i1 < d := by clear a5 a7; omega
        have hkk : k + 1 + 1 ≤ i1 := by clear a5 a7; omega
        have hii : i ≤ i1 := by clear a5 a7; omega
        obtain ⟨X, hX⟩ : ∃ X, X = upM N14 2 6 (nI (L ||| 2 ^ v)) := ⟨_, rfl⟩
        have mL : f_MM_readsLiars_L2 1 (upM N 0 9 (nI (nS tl B i))) = chk X := by
          unfold f_MM_readsLiars_L2
          rw [if_neg (show ¬ (1 : Int32) = 0 by decide), a2, bnd2_some, isR_iff a5.m.2.1 (by decide), decide_eq_true rfl, gT, J33_eq, n14_6, e1, sh1 v (by omega), fa_or, hX]
        have hSX : SS tl B 0 i1 M8 X := by
          rw [hX]
          exact (a5.cg (fun a ha => by rw [hM8', upM_row (by omega)]) rfl rfl).up2 _ _
        have frX : FrH (fun j => j = 6) N X := by rw [hX]; exact frN14.H.tr (FrH.up _ rfl)
        obtain ⟨w', i', L', M', g, N1, N', f1, f2, f3, f4, f5, f6, f7, f8⟩ := ih (k + 1) i1 (L ||| 2 ^ v) M8 X hdd hSX hkk ((fr8' 0 (by decide)).trans hM8) (by rw [frX.2.2 0 (by decide)]; exact hN2) (by rw [hM8', upM_eq]) (by rw [hX, upM_eq]) (or_pw hL a3)
        refine ⟨w', i', L', M', 1, upM N 0 9 (nI (nS tl B i)), N', ?_, mJ, ?_, f4, fun a h1 h2 => (f5 a h1 h2).trans (fr8 a h1 h2), fun b hb => (f6 b hb).trans (fr8' b hb), frX.tr f7, fun z => ?_⟩
        · rw [loop_inl (t := (nI (k + 1), M8)) cL]
          exact f1
        · rw [f2] at mL
          rw [loop_inl (t := (g, N1)) mL]
          exact f3
        · obtain ⟨z1, z2, z3, z4⟩ := f8 z
          exact ⟨Nat.le_trans hii z1, z2, z3, z4⟩
      · have a5c := a5
        obtain ⟨s1, s2, s3, s4, -⟩ := a5c
        obtain ⟨X, hX⟩ : ∃ X, X = upM N14 2 6 (N14 2 6 ||| 0) := ⟨_, rfl⟩
        have hSX : SS tl B w1 i1 M8 X := by
          rw [hX]
          exact (a5.cg (fun a ha => by rw [hM8', upM_row (by omega)]) rfl rfl).up2 _ _
        have hSXc := hSX
        obtain ⟨t1, t2, t3, t4, -⟩ := hSXc
        have mL : f_MM_readsLiars_L2 1 (upM N 0 9 (nI (nS tl B i))) = some (.inl (0, X)) := by
          unfold f_MM_readsLiars_L2
          rw [if_neg (show ¬ (1 : Int32) = 0 by decide), a2, bnd2_some, isR_iff s4.2.1 s2, decide_eq_false w10, gF, J33_eq, ← hX, chk_f t4 w10 t2]
        refine ⟨w1, i1, L, M8, 1, upM N 0 9 (nI (nS tl B i)), X, ?_, mJ, ?_, hSX, fr8, fr8', by rw [hX]; exact frN14.H.tr (FrH.up _ rfl), fun z => absurd z w10⟩
        · rw [loop_inl (t := (nI (k + 1), M8)) cL]
          refine loop_inr ?_
          show f_Tape_readLiars_L20 (nI (k + 1)) M8 = _
          unfold f_Tape_readLiars_L20
          rw [j400, if_neg (nI_ge (show k + 1 < 400 by clear a5 a7 hSX; omega) (by decide)), if_neg (show ¬ M8 136 3 = 0 by rw [t1.2.1]; exact fun y => w10 ((nI_eq (b := 0) (by omega) (by omega)).mp y))]
        · rw [loop_inl (t := (0, X)) mL]
          exact L2_0 _
theorem liars_st {tl : Nat} {B : Nat → Nat} (ht : tl ≤ 400) (hB : ∀ j, j < tl → B j < 256) {S : Nat → Nat} {i : Nat} {M N : Mem} (h : RT tl B S i M N) : ∃ M' N', f_Tape_readLiars M = some M' ∧ f_MM_readsLiars N = some N' ∧ RF tl B i M N M' N' := by
  have htw := h.tw
  obtain ⟨hS, hV, hS0, hP, hM⟩ := h
  have hn := pv_n hV
  have v6 := hV.2.2.2.2.2.2.2.1
  have n1 : 1 ≤ S 0 := Nat.pos_of_ne_zero hS0
  have N0 : N 2 0 = nI (S 0) := hM.1 0 (by decide)
  have N6 : N 2 6 = nI (S 6) := hM.1 6 (by decide)
  obtain ⟨v, x, w1, i1, M1, N1, a1, a2, a3, a5, a6, a7, a8, a9⟩ := party_st ht hB hS n1 hn hP.1 (fun _ => N0)
  obtain ⟨M2, hM2⟩ : ∃ M2, M2 = upM M1 8 1 (nI (S 6 ||| 2 ^ v)) := ⟨_, rfl⟩
  have fr2 : ∀ a, a ≠ 136 → a ≠ 8 → M2 a = M a := fun a h1 h2 => by rw [hM2, upM_row h2]; exact a8 a h1
  have fr2' : ∀ b, b ≠ 1 → M2 8 b = M 8 b := fun b hb => by rw [hM2, upM_ne (fun _ => hb), a8 8 (by decide)]
  have ct2 : CT M M2 := fun a h1 h2 => fr2 a h2 (by omega)
  have cls : f_Tape_readLiars M = loop (fun t : Int32 × Mem => f_Tape_readLiars_L20 t.1 t.2) ((0 : Int32), M2) := by
    unfold f_Tape_readLiars f_Tape_readLiars_J20 f_Tape_readLiars_W20
    rw [a1, bnd2_some, hP.2.1, sh1 v (by omega), fa_or, lt1_eq, ← hM2, bnd_id]
  have ref : f_MM_readsLiars N = loop (fun t : Int32 × Mem => f_MM_readsLiars_L2 t.1 t.2) ((1 : Int32), N) := by
    unfold f_MM_readsLiars f_MM_readsLiars_J2 f_MM_readsLiars_W2
    rw [bnd_id]
  have n16 : N1 2 6 = nI (S 6) := by rw [a9.1 2 (by decide)]; exact N6
  rw [cls, ref]
  by_cases z : w1 = 0
  · subst z
    obtain ⟨e1, e2, -⟩ := a7 rfl
    have i1p : 0 + 1 ≤ i1 := by clear a5 a7; omega
    have ii1 : i ≤ i1 := by clear a5 a7; omega
    obtain ⟨X, hX⟩ : ∃ X, X = upM N1 2 6 (nI (S 6 ||| 2 ^ v)) := ⟨_, rfl⟩
    have mL : f_MM_readsLiars_L2 1 N = chk X := by
      unfold f_MM_readsLiars_L2
      rw [if_neg (show ¬ (1 : Int32) = 0 by decide), a2, bnd2_some, isR_iff a5.m.2.1 (by decide), decide_eq_true rfl, gT, J33_eq, n16, e1, sh1 v (by omega), fa_or, hX]
    have hSX : SS tl B 0 i1 M2 X := by
      rw [hX]
      exact (a5.cg (fun a ha => by rw [hM2, upM_row (by omega)]) rfl rfl).up2 _ _
    have frX : FrH (fun j => j = 6) N X := by rw [hX]; exact a9.H.tr (FrH.up _ rfl)
    obtain ⟨w', i', L', M', g, N2, N', f1, f2, f3, f4, f5, f6, f7, f8⟩ := liars_lp ht hB n1 hn (tl - i1 + 1) 0 i1 (S 6 ||| 2 ^ v) M2 X (Nat.lt_succ_self _) hSX i1p ((fr2' 0 (by decide)).trans hP.1) (by rw [frX.2.2 0 (by decide)]; exact N0) (by rw [hM2, upM_eq]) (by rw [hX, upM_eq]) (or_pw v6 a3)
    have g5 : ∀ a, a ≠ 136 → a ≠ 8 → M' a = M a := fun a h1 h2 => (f5 a h1 h2).trans (fr2 a h1 h2)
    have g6 : ∀ b, b ≠ 1 → M' 8 b = M 8 b := fun b hb => (f6 b hb).trans (fr2' b hb)
    rw [f2] at mL
    refine ⟨M', N', f1, by rw [loop_inl (t := (g, N2)) mL]; exact f3, fun a h1 h2 => g5 a h2 (by omega), (frX.tr f7).mono (fun _ _ => trivial), ?_⟩
    by_cases zz : w' = 0
    · subst zz
      obtain ⟨u1, u2, u3, u4⟩ := f8 rfl
      have hV0 := hV
      obtain ⟨v0, v2, v3, v3', v4, v5, v5', -, -⟩ := hV0
      refine Or.inl ⟨setR S 6 L', i', Nat.le_trans ii1 u1, f4, hV.hd (fun j hj => setR_ne (by omega)) v0 v2 v3 v3' v4 v5 v5' u4, hS0, ?_, ?_⟩
      · rw [PC8]
        refine (PC8.mp hP).hd (fun j hj => setR_ne (by omega)) (fun b hb => g6 b hb) u2 (fun j hj => ?_) (fun a h1 h2 => g5 (a + 8) (by omega) (by omega))
        show M' (1 + 8) j = _
        rw [g5 (1 + 8) (by decide) (by decide), setR_ne (by omega)]
        exact hP.2.2.2.2.2.1 j hj
      · refine hM.hd (fun j hj => setR_ne (by omega)) (fun j h1 h2 => ?_) (fun j hj => ?_)
        · by_cases e : j = 6
          · subst e; rw [u3, setR_eq]
          · rw [(frX.tr f7).2.2 j e, setR_ne e]; exact hM.1 j (by omega)
        · exact (frX.tr f7).2.2 j (by omega)
    · exact Or.inr ⟨w', f4.cf zz (htw.cg8 g5 g6), f4.rf⟩
  · have a5c := a5
    obtain ⟨s1, s2, s3, s4, -⟩ := a5c
    obtain ⟨X, hX⟩ : ∃ X, X = upM N1 2 6 (N1 2 6 ||| 0) := ⟨_, rfl⟩
    have hSX : SS tl B w1 i1 M2 X := by
      rw [hX]
      exact (a5.cg (fun a ha => by rw [hM2, upM_row (by omega)]) rfl rfl).up2 _ _
    have hSXc := hSX
    obtain ⟨t1, t2, t3, t4, -⟩ := hSXc
    have mL : f_MM_readsLiars_L2 1 N = some (.inl (0, X)) := by
      unfold f_MM_readsLiars_L2
      rw [if_neg (show ¬ (1 : Int32) = 0 by decide), a2, bnd2_some, isR_iff s4.2.1 s2, decide_eq_false z, gF, J33_eq, ← hX, chk_f t4 z t2]
    have cf := hSX.cf z (htw.cg8 fr2 fr2')
    refine ⟨M2, X, ?_, by rw [loop_inl (t := (0, X)) mL]; exact L2_0 _, ct2, by rw [hX]; exact a9.H.tr (FrH.up _ trivial), Or.inr ⟨w1, cf, hSX.rf⟩⟩
    refine loop_inr ?_
    show f_Tape_readLiars_L20 0 M2 = _
    unfold f_Tape_readLiars_L20
    rw [if_neg (by decide), if_neg cf.loopEnd]
