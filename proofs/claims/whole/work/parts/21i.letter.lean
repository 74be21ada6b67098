/-- the play that is heard, as if it were the play -/
def sh (M : Mem) : Mem := fun a => M (a + 8)
theorem PC8 {S : Nat → Nat} {M : Mem} : PC S M 8 ↔ PC S (sh M) 0 := Iff.rfl
theorem sh_up (M : Mem) (k i : Nat) (x : Int32) : sh (upM M (k + 8) i x) = upM (sh M) k i x := by
  funext a j
  show upM M (k + 8) i x (a + 8) j = upM (sh M) k i x a j
  rw [upM_get, upM_get]
  by_cases w : a = k ∧ j = i
  · rw [if_pos w, if_pos ⟨by omega, w.2⟩]
  · rw [if_neg w, if_neg (fun z => w ⟨by omega, z.2⟩)]
    rfl
theorem addPlan8 {M : Mem} {n : Nat} {x y c : Int32} (h : M 8 2 = nI n) (hn : n < 16) : f_Play_addPlan 8 M x y c = some (upM (upM (upM (upM M 10 n x) 11 n y) 12 n c) 8 2 (nI (n + 1))) := by
  unfold f_Play_addPlan
  rw [h, show (16 : Int32) = nI 16 from rfl, if_neg (nI_ge hn (by decide)), gIn_nI (by omega) (by decide), lt1_eq, nI_clamp (by omega), upM_row (a := 8) (by decide), h, gIn_nI (by omega) (by decide), lt1_eq, nI_clamp (by omega), upM_row (a := 8) (by decide), upM_row (a := 8) (by decide), h, gIn_nI (by omega) (by decide), lt1_eq, nI_clamp (by omega), upM_row (a := 8) (by decide), upM_row (a := 8) (by decide), upM_row (a := 8) (by decide), h, lt1_eq, ← nI_succ]
theorem addPlan0 {M : Mem} {n : Nat} {x y c : Int32} (h : M 0 2 = nI n) (hn : n < 16) : f_Play_addPlan 0 M x y c = some (upM (upM (upM (upM M 2 n x) 3 n y) 4 n c) 0 2 (nI (n + 1))) := by
  unfold f_Play_addPlan
  rw [h, show (16 : Int32) = nI 16 from rfl, if_neg (nI_ge hn (by decide)), gIn_nI (by omega) (by decide), lt1_eq, nI_clamp (by omega), upM_row (a := 0) (by decide), h, gIn_nI (by omega) (by decide), lt1_eq, nI_clamp (by omega), upM_row (a := 0) (by decide), upM_row (a := 0) (by decide), h, gIn_nI (by omega) (by decide), lt1_eq, nI_clamp (by omega), upM_row (a := 0) (by decide), upM_row (a := 0) (by decide), upM_row (a := 0) (by decide), h, lt1_eq, ← nI_succ]
theorem addPlan_PC {S rc : Nat → Nat} (hV : PV S) {M : Mem} {c : Int32} (hP : PC S M 8) (h7 : S 7 < 16) (h4 : rc 4 ≤ 8) (hc : Chn c (rc 4) (fun i => rc (5 + i))) : ∃ M', f_Play_addPlan 8 M (nI (64 * rc 0 + 8 * rc 1 + rc 2)) (nI (rc 3)) c = some M' ∧ (∀ a, ¬ (8 ≤ a ∧ a < 16) → M' a = M a) ∧ PC (apR S rc) M' 8 := by
  obtain ⟨M1, a1, -, a3⟩ := apR_PC (rc := rc) hV (PC8.mp hP) h7 h4 hc
  have e0 : sh M 0 2 = nI (S 7) := hP.2.2.1
  rw [addPlan0 e0 h7] at a1
  have a1 := Option.some.inj a1
  refine ⟨_, addPlan8 hP.2.2.1 h7, fun a ha => ?_, ?_⟩
  · rw [upM_row (by omega), upM_row (by omega), upM_row (by omega), upM_row (by omega)]
  · rw [PC8, sh_up _ 0, sh_up _ 4, sh_up _ 3, sh_up _ 2, a1]
    exact a3
/-- the class goes on behind a fault: a letter is put down -/
theorem CF.put {tl : Nat} {B : Nat → Nat} {w : Nat} {M : Mem} (h : CF tl B w M) (x y c : Int32) : ∃ M', f_Play_addPlan 8 M x y c = some M' ∧ CF tl B w M' ∧ CT M M' := by
  have h0 := h
  obtain ⟨⟨i, h1⟩, h2, h3, n, c2, c3, c4, p0, p1, p2, p3, p4, p5, p6, p7, p8, p9, p10⟩ := h
  by_cases z : c2 < 16
  · refine ⟨_, addPlan8 p3 z, ⟨⟨i, h1.cg (fun a ha => ?_)⟩, h2, h3, n, c2 + 1, c3, c4, ?_, p1, p2, upM_eq, by omega, ?_, p6, fun l hl => ?_, ?_, p9, fun l hl => ?_⟩, fun a h4 h5 => ?_⟩
    · rw [upM_row (by omega), upM_row (by omega), upM_row (by omega), upM_row (by omega)]
    · rw [upM_ne (by omega), upM_row (by decide), upM_row (by decide), upM_row (by decide)]; exact p0
    · rw [upM_ne (by omega), upM_row (by decide), upM_row (by decide), upM_row (by decide)]; exact p5
    · rw [upM_row (by decide), upM_row (by decide), upM_row (by decide), upM_row (by decide)]; exact p7 l hl
    · rw [upM_ne (by omega), upM_row (by decide), upM_row (by decide), upM_row (by decide)]; exact p8
    · rw [upM_row (by decide), upM_row (by decide), upM_row (by decide), upM_row (by decide)]; exact p10 l hl
    · rw [upM_row (by omega), upM_row (by omega), upM_row (by omega), upM_row (by omega)]
  · refine ⟨M, ?_, h0, CT.rf⟩
    unfold f_Play_addPlan
    rw [p3, show (16 : Int32) = nI 16 from rfl, if_pos ((nI_leI (by decide) (by omega)).mpr (by omega))]
theorem CF.mk {tl : Nat} {B : Nat → Nat} {w : Nat} {M : Mem} (h : CF tl B w M) (x y c : Int32) : ∃ M', f_Tape_readLetter_J51 M x y c 0 = some M' ∧ CF tl B w M' ∧ CT M M' := by
  obtain ⟨M', a1, a2, a3⟩ := h.put x y c
  refine ⟨M', ?_, a2, a3⟩
  unfold f_Tape_readLetter_J51 f_Tape_readLetter_W51 f_Tape_readLetter_J110
  have e : loop (fun t : Int32 × Int32 × Mem => f_Tape_readLetter_L51 t.1 t.2.1 t.2.2) (c, (0 : Int32), M) = some (c, M) := loop_inr (by
    show f_Tape_readLetter_L51 c 0 M = _
    unfold f_Tape_readLetter_L51
    rw [if_neg (by decide), if_neg h.loopEnd])
  rw [e, bnd_some]
  dsimp only
  rw [a1, bnd_some]
theorem CF.letter {tl : Nat} {B : Nat → Nat} (ht : tl ≤ 400) (hB : ∀ j, j < tl → B j < 256) {w : Nat} {M : Mem} (h : CF tl B w M) : ∃ M', f_Tape_readLetter_J21 M = some M' ∧ CF tl B w M' ∧ CT M M' := by
  obtain ⟨W, M1, a1, a2, a3, a4⟩ := h.route ht hB
  obtain ⟨v, M2, b1, b2, b3, b4, b5⟩ := a3.num ht hB (lo := 0) (hi := 3) (by omega) (by omega)
  obtain ⟨M3, c1, c2, c3⟩ := b4.sign ht hB 58
  obtain ⟨p, M4, d1, d2, d3, d4⟩ := c2.party ht hB
  obtain ⟨M5, e1, e2, e3⟩ := d3.mk (nI W) (nI v) (f_Chain_with 0 (nI p))
  refine ⟨M5, ?_, e2, (CT.of (fun a ha => by rw [d4 a ha, c3 a ha, b5 a ha, a4 a ha])).tr e3⟩
  unfold f_Tape_readLetter_J21
  rw [a1, bnd2_some, show f_Tape_readNumber M1 0 3 = some (nI v, M2) from b1, bnd2_some, c1, bnd_some, d1, bnd2_some, e1]
/-- what is heard so far, right in both -/
def RT (tl : Nat) (B : Nat → Nat) (S : Nat → Nat) (i : Nat) (M N : Mem) : Prop := SS tl B 0 i M N ∧ PV S ∧ S 0 ≠ 0 ∧ PC S M 8 ∧ PM S (N 2)
/-- behind a part: still right in both, or the same fault -/
def RF (tl : Nat) (B : Nat → Nat) (i : Nat) (M N M' N' : Mem) : Prop := CT M M' ∧ FrH (fun _ => True) N N' ∧ ((∃ S' i', i ≤ i' ∧ RT tl B S' i' M' N') ∨ ∃ w, CF tl B w M' ∧ ∃ i', TM tl B i' w N')
theorem RT.tw {tl : Nat} {B S : Nat → Nat} {i : Nat} {M N : Mem} (h : RT tl B S i M N) : TW M := TW.of h.2.1 h.2.2.2.1 h.2.2.1
theorem SS.rf {tl : Nat} {B : Nat → Nat} {w i : Nat} {M N : Mem} (h : SS tl B w i M N) : ∃ i', TM tl B i' w N := by
  obtain ⟨-, -, i', h1, -⟩ := h
  exact ⟨i', h1⟩
set_option maxHeartbeats 1000000 in
theorem letter_st {tl : Nat} {B : Nat → Nat} (ht : tl ≤ 400) (hB : ∀ j, j < tl → B j < 256) {S : Nat → Nat} {i s0 : Nat} {M N : Mem} (h : RT tl B S i M N) (hs0 : s0 ≤ 400) (hb : M 136 5 = nI s0) : ∃ M' N', f_Tape_readLetter M = some M' ∧ f_MM_readsLetter N (nI s0) = some N' ∧ RF tl B i M N M' N' := by
  have htw := h.tw
  obtain ⟨hS, hV, hS0, hP, hM⟩ := h
  have hn := pv_n hV
  have v7 := hV.2.2.2.2.2.2.2.2.1
  have n1 : 1 ≤ S 0 := Nat.pos_of_ne_zero hS0
  have N7 : N 2 7 = nI (S 7) := hM.1 7 (by decide)
  have N0 : N 2 0 = nI (S 0) := hM.1 0 (by decide)
  unfold f_Tape_readLetter f_MM_readsLetter
  rw [hP.2.2.1, N7, show (16 : Int32) = nI 16 from rfl, hb]
  by_cases w7 : S 7 < 16
  · rw [if_pos (nI_lt w7 (by decide)), if_neg (fun z => by have := (nI_eq (by omega) (by decide)).mp z; omega), j10, j13, pk_mul, nI_add]
    obtain ⟨q, hq⟩ : ∃ q, q = 10 + 13 * S 7 := ⟨_, rfl⟩
    rw [← hq]
    obtain ⟨r, f, t, w1, i1, M1, N1, a1, a2, a3, a4, a5, a6, a7, a8, a9, a10, a11⟩ := way_st (q := q) ht hB hS n1 hn hP.1 (fun _ => N0) (by omega) (by omega)
    obtain ⟨v, x, w2, i2, M2, N2, b1, b2, b3, b4, b5, b6, b7, b8, b9⟩ := num_st ht hB (lo := 0) (hi := 3) (xl := 0) (xh := 3) a7 (by omega) (by omega) (fun _ => ⟨rfl, rfl⟩)
    have b5' := b5.up2 (q + 3) x
    obtain ⟨w3, i3, M3, N3, c1, c2, c3, c4, c5, c6, c7⟩ := sign_st (c := 58) ht hB b5' (by decide)
    have c3' := c3.up2 (q + 4) 0
    have z21 : w2 = 0 → w1 = 0 := fun z => Classical.byContradiction (fun y => y ((b6 y).symm.trans z))
    have z32 : w3 = 0 → w2 = 0 := fun z => Classical.byContradiction (fun y => y ((c4 y).symm.trans z))
    obtain ⟨X3, hX3⟩ : ∃ X3, X3 = upM (upM N3 0 9 (N3 0 9 + f_MM_truth (bI (f_MM_isRight N3)))) 2 (q + 4) 0 := ⟨_, rfl⟩
    rw [← hX3] at c3'
    have f3 : FrH (fun j => q ≤ j ∧ j < q + 13) N X3 := by
      rw [hX3]
      exact ((((a11.mono (fun j hj => ⟨hj.1, by omega⟩)).tr b9.H).tr (FrH.up x ⟨by omega, by omega⟩)).tr ((c7.tr (FrR.up _ (Or.inl rfl))).H)).tr (FrH.up _ ⟨by omega, by omega⟩)
    have g3 : ∀ a, a ≠ 136 → M3 a = M a := fun a ha => by rw [c6 a ha, b8 a ha, a10 a ha]
    obtain ⟨p, y, w4, i4, M4, N4, d1, d2, d3, d4, d5, d6, d7, d8⟩ := party_st ht hB c3' n1 hn (by rw [g3 8 (by decide)]; exact hP.1) (fun _ => by rw [f3.2.2 0 (by omega)]; exact N0)
    have z43 : w4 = 0 → w3 = 0 := fun z => Classical.byContradiction (fun y => y ((d5 y).symm.trans z))
    have f4 : FrH (fun j => q ≤ j ∧ j < q + 13) N N4 := f3.tr d8.H
    have g4 : ∀ a, a ≠ 136 → M4 a = M a := fun a ha => (d7 a ha).trans (g3 a ha)
    have n4_4 : N4 2 (q + 4) = 0 := by rw [d8.1 2 (by decide), hX3, upM_eq]
    have n4_7 : N4 2 7 = nI (S 7) := by rw [f4.2.2 7 (by omega)]; exact N7
    have cls : f_Tape_readLetter_J21 M = f_Tape_readLetter_J51 M4 (nI (64 * r + 8 * f + t)) (nI v) (f_Chain_with 0 (nI p)) 0 := by
      unfold f_Tape_readLetter_J21
      rw [a1, bnd2_some, show f_Tape_readNumber M1 0 3 = some (nI v, M2) from b1, bnd2_some, show f_Tape_readSign M2 58 = some M3 from c1, bnd_some, d1, bnd2_some]
    have w117 : f_MM_readsLetter_W117 (nI q) y ((0 : Int32), N4) = some N4 := by
      unfold f_MM_readsLetter_W117
      refine loop_inr ?_
      show f_MM_readsLetter_L117 (nI q) y 0 N4 = _
      unfold f_MM_readsLetter_L117
      rw [j4, nI_add, gIn_nI (by omega) (by decide), nI_clamp (show q + 4 < 2 ^ 31 by omega), n4_4, if_pos (by decide)]
    have ref : bnd (f_MM_readsWay N (nI q)) (fun M20 => bnd2 (f_MM_number M20 (0 : Int32) (3 : Int32)) (fun y23 M22 => gIn (nI q + (3 : Int32)) 302 (lt1 (upM M22 2 ((nI q + (3 : Int32)).toNatClampNeg) y23) (fun M25 => if (bI (f_MM_isRight M25)) = 0 then f_MM_readsLetter_J77 M25 (nI q) else bnd2 (f_MM_next M25) (fun y28 M27 => if y28 = (58 : Int32) then f_MM_readsLetter_J77 M27 (nI q) else bnd (f_MM_fails M27 (1 : Int32) (M27 0 9)) (fun M30 => f_MM_readsLetter_J77 M30 (nI q))))))) = bnd (loop (fun t : Int32 × Mem => f_MM_readsLetter_L104 (nI q) t.1 t.2) ((1 : Int32), X3)) (fun e104 => some e104) := by
      rw [a2, bnd_some, b2, bnd2_some, j3, nI_add, gIn_nI (by omega) (by decide), nI_clamp (show q + 3 < 2 ^ 31 by omega), lt1_eq]
      refine (c2 (fun N => f_MM_readsLetter_J77 N (nI q))).trans ?_
      unfold f_MM_readsLetter_J77
      rw [lt1_eq, j4, nI_add, gIn_nI (by omega) (by decide), nI_clamp (show q + 4 < 2 ^ 31 by omega), lt1_eq, ← hX3]
      rfl
    have first : f_MM_readsLetter_L104 (nI q) 1 X3 = f_MM_readsLetter_J168 N4 (nI q) y := by
      unfold f_MM_readsLetter_L104 f_MM_readsLetter_J117
      rw [if_neg (show ¬ (1 : Int32) = 0 by decide), d2, bnd2_some, w117, bnd_some]
    rw [cls]
    by_cases z4 : w4 = 0
    · subst z4
      obtain ⟨e1, e2, -⟩ := d6 rfl
      have z3 := z43 rfl
      have z2 := z32 z3
      have z1 := z21 z2
      have k3 := c5 z3
      obtain ⟨ev, k2, -⟩ := b7 z2
      obtain ⟨hft, hr, hf', ht', k1, -⟩ := a9 z1
      have i4p : 1 ≤ i4 := by clear d4 d6; omega
      have ii4 : i ≤ i4 := by clear d4 d6; omega
      obtain ⟨X, hX⟩ : ∃ X, X = upM (upM N4 2 (q + 5 + 0) (nI p)) 2 (q + 4) (nI 1) := ⟨_, rfl⟩
      have first2 : f_MM_readsLetter_L104 (nI q) 1 X3 = f_MM_readsLetter_J206 X (nI q) := by
        rw [first, e1]
        unfold f_MM_readsLetter_J168
        rw [isR_iff d4.m.2.1 (by decide), decide_eq_true rfl, gT, j4, nI_add, gIn_nI (by omega) (by decide), nI_clamp (show q + 4 < 2 ^ 31 by omega), n4_4, j5, nI_add, show (0 : Int32) = nI 0 from rfl, nI_add, gIn_nI (by omega) (by decide), nI_clamp (show q + 5 + 0 < 2 ^ 31 by omega), lt1_eq, lt1_eq, upM_ne (by omega), n4_4, hX]
        rfl
      have hSX : SS tl B 0 i4 M4 X := by rw [hX]; exact (d4.up2 _ _).up2 _ _
      have fX : FrH (fun j => q ≤ j ∧ j < q + 13) N X := by
        rw [hX]
        exact (f4.tr (FrH.up _ ⟨by omega, by omega⟩)).tr (FrH.up _ ⟨by omega, by omega⟩)
      have hc1 : Chn (f_Chain_with 0 (nI p)) 1 (fun _ => p) := Chn_with (m := 0) (f := fun _ => p) (Chn_0 _) (by decide) (by omega) (fun _ _ => rfl) rfl
      obtain ⟨w', i', c', M5, g, N5, N6, k', mk', m1, m2, m3, m4, m5, m6, m7, m8⟩ := marks_st (q := q) ht hB n1 hn (by omega) (by omega) (tl - i4 + 1) 1 i4 (f_Chain_with 0 (nI p)) M4 X (fun _ => p) (Nat.lt_succ_self _) hSX i4p (by decide) hc1 (fun _ _ => d3) (fun a b hab hb' => by omega) (by rw [g4 8 (by decide)]; exact hP.1) (by rw [fX.2.2 0 (by omega)]; exact N0) (by rw [hX, upM_eq]) (fun j hj => by
        rw [show j = 0 by omega, hX, upM_ne (by omega), upM_eq])
      have m1 : loop (fun t : Int32 × Int32 × Mem => f_Tape_readLetter_L51 t.1 t.2.1 t.2.2) (f_Chain_with 0 (nI p), (0 : Int32), M4) = some (c', M5) := m1
      have cls2 : f_Tape_readLetter_J51 M4 (nI (64 * r + 8 * f + t)) (nI v) (f_Chain_with 0 (nI p)) 0 = bnd (f_Play_addPlan 8 M5 (nI (64 * r + 8 * f + t)) (nI v) c') (fun M2 => some M2) := by
        unfold f_Tape_readLetter_J51 f_Tape_readLetter_W51 f_Tape_readLetter_J110
        rw [m1, bnd_some]
      have ref2 : loop (fun t : Int32 × Mem => f_MM_readsLetter_L104 (nI q) t.1 t.2) ((1 : Int32), X3) = some N6 := by
        rw [m2] at first2
        rw [loop_inl (t := (g, N5)) first2]
        exact m3
      have g5 : ∀ a, a ≠ 136 → M5 a = M a := fun a ha => (m5 a ha).trans (g4 a ha)
      have f6 : FrH (fun j => j = 7 ∨ (q ≤ j ∧ j < q + 13)) N N6 := (fX.mono (fun j hj => Or.inr hj)).tr (m6.mono (fun j hj => by omega))
      rw [ref2, bnd_some] at ref
      rw [cls2]
      by_cases zz : w' = 0
      · subst zz
        obtain ⟨u1, u2, u3, u4, u5, u6, u7⟩ := m8 rfl
        have hk8 := m7.le
        obtain ⟨rc, hrc⟩ : ∃ rc, rc = mkRc r f t v k' mk' := ⟨_, rfl⟩
        have rc5 : ∀ j, rc (5 + j) = mk' j := fun j => by rw [hrc, mkRc_5]
        have rcs : rc 0 = r ∧ rc 1 = f ∧ rc 2 = t ∧ rc 3 = v ∧ rc 4 = k' := by rw [hrc]; exact ⟨rfl, rfl, rfl, rfl, rfl⟩
        obtain ⟨rc0, rc1, rc2, rc3, rc4⟩ := rcs
        have hok : rcOK S rc := by
          refine ⟨?_, ?_, ?_, ?_, fun j hj => ?_, fun a b hab hb' => ?_⟩
          · rw [rc0, rc1, rc2]; exact ⟨a3, a4, a5, a6, hft⟩
          · rw [rc3]; omega
          · rw [rc4]; exact u2
          · rw [rc4]; exact hk8
          · rw [rc4] at hj
            rw [rc5]; exact u3 j hj
          · rw [rc4] at hb'
            rw [rc5, rc5]; exact u4 a b hab hb'
        obtain ⟨M6, p1, p2, p3⟩ := addPlan_PC (rc := rc) (c := c') hV (M := M5) (hP.cg (fun a q1 q2 => g5 a (by omega))) w7 (by omega) (by rw [rc4]; exact m7.congr (fun j _ => rc5 j))
        rw [rc0, rc1, rc2, rc3] at p1
        refine ⟨M6, N6, by rw [p1, bnd_some], ref, (CT.of g5).tr (fun a h1 h2 => p2 a h1), f6.mono (fun _ _ => trivial), Or.inl ⟨apR S rc, i', Nat.le_trans ii4 u1, m4.cg (fun a ha => p2 a (by omega)) rfl rfl, apR_PV hV w7 hok, ?_, p3, ?_⟩⟩
        · rw [apR_out (by decide) (by omega)]; exact hS0
        · have row : ∀ j, j < q + 4 → j ≠ 7 → N6 2 j = X 2 j := fun j h1 h2 => m6.2.2 j (by omega)
          have rowX : ∀ j, j < q + 4 → X 2 j = X3 2 j := fun j h1 => by rw [hX, upM_ne (by omega), upM_ne (by omega), d8.1 2 (by decide)]
          have row3 : ∀ j, j < q + 3 → X3 2 j = N1 2 j := fun j h1 => by rw [hX3, upM_ne (by omega), upM_row (by decide), c7.1 2 (by decide), upM_ne (by omega), b9.1 2 (by decide)]
          refine apR_PM hV w7 (by omega) hM ?_ (fun j hj => ?_) (fun j h1 h2 => f6.2.2 j (by omega))
          · rw [u7, fX.2.2 7 (by omega), N7, ← nI_succ]
          · rw [rc4] at hj
            rw [← hq]
            rcases (show j = 0 ∨ j = 1 ∨ j = 2 ∨ j = 3 ∨ j = 4 ∨ 5 ≤ j by omega) with e | e | e | e | e | e
            · subst e; rw [Nat.add_zero, row q (by omega) (by omega), rowX q (by omega), row3 q (by omega), hr, rc0]
            · subst e; rw [row _ (by omega) (by omega), rowX _ (by omega), row3 _ (by omega), hf', rc1]
            · subst e; rw [row _ (by omega) (by omega), rowX _ (by omega), row3 _ (by omega), ht', rc2]
            · subst e
              rw [row _ (by omega) (by omega), rowX _ (by omega), hX3, upM_ne (by omega), upM_row (by decide), c7.1 2 (by decide), upM_eq, ev, rc3]
            · subst e; rw [u5, rc4]
            · have := u6 (j - 5) (by omega)
              rw [← rc5, show 5 + (j - 5) = j by omega, show q + 5 + (j - 5) = q + j by omega] at this
              exact this
      · have cf := m4.cf zz (htw.cg g5)
        obtain ⟨M6, p1, p2, p3⟩ := cf.put (nI (64 * r + 8 * f + t)) (nI v) c'
        exact ⟨M6, N6, by rw [p1, bnd_some], ref, (CT.of g5).tr p3, f6.mono (fun _ _ => trivial), Or.inr ⟨w', p2, m4.rf⟩⟩
    · have cf := d4.cf z4 (htw.cg g4)
      obtain ⟨M5, p1, p2, p3⟩ := cf.mk (nI (64 * r + 8 * f + t)) (nI v) (f_Chain_with 0 (nI p))
      have d4c := d4
      obtain ⟨-, u2, u3, u4, -⟩ := d4c
      have first2 : f_MM_readsLetter_L104 (nI q) 1 X3 = some (.inl (0, N4)) := by
        rw [first]
        unfold f_MM_readsLetter_J168
        rw [isR_iff u4.2.1 u2, decide_eq_false z4, gF, J206_f u4 z4 u2]
      have ref2 : loop (fun t : Int32 × Mem => f_MM_readsLetter_L104 (nI q) t.1 t.2) ((1 : Int32), X3) = some (upM N4 2 7 (N4 2 7 + 1)) := by
        rw [loop_inl (t := (0, N4)) first2]
        exact L104_0 _ _
      rw [ref2, bnd_some] at ref
      exact ⟨M5, _, p1, ref, (CT.of g4).tr p3, (f4.mono (fun _ _ => trivial)).tr (FrH.up _ trivial), Or.inr ⟨w4, p2, (d4.up2 7 _).rf⟩⟩
  · have e16 : S 7 = 16 := by omega
    rw [if_neg (nI_nlt (by omega) (by omega)), if_pos (by rw [e16])]
    obtain ⟨M1, N1, d1, d2, d3, d4, d5, d6, d7⟩ := blame_st (s := s0) (k := 3) hS hs0 (by decide) (by decide)
    have d1 : f_Tape_blame M (nI s0) 3 = some M1 := d1
    have d2 : f_MM_fails N 3 (nI s0) = some N1 := d2
    obtain ⟨M2, e1, e2, e3⟩ := (d3.cf (blm_ne (by decide)) (htw.cg d5)).letter ht hB
    exact ⟨M2, N1, by rw [d1, bnd_some, e1], by rw [d2, bnd_some], (CT.of d5).tr e3, FrH.fl d6 d7, Or.inr ⟨_, e2, d3.rf⟩⟩
