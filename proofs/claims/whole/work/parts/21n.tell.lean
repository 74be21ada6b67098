/-! tell -/
theorem C_sign {tl : Nat} {B : Nat → Nat} (ht : tl ≤ 400) (hB : ∀ j, j < tl → B j < 256) {w i c : Nat} {M : Mem} (h1 : TC tl B i w M) (hc : c < 256) : f_Tape_readSign M (nI c) = if nS tl B i < tl ∧ B (nS tl B i) = c then some (upM M 136 4 (nI (nS tl B i + 1))) else bnd (f_Tape_blame (upM M 136 4 (nI (nS tl B i))) (nI (nS tl B i)) 1) (fun M2 => some M2) := by
  obtain ⟨r1, r2, r3, -, -⟩ := nS_sp (B := B) h1.2.2.2.1
  have hs : f_Tape_skipBlanks M = some (upM M 136 4 (nI (nS tl B i))) := C_skip ht hB h1
  unfold f_Tape_readSign f_Tape_readSign_J41
  rw [hs, bnd_some, upM_eq, upM_ne (by omega), h1.1]
  by_cases z : nS tl B i < tl
  · have hb := hB _ z
    rw [if_neg (nI_ge z (by omega)), gIn_nI (by omega) (by decide), nI_clamp (by omega), upM_row (by decide), h1.2.2.2.2 _ z]
    by_cases y : B (nS tl B i) = c
    · rw [if_pos (by rw [y]), if_pos ⟨z, y⟩, lt1_eq, upM_2, ← nI_succ]
    · rw [if_neg (fun q => y ((nI_eq (by omega) (by omega)).mp q)), if_neg (fun q => y q.2)]
  · rw [if_pos ((nI_leI (by omega) (by omega)).mpr (by omega)), if_neg (fun q => z q.1)]
theorem CF.skip {tl : Nat} {B : Nat → Nat} (ht : tl ≤ 400) (hB : ∀ j, j < tl → B j < 256) {w : Nat} {M : Mem} (h : CF tl B w M) : ∃ M', f_Tape_skipBlanks M = some M' ∧ CF tl B w M' ∧ CT M M' := by
  obtain ⟨⟨i, h1⟩, h2, h3, h4⟩ := h
  obtain ⟨r1, r2, -, -⟩ := runN_sp (blB B) h1.2.2.2.1
  exact ⟨_, C_skip ht hB h1, ⟨⟨_, h1.to r2⟩, h2, h3, h4.cg (fun a ha => upM_row ha)⟩, CT.of (fun a ha => upM_row ha)⟩
theorem L59_f {tl : Nat} {B : Nat → Nat} {w : Nat} {M : Mem} (h : CF tl B w M) (x : Int32) : loop (fun t : Int32 × Mem => f_Tape_read_L59 t.1 t.2) (x, M) = some M := by
  refine loop_inr ?_
  show f_Tape_read_L59 x M = _
  unfold f_Tape_read_L59
  rw [if_neg h.loopEnd]
  split <;> rfl
theorem W48_f {tl : Nat} {B : Nat → Nat} {i w : Nat} {N : Mem} (h : TM tl B i w N) (h0 : w ≠ 0) (hw : w < 4000) : f_MM_tell_W48 N = some N ∧ f_MM_tell_J81 N = f_MM_tell_J105 N := by
  refine ⟨?_, ?_⟩
  · unfold f_MM_tell_W48
    refine loop_inr ?_
    show f_MM_tell_L48 N = _
    unfold f_MM_tell_L48
    rw [isR_iff h.2.1 hw, decide_eq_false h0, gF]
  · unfold f_MM_tell_J81
    rw [isR_iff h.2.1 hw, decide_eq_false h0, gF]
/-- behind all parts -/
def EF (tl : Nat) (B : Nat → Nat) (M N M' N' : Mem) : Prop := CT M M' ∧ FrH (fun _ => True) N N' ∧ ((∃ S' i', RT tl B S' i' M' N') ∨ ∃ w, CF tl B w M' ∧ ∃ i', TM tl B i' w N')
set_option maxHeartbeats 1000000 in
theorem parts_lp {tl : Nat} {B : Nat → Nat} (ht : tl ≤ 400) (hB : ∀ j, j < tl → B j < 256) : ∀ d k i S M N, tl - i < d → RT tl B S i M N → k ≤ i → ∃ M' N', bnd (f_Tape_skipBlanks M) (fun M12 => loop (fun t : Int32 × Mem => f_Tape_read_L59 t.1 t.2) (nI k, M12)) = some M' ∧ bnd (f_MM_tell_W48 N) (fun e48 => f_MM_tell_J81 e48) = f_MM_tell_J105 N' ∧ EF tl B M N M' N' := by
  intro d
  induction d with
  | zero => intro k i S M N h; omega
  | succ d ih =>
    intro k i S M N hd hR hki
    have htw := hR.tw
    have hRc := hR
    obtain ⟨hS, hV, hS0, hP, hM⟩ := hRc
    have hTC := hS.1
    have hTM := hS.m
    have hi := hTC.2.2.2.1
    obtain ⟨r1, r2, r3, -, -⟩ := nS_sp (B := B) hi
    have hsk : f_Tape_skipBlanks M = some (upM M 136 4 (nI (nS tl B i))) := C_skip ht hB hTC
    have hnx : f_MM_next N = some (sgI tl B (nS tl B i), upM N 0 9 (nI (nS tl B i))) := M_next ht hB hTM
    have rr : nS tl B (nS tl B i) = nS tl B i := runN_2 hi
    obtain ⟨s, hs⟩ : ∃ s, s = nS tl B i := ⟨_, rfl⟩
    rw [← hs] at hsk hnx r1 r2 rr
    have hsl : s ≤ tl := by omega
    obtain ⟨M2, hM2⟩ : ∃ M2, M2 = upM M 136 4 (nI s) := ⟨_, rfl⟩
    obtain ⟨N2, hN2⟩ : ∃ N2, N2 = upM N 0 9 (nI s) := ⟨_, rfl⟩
    rw [← hM2] at hsk
    rw [← hN2] at hnx
    have fr2 : ∀ a, a ≠ 136 → M2 a = M a := fun a ha => by rw [hM2, upM_row ha]
    have frN2 : FrR N N2 := by rw [hN2]; exact FrR.up _ (Or.inl rfl)
    have hT2 : TC tl B s 0 M2 := by rw [hM2]; exact hTC.to hsl
    have hTN2 : TM tl B s 0 N2 := by rw [hN2]; exact hTM.to hsl
    have hR2 : RT tl B S s M2 N2 := ⟨⟨hT2, by decide, s, hTN2, fun _ => rfl⟩, hV, hS0, hP.cg (fun a k1 k2 => fr2 a (by omega)), by rw [frN2.1 2 (by decide)]; exact hM⟩
    have hnx2 : f_MM_next N2 = some (sgI tl B s, N2) := by
      have := M_next ht hB hTN2
      rw [show runN (blB B) tl s = s from rr, upM_self hTN2.2.2.1] at this
      exact this
    rw [hsk, bnd_some]
    -- the reference leaves its loop
    have out : sgI tl B s ≠ 59 → f_MM_tell_W48 N = some N2 := fun z => by
      unfold f_MM_tell_W48
      refine loop_inr ?_
      show f_MM_tell_L48 N = _
      unfold f_MM_tell_L48
      rw [isR_iff hTM.2.1 (by decide), decide_eq_true rfl, gT, hnx, bnd2_some, if_neg z]
    by_cases z : s < tl
    · have k400 : k < 400 := by omega
      have hb := hB _ z
      have sg : sgI tl B s = nI (B s) := if_pos z
      have cL : f_Tape_read_L59 (nI k) M2 = bnd (f_Tape_readSign M2 (nI 59)) (fun M2 => bnd (f_Tape_readPart M2) (fun M4 => bnd (f_Tape_skipBlanks M4) (fun M6 => some (.inl (nI (k + 1), M6))))) := by
        unfold f_Tape_read_L59
        rw [j400, if_neg (nI_ge k400 (by decide)), if_pos (show M2 136 3 = 0 from hT2.2.1), hT2.1, hT2.2.2.1, if_neg (nI_ge z (by omega)), ← nI_succ]
        rfl
      rw [C_sign ht hB hT2 (by decide), rr] at cL
      by_cases y : B s = 59
      · rw [if_pos ⟨z, y⟩, bnd_some] at cL
        have hR3 : RT tl B S (s + 1) (upM M2 136 4 (nI (s + 1))) (upM N2 0 9 (nI (s + 1))) := ⟨⟨hT2.to (by omega), by decide, s + 1, hTN2.to (by omega), fun _ => rfl⟩, hV, hS0, hR2.2.2.2.1.cg (fun a k1 k2 => upM_row (by omega)), by rw [upM_row (by decide)]; exact hR2.2.2.2.2⟩
        obtain ⟨M4, N4, a1, a2, a3, a4, a5⟩ := part_st ht hB hR3
        rw [a1, bnd_some] at cL
        have mL : f_MM_tell_L48 N = some (.inl N4) := by
          unfold f_MM_tell_L48
          rw [isR_iff hTM.2.1 (by decide), decide_eq_true rfl, gT, hnx, bnd2_some, if_pos (by rw [sg, y]; rfl), lt1_eq, hTN2.2.2.1, show nI s + 1 = nI (s + 1) from nI_add s 1, a2, bnd_some]
        have w48 : f_MM_tell_W48 N = f_MM_tell_W48 N4 := by
          unfold f_MM_tell_W48
          exact loop_inl (t := N4) mL
        have ct : CT M M4 := (CT.of fr2).tr ((CT.of (fun a ha => upM_row ha)).tr a3)
        have fh : FrH (fun _ => True) N N4 := frN2.H.tr (FrH.tr ((FrR.up _ (Or.inl rfl)).H) a4)
        rw [w48]
        rcases a5 with ⟨S', i', k1, k2⟩ | ⟨w, k1, i', k2⟩
        · obtain ⟨M', N', b1, b2, b3, b4, b5⟩ := ih (k + 1) i' S' M4 N4 (by omega) k2 (by omega)
          refine ⟨M', N', ?_, b2, ct.tr b3, fh.tr b4, b5⟩
          have hsk4 := C_skip ht hB k2.1.1
          rw [hsk4, bnd_some] at cL b1
          rw [loop_inl (t := (nI (k + 1), _)) cL]
          exact b1
        · obtain ⟨M6, b1, b2, b3⟩ := k1.skip ht hB
          rw [b1, bnd_some] at cL
          obtain ⟨c1, c2⟩ := W48_f k2 k1.2.1 k1.2.2.1
          refine ⟨M6, N4, ?_, by rw [c1, bnd_some, c2], ct.tr b3, fh, Or.inr ⟨w, b2, i', k2⟩⟩
          rw [loop_inl (t := (nI (k + 1), M6)) cL]
          exact L59_f b2 _
      · rw [if_neg (fun q => y q.2), show upM M2 136 4 (nI s) = M2 from upM_self hT2.2.2.1] at cL
        obtain ⟨M3, N3, d1, d2, d3, d4, d5, d6, d7⟩ := blame_st (s := s) (k := 1) hR2.1 (by omega) (by decide) (by decide)
        have d1 : f_Tape_blame M2 (nI s) 1 = some M3 := d1
        have d2 : f_MM_fails N2 1 (nI s) = some N3 := d2
        have cf3 := d3.cf (blm_ne (by decide)) ((htw.cg fr2).cg d5)
        obtain ⟨M4, p1, p2, p3⟩ := cf3.part ht hB
        obtain ⟨M5, q1, q2, q3⟩ := p2.skip ht hB
        rw [d1, bnd_some, bnd_some, p1, bnd_some, q1, bnd_some] at cL
        have n59 : sgI tl B s ≠ 59 := by
          rw [sg]
          exact fun q => y ((nI_eq (b := 59) (by omega) (by omega)).mp q)
        refine ⟨M5, N3, ?_, ?_, ((CT.of fr2).tr (CT.of d5)).tr (p3.tr q3), frN2.H.tr (FrH.fl d6 d7), Or.inr ⟨_, q2, d3.rf⟩⟩
        · rw [loop_inl (t := (nI (k + 1), M5)) cL]
          exact L59_f q2 _
        · rw [out n59, bnd_some]
          unfold f_MM_tell_J81
          rw [isR_iff hTN2.2.1 (by decide), decide_eq_true rfl, gT, hnx2, bnd2_some, if_neg (by rw [sg]; exact nI_neg1 (by omega)), hTN2.2.2.1, d2, bnd_some]
    · have sg : sgI tl B s = -1 := if_neg z
      refine ⟨M2, N2, ?_, ?_, CT.of fr2, frN2.H, Or.inl ⟨S, s, hR2⟩⟩
      · refine loop_inr ?_
        show f_Tape_read_L59 (nI k) M2 = _
        unfold f_Tape_read_L59
        rw [hT2.1, hT2.2.2.1, if_pos (show nI tl ≤ nI s from (nI_leI (by omega) (by omega)).mpr (by omega)), show M2 136 3 = 0 from hT2.2.1]
        split <;> rfl
      · rw [out (by rw [sg]; decide), bnd_some]
        unfold f_MM_tell_J81
        rw [isR_iff hTN2.2.1 (by decide), decide_eq_true rfl, gT, hnx2, bnd2_some, if_pos sg]
