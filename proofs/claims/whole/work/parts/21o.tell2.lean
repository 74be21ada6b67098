/-- the play that nothing has been told of -/
def R0 : Nat → Nat := fun j => if j = 3 then 1 else if j = 5 then 2 else 0
theorem R0_PV {n : Nat} (hn : n = 0 ∨ (3 ≤ n ∧ n ≤ 8)) : PV (setR R0 0 n) := by
  have e7 : setR R0 0 n 7 = 0 := rfl
  have e8 : setR R0 0 n 8 = 0 := rfl
  have e9 : setR R0 0 n 9 = 0 := rfl
  refine ⟨?_, by show 0 < 4; decide, by show 1 ≤ 1; decide, by show 1 ≤ 8; decide, by show 0 < 4; decide, by show 1 ≤ 2; decide, by show 2 ≤ 4; decide, ?_, by rw [e7]; decide, by rw [e8]; decide, by rw [e9]; decide, fun l hl => ?_, fun l hl => ?_, fun l hl => ?_, fun i j _ hj => ?_, fun i j _ hj => ?_⟩
  · show (n = 0 ∧ 0 = 0) ∨ (3 ≤ n ∧ n ≤ 8 ∧ 0 < n)
    omega
  · show 0 < 2 ^ n
    exact Nat.pow_pos (by decide)
  · rw [e7] at hl; exact absurd hl (Nat.not_lt_zero l)
  · rw [e8] at hl; exact absurd hl (Nat.not_lt_zero l)
  · rw [e9] at hl; exact absurd hl (Nat.not_lt_zero l)
  · rw [e8] at hj; exact absurd hj (Nat.not_lt_zero j)
  · rw [e9] at hj; exact absurd hj (Nat.not_lt_zero j)
theorem R0_PC {n k : Nat} {M : Mem} (h0 : M k 0 = nI n) (h1 : M k 1 = 0) (h2 : M k 2 = 0) (h3 : M k 3 = 0) (h4 : M k 4 = 0) (s0 : M (k + 1) 0 = 0) (s1 : M (k + 1) 1 = 0) (s2 : M (k + 1) 2 = 1) (s3 : M (k + 1) 3 = 0) (s4 : M (k + 1) 4 = 2) : PC (setR R0 0 n) M k := by
  have e7 : setR R0 0 n 7 = 0 := rfl
  have e8 : setR R0 0 n 8 = 0 := rfl
  have e9 : setR R0 0 n 9 = 0 := rfl
  refine ⟨h0, h1, h2, h3, h4, fun i hi => ?_, fun l hl => ?_, fun l hl => ?_, fun l hl => ?_⟩
  · rcases (show i = 0 ∨ i = 1 ∨ i = 2 ∨ i = 3 ∨ i = 4 by omega) with rfl | rfl | rfl | rfl | rfl
    · exact s0
    · exact s1
    · exact s2
    · exact s3
    · exact s4
  · rw [e7] at hl; exact absurd hl (Nat.not_lt_zero l)
  · rw [e8] at hl; exact absurd hl (Nat.not_lt_zero l)
  · rw [e9] at hl; exact absurd hl (Nat.not_lt_zero l)
theorem R0_PM {n : Nat} {m : Nat → Int32} (h0 : m 0 = nI n) (h : ∀ j, 1 ≤ j → j < 10 → m j = nI (R0 j)) : PM (setR R0 0 n) m := by
  have e7 : setR R0 0 n 7 = 0 := rfl
  have e8 : setR R0 0 n 8 = 0 := rfl
  have e9 : setR R0 0 n 9 = 0 := rfl
  refine ⟨fun i hi => ?_, fun l i hl => ?_, fun l i hl => ?_, fun l i hl => ?_⟩
  · by_cases e : i = 0
    · subst e; rw [h0, setR_eq]
    · rw [h i (by omega) hi, setR_ne e]
  · rw [e7] at hl; exact absurd hl (Nat.not_lt_zero l)
  · rw [e8] at hl; exact absurd hl (Nat.not_lt_zero l)
  · rw [e9] at hl; exact absurd hl (Nat.not_lt_zero l)
theorem C_clear {k : Nat} {M : Mem} : ∃ M', f_Play_clear k M = some M' ∧ (∀ a, a ≠ k → a ≠ k + 1 → M' a = M a) ∧ M' k 0 = 0 ∧ M' k 1 = 0 ∧ M' k 2 = 0 ∧ M' k 3 = 0 ∧ M' k 4 = 0 ∧ M' (k + 1) 0 = 0 ∧ M' (k + 1) 1 = 0 ∧ M' (k + 1) 2 = 1 ∧ M' (k + 1) 3 = 0 ∧ M' (k + 1) 4 = 2 := by
  unfold f_Play_clear
  simp only [lt1_eq]
  refine ⟨_, rfl, fun a h1 h2 => ?_, ?_, ?_, ?_, ?_, ?_, ?_, ?_, ?_, ?_, ?_⟩ <;> simp (disch := omega) only [upM_row, upM_ne, upM_eq]
theorem M_begins {a : Nat} {N : Mem} : ∃ N', f_MM_begins a 302 N = some N' ∧ (∀ b, b ≠ a → N' b = N b) ∧ ∀ j, j < 302 → N' a j = nI (R0 j) := by
  unfold f_MM_begins f_MM_begins_J2
  rw [bnd_id]
  unfold f_MM_begins_W2
  suffices hh : ∃ N', loop (fun t => f_MM_begins_L2 a 302 t.1 t.2) ((fun (i : Nat) (s : Mem) => (nI i, s)) 0 N) = some N' ∧ (∀ b, b ≠ a → N' b = N b) ∧ ∀ j, j < 302 → N' a j = nI (R0 j) from hh
  refine loop_enc (fun i s => (nI i, s)) 302 (fun i (X : Mem) => (∀ b, b ≠ a → X b = N b) ∧ ∀ j, j < i → X a j = 0) _ ?_ ?_ 0 N (Nat.zero_le _) ⟨fun _ _ => rfl, fun j hj => absurd hj (Nat.not_lt_zero j)⟩
  · rintro i X hi ⟨g1, g2⟩
    refine Or.inl ⟨upM X a i 0, ?_, fun b hb => (upM_row hb).trans (g1 b hb), fun j hj => ?_⟩
    · show f_MM_begins_L2 a 302 (nI i) X = _
      unfold f_MM_begins_L2
      rw [j302, if_neg (nI_ge hi (by decide)), gIn_nI hi (by decide), lt1_eq, nI_clamp (by omega), ← nI_succ]
    · by_cases e : j = i
      · subst e; exact upM_eq
      · exact (upM_ne (fun _ => e)).trans (g2 j (by omega))
  · rintro X ⟨g1, g2⟩
    refine ⟨upM (upM X a 3 1) a 5 2, ?_, fun b hb => (upM_row hb).trans ((upM_row hb).trans (g1 b hb)), fun j hj => ?_⟩
    · show f_MM_begins_L2 a 302 (nI 302) X = _
      unfold f_MM_begins_L2
      rw [if_pos (by decide), j3, j5, gIn_nI (by decide) (by decide), lt1_eq, gIn_nI (by decide) (by decide), lt1_eq, nI_clamp (show 3 < 2 ^ 31 by decide), nI_clamp (show 5 < 2 ^ 31 by decide)]
    · unfold R0
      by_cases e5 : j = 5
      · subst e5; rw [upM_eq]; rfl
      · rw [upM_ne (fun _ => e5)]
        by_cases e3 : j = 3
        · subst e3; rw [upM_eq]; rfl
        · rw [upM_ne (fun _ => e3), g2 j hj, if_neg e3, if_neg e5]; rfl
set_option maxHeartbeats 1000000 in
/-- the whole tape is read -/
theorem read_st {tl : Nat} {B : Nat → Nat} (ht : tl ≤ 400) (hB : ∀ j, j < tl → B j < 256) {Mc Mm : Mem} (c2 : Mc 136 2 = nI tl) (c7 : ∀ j, j < tl → Mc 137 j = nI (B j)) (m8 : Mm 0 8 = nI tl) (m7 : ∀ j, j < tl → Mm 7 j = sbI (B j)) : ∃ M' N', f_Tape_read Mc = some M' ∧ f_MM_tell Mm = f_MM_tell_J105 N' ∧ EF tl B Mc Mm M' N' := by
  obtain ⟨M1, a1, a2, k0, k1, k2, k3, k4, s0, s1, s2, s3, s4⟩ := C_clear (k := 8) (M := Mc)
  obtain ⟨M2, hM2⟩ : ∃ M2, M2 = upM (upM M1 136 3 0) 136 4 0 := ⟨_, rfl⟩
  have fr2 : ∀ a, a ≠ 136 → M2 a = M1 a := fun a ha => by rw [hM2, upM_row ha, upM_row ha]
  have ct2 : CT Mc M2 := fun a h1 h2 => (fr2 a h2).trans (a2 a (by omega) (by omega))
  have hT2 : TC tl B 0 0 M2 := by
    refine ⟨?_, ?_, ?_, Nat.zero_le _, fun j hj => ?_⟩
    · rw [hM2, upM_ne (by omega), upM_ne (by omega), a2 136 (by decide) (by decide)]; exact c2
    · rw [hM2, upM_ne (by omega), upM_eq]; rfl
    · rw [hM2, upM_eq]; rfl
    · rw [hM2, upM_row (by decide), upM_row (by decide), a2 137 (by decide) (by decide)]; exact c7 j hj
  obtain ⟨N1, hN1⟩ : ∃ N1, N1 = upM (upM Mm 0 9 0) 0 10 (-1) := ⟨_, rfl⟩
  obtain ⟨N2, b1, b2, b3⟩ := M_begins (a := 2) (N := N1)
  have frN1 : FrH (fun _ => True) Mm N1 := by rw [hN1]; exact ((FrR.up _ (Or.inl rfl)).tr (FrR.up _ (Or.inr (Or.inl rfl)))).H
  have frN2 : FrH (fun _ => True) Mm N2 := frN1.tr ⟨fun a h1 h2 => b2 a h2, fun b _ _ _ => by rw [b2 0 (by decide)], fun j hj => absurd trivial hj⟩
  have hTN2 : TM tl B 0 0 N2 := by
    refine ⟨?_, ?_, ?_, Nat.zero_le _, fun j hj => ?_⟩
    · rw [b2 0 (by decide), hN1, upM_ne (by omega), upM_ne (by omega)]; exact m8
    · rw [b2 0 (by decide), hN1, upM_eq]; rfl
    · rw [b2 0 (by decide), hN1, upM_ne (by omega), upM_eq]; rfl
    · rw [b2 7 (by decide), hN1, upM_row (by decide), upM_row (by decide)]; exact m7 j hj
  obtain ⟨M3, d1, d2, d3, d4⟩ := C_word ht hB hT2
  obtain ⟨r1, r2, -, -⟩ := runN_sp (blB B) hT2.2.2.2.1
  obtain ⟨q1, q2, -, -⟩ := runN_sp (ltB B) r2
  have mw := M_word ht hB hTN2 (a := 0) (by decide)
  obtain ⟨s, hs⟩ : ∃ s, s = runN (blB B) tl 0 := ⟨_, rfl⟩
  rw [← hs] at d2 d3 r1 r2 q1 q2 mw
  obtain ⟨e, he⟩ : ∃ e, e = runN (ltB B) tl s := ⟨_, rfl⟩
  rw [← he] at d2 q1 q2 mw
  have cw := C_isWord ht d2 d3 q1 (a := 0) (by decide)
  -- the word
  have word : ∃ w i0 M4 N4, f_Tape_read Mc = f_Tape_read_J39 M4 ∧ f_MM_tell Mm = f_MM_tell_J35 N4 ∧ SS tl B w i0 M4 N4 ∧ (∀ a, a ≠ 136 → M4 a = M3 a) ∧ FrR N2 N4 := by
    have cls : f_Tape_read Mc = if bI (wdB B 0 s e) = 0 then bnd (f_Tape_blame M3 (nI s) 1) (fun M22 => f_Tape_read_J39 M22) else f_Tape_read_J39 M3 := by
      unfold f_Tape_read
      rw [a1, bnd_some, lt1_eq, lt1_eq, ← hM2, d1, bnd_some, cw, bnd_some, d3]
    have ref : f_MM_tell Mm = if bI (wdB B 0 s e) = 0 then bnd (f_MM_fails (upM N2 0 9 (nI (if wdB B 0 s e = true then e else s))) 1 (nI (if wdB B 0 s e = true then e else s))) (fun M28 => f_MM_tell_J35 M28) else f_MM_tell_J35 (upM N2 0 9 (nI (if wdB B 0 s e = true then e else s))) := by
      unfold f_MM_tell
      rw [lt1_eq, lt1_eq, ← hN1, b1, bnd_some, mw, bnd2_some, upM_eq]
    rw [cls, ref]
    cases hw : wdB B 0 s e
    · rw [gF, gF, if_neg (by decide)]
      obtain ⟨M4, p1, p2, p3, p4⟩ := C_blame (p := s) (k := 1) d2 (by decide)
      obtain ⟨N4, u1, u2, u3, u4⟩ := M_fails (p := s) (k := 1) (hTN2.to r2) (by decide) (by decide)
      have p1 : f_Tape_blame M3 (nI s) 1 = some M4 := p1
      have u1 : f_MM_fails (upM N2 0 9 (nI s)) 1 (nI s) = some N4 := u1
      rw [p1, u1, bnd_some, bnd_some]
      exact ⟨blm 0 s 1, e, M4, N4, rfl, rfl, ⟨p2, blm_lt (by decide) (by omega) (by decide), s, u2, fun z => absurd z (blm_ne (by decide))⟩, p4, (FrR.up _ (Or.inl rfl)).tr ⟨u3, fun b _ z _ => u4 b z⟩⟩
    · rw [gT, gT, if_pos rfl]
      exact ⟨0, e, M3, upM N2 0 9 (nI e), rfl, rfl, ⟨d2, by decide, e, hTN2.to q2, fun _ => rfl⟩, fun _ _ => rfl, FrR.up _ (Or.inl rfl)⟩
  obtain ⟨w, i0, M4, N4, w1, w2, w3, w4, w5⟩ := word
  obtain ⟨v, x, w', i', M5, N5, n1, n2, n3, n4, n5, n6, n7, n8, n9⟩ := num_st ht hB (lo := 3) (hi := 8) (xl := 3) (xh := 8) w3 (by omega) (by omega) (fun _ => ⟨rfl, rfl⟩)
  obtain ⟨M6, hM6⟩ : ∃ M6, M6 = upM M5 8 0 (nI v) := ⟨_, rfl⟩
  obtain ⟨N6, hN6⟩ : ∃ N6, N6 = upM N5 2 0 x := ⟨_, rfl⟩
  have hS6 : SS tl B w' i' M6 N6 := by
    rw [hM6, hN6]
    exact (n5.cg (fun a ha => upM_row (by omega)) rfl rfl).up2 0 x
  have g5 : ∀ a, a ≠ 136 → M5 a = M1 a := fun a ha => by rw [n8 a ha, w4 a ha, d4 a ha, fr2 a ha]
  have fr6 : ∀ a, a ≠ 136 → a ≠ 8 → M6 a = M1 a := fun a h1 h2 => by rw [hM6, upM_row h2]; exact g5 a h1
  have m6 : ∀ b, b ≠ 0 → M6 8 b = M1 8 b := fun b hb => by rw [hM6, upM_ne (fun _ => hb), g5 8 (by decide)]
  have m60 : M6 8 0 = nI v := by rw [hM6, upM_eq]
  have ct6 : CT Mc M6 := fun a h1 h2 => (fr6 a h2 (by omega)).trans (a2 a (by omega) (by omega))
  have fh6 : FrH (fun _ => True) Mm N6 := by rw [hN6]; exact (frN2.tr ((w5.tr n9).H)).tr (FrH.up _ trivial)
  have hP6 : PC (setR R0 0 v) M6 8 := by
    refine R0_PC m60 ((m6 1 (by decide)).trans k1) ((m6 2 (by decide)).trans k2) ((m6 3 (by decide)).trans k3) ((m6 4 (by decide)).trans k4) ?_ ?_ ?_ ?_ ?_
    · rw [fr6 (8 + 1) (by decide) (by decide)]; exact s0
    · rw [fr6 (8 + 1) (by decide) (by decide)]; exact s1
    · rw [fr6 (8 + 1) (by decide) (by decide)]; exact s2
    · rw [fr6 (8 + 1) (by decide) (by decide)]; exact s3
    · rw [fr6 (8 + 1) (by decide) (by decide)]; exact s4
  have hV6 : PV (setR R0 0 v) := R0_PV (Or.inr ⟨n3, n4⟩)
  have v0 : setR R0 0 v 0 ≠ 0 := by rw [setR_eq]; omega
  have cls : f_Tape_read Mc = bnd (f_Tape_skipBlanks M6) (fun M12 => loop (fun t : Int32 × Mem => f_Tape_read_L59 t.1 t.2) (nI 0, M12)) := by
    rw [w1]
    unfold f_Tape_read_J39 f_Tape_read_J59 f_Tape_read_W59
    rw [show f_Tape_readNumber M4 3 8 = some (nI v, M5) from n1, bnd2_some, lt1_eq, ← hM6]
    congr 1
    funext M12
    rw [bnd_id]
    rfl
  have ref : f_MM_tell Mm = bnd (f_MM_tell_W48 N6) (fun e48 => f_MM_tell_J81 e48) := by
    rw [w2]
    unfold f_MM_tell_J35 f_MM_tell_J48
    rw [n2, bnd2_some, lt1_eq, ← hN6]
  rw [cls, ref]
  by_cases z : w' = 0
  · subst z
    obtain ⟨ex, -, -⟩ := n7 rfl
    have hRT : RT tl B (setR R0 0 v) i' M6 N6 := by
      refine ⟨hS6, hV6, v0, hP6, R0_PM (by rw [hN6, upM_eq, ex]) (fun j h1 h2 => ?_)⟩
      rw [hN6, upM_ne (by omega), (w5.tr n9).1 2 (by decide)]
      exact b3 j (by omega)
    obtain ⟨M', N', f1, f2, f3, f4, f5⟩ := parts_lp ht hB (tl - i' + 1) 0 i' (setR R0 0 v) M6 N6 (Nat.lt_succ_self _) hRT (Nat.zero_le _)
    exact ⟨M', N', f1, f2, ct6.tr f3, fh6.tr f4, f5⟩
  · have cf := hS6.cf z (TW.of hV6 hP6 v0)
    obtain ⟨M7, p1, p2, p3⟩ := cf.skip ht hB
    have hS6c := hS6
    obtain ⟨-, u2, u3, u4, -⟩ := hS6c
    obtain ⟨c1, c2'⟩ := W48_f u4 z u2
    refine ⟨M7, N6, by rw [p1, bnd_some]; exact L59_f p2 _, by rw [c1, bnd_some, c2'], ct6.tr p3, fh6, Or.inr ⟨w', p2, u3, u4⟩⟩
theorem a_tell {Mc Mm : Mem} (h : Rel Mc Mm) : Act (f_MC_tell Mc) (f_MM_tell Mm) := by
  obtain ⟨⟨R, hP0⟩, hH, hS, tl, B, htl, c2, m8, hT⟩ := h
  obtain ⟨M1, N1, a1, a2, a3, a4, a5⟩ := read_st (B := B) htl (fun j hj => (hT j hj).1) c2 (fun j hj => (hT j hj).2.1) m8 (fun j hj => (hT j hj).2.2)
  obtain ⟨M2, hM2⟩ : ∃ M2, M2 = upM M1 136 2 0 := ⟨_, rfl⟩
  obtain ⟨N2, hN2⟩ : ∃ N2, N2 = upM N1 0 8 0 := ⟨_, rfl⟩
  have fr : ∀ a, ¬ (8 ≤ a ∧ a < 16) → a ≠ 136 → M2 a = Mc a := fun a h1 h2 => by rw [hM2, upM_row h2]; exact a3 a h1 h2
  have frN : ∀ a, a ≠ 0 → a ≠ 2 → N2 a = Mm a := fun a h1 h2 => by rw [hN2, upM_row h1]; exact a4.1 a h1 h2
  have frN0 : ∀ b, b ≠ 8 → b ≠ 9 → b ≠ 10 → b ≠ 11 → N2 0 b = Mm 0 b := fun b h1 h2 h3 h4 => by rw [hN2, upM_ne (fun _ => h1)]; exact a4.2.1 b h2 h3 h4
  have hT0 : ∀ X Y : Mem, X 136 2 = 0 → Y 0 8 = 0 → RelT X Y := fun X Y h1 h2 => ⟨0, fun _ => 0, by decide, h1, h2, fun j hj => absurd hj (Nat.not_lt_zero j)⟩
  have hP0c := hP0
  obtain ⟨-, -, hMm, -, h28, -⟩ := hP0c
  have e28 : N2 0 28 = -1 := (frN0 28 (by decide) (by decide) (by decide) (by decide)).trans h28
  have cls : f_MC_tell Mc = if (M2 136 3) = 0 then bnd (f_Play_become 0 8 M2) (fun M5 => lt1 (upM M5 138 6 (0 : Int32)) (fun M6 => bnd (f_MC_replay M6) (fun M8 => some (M8 0 0, M8)))) else some ((-2 : Int32) - (M2 136 3), M2) := by
    unfold f_MC_tell
    rw [a1, bnd_some, lt1_eq, ← hM2]
  have ref : f_MM_tell Mm = if (bI (f_MM_isRight N2)) = 0 then some ((-2 : Int32) - (N2 0 10), N2) else bnd (f_MM_moves 2 302 1 302 N2 (0 : Int32) (0 : Int32)) (fun M3 => lt1 (upM M3 0 6 (0 : Int32)) (fun M4 => some (M4 1 0, M4))) := by
    rw [a2]
    unfold f_MM_tell_J105
    rw [lt1_eq, ← hN2]
  have m23 : M2 136 3 = M1 136 3 := by rw [hM2, upM_ne (by omega)]
  have n10 : N2 0 10 = N1 0 10 := by rw [hN2, upM_ne (by omega)]
  rw [cls, ref, m23]
  rcases a5 with ⟨S, i, hRT⟩ | ⟨w, cf, i, hTM⟩
  · obtain ⟨hSS, hV, hS0, hP, hM⟩ := hRT
    have hPM2 : PC S M2 8 := hP.cg (fun a k1 k2 => by rw [hM2, upM_row (by omega)])
    have hMN2 : PM S (N2 2) := by rw [hN2, upM_row (by decide)]; exact hM
    obtain ⟨M3, b1, b2, b3, b4⟩ := C_become (k := 0) (a := 8) hV hPM2 (Or.inl (by decide))
    obtain ⟨N3, d1, d2, d3, d4⟩ := M_moves (M := N2) (a0 := 2) (n0 := 302) (a2 := 1) (n2 := 302) (p := 0) (q := 0) (by decide) (by decide) (by decide) (by decide) (by decide)
    have d1 : f_MM_moves 2 302 1 302 N2 0 0 = some N3 := d1
    have hM3 : PM S (N3 1) := hMN2.cg hV (fun b hb => by
      have := d3 b hb
      rw [Nat.zero_add] at this
      exact this)
    have hHc := hH
    obtain ⟨pc, π, H, h1, h2, h3, h4, h5, h6⟩ := hHc
    have fM : ∀ a, ¬ (a < 16) → a ≠ 136 → a ≠ 138 → upM M3 138 6 0 a = Mc a := fun a k1 k2 k3 => by rw [upM_row k3, b2 a (by omega)]; exact fr a (by omega) k2
    have hH' : RelH (upM M3 138 6 0) (upM N3 0 6 0) := by
      refine ⟨0, π, H, by decide, upM_eq, upM_eq, fun i hi => ?_, h5, fun i hi => absurd hi (Nat.not_lt_zero i)⟩
      rw [fM 139 (by decide) (by decide) (by decide)]
      exact h4 i hi
    have hS' : RelS (upM M3 138 6 0) (upM N3 0 6 0) := hS.cg (fun a k1 k2 => fM a (by omega) (by omega) (by omega)) (by rw [upM_ne (by omega), b2 138 (by decide)]; rw [fr 138 (by decide) (by decide)]) (fM 140 (by decide) (by decide) (by decide)) (by rw [upM_row (by decide), d2 5 (by decide)]; exact frN 5 (by decide) (by decide)) (by rw [upM_row (by decide), d2 6 (by decide)]; exact frN 6 (by decide) (by decide))
    have hT' : RelT (upM M3 138 6 0) (upM N3 0 6 0) := hT0 _ _ (by rw [upM_row (by decide), b2 136 (by decide), hM2, upM_eq]) (by rw [upM_ne (by omega), d2 0 (by decide), hN2, upM_eq])
    obtain ⟨M4, e1, e2, e3⟩ := Rel.fin (Mc := upM M3 138 6 0) (Mm := upM N3 0 6 0) hV (b3.cg (fun a _ k2 => upM_row (by omega))) (by rw [upM_row (by decide)]; exact hM3) (by rw [upM_ne (by omega), d2 0 (by decide)]; exact e28) hH' hS' hT'
    refine ⟨nI (S 0), M4, upM N3 0 6 0, ?_, ?_, e2⟩
    · rw [if_pos (show M1 136 3 = 0 from hSS.1.2.1), b1, bnd_some, lt1_eq, e1, bnd_some, e3 0 (by decide), upM_row (by decide), b3.1]
    · have ir : f_MM_isRight N2 = true := (isR_iff (w := 0) (by rw [n10]; exact hSS.m.2.1) (by decide)).trans (decide_eq_true rfl)
      rw [ir, gT, d1, bnd_some, lt1_eq, upM_row (by decide), hM3.1 0 (by decide)]
  · have hw := cf.2.1
    have hw4 := cf.2.2.1
    obtain ⟨⟨j, hTC⟩, -⟩ := cf
    have ir : f_MM_isRight N2 = false := (isR_iff (w := w) (by rw [n10]; exact hTM.2.1) hw4).trans (decide_eq_false hw)
    have ew : N2 0 10 = nI w := by
      rw [n10, hTM.2.1]
      exact if_neg hw
    refine ⟨-2 - nI w, M2, N2, ?_, ?_, ⟨R, hP0.cg (fun a ha => fr a (by omega) (by omega)) (fun a k1 k2 => fr a (by omega) (by omega)) (by rw [frN 1 (by decide) (by decide)]; exact hMm) e28⟩, hH.cg (fun a k1 k2 => fr a (by omega) (by omega)) (by rw [fr 138 (by decide) (by decide)]) (fr 139 (by decide) (by decide)) (frN0 6 (by decide) (by decide) (by decide) (by decide)) (frN 4 (by decide) (by decide)), hS.cg (fun a k1 k2 => fr a (by omega) (by omega)) (by rw [fr 138 (by decide) (by decide)]) (fr 140 (by decide) (by decide)) (frN 5 (by decide) (by decide)) (frN 6 (by decide) (by decide)), hT0 _ _ (by rw [hM2, upM_eq]) (by rw [hN2, upM_eq])⟩
    · rw [hTC.2.1, if_neg (show ¬ nI w = (0 : Int32) from fun q => hw ((nI_eq (b := 0) (by omega) (by omega)).mp q))]
    · rw [ir, gF, ew]
