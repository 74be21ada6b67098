theorem Chn_more {c : Int32} {k v : Nat} {mk : Nat → Nat} (h : Chn c k mk) (hv : v < 8) : ∃ k' mk', Chn (f_Chain_with c (nI v)) k' mk' := by
  by_cases w : k < 8
  · exact ⟨k + 1, fun j => if j < k then mk j else v, Chn_with h w hv (fun i hi => if_pos hi) (if_neg (Nat.lt_irrefl k))⟩
  · have e : k = 8 := Nat.le_antisymm h.le (Nat.le_of_not_lt w)
    subst e
    rw [Chn_full h]
    exact ⟨8, mk, h⟩
theorem J206_f {tl : Nat} {B : Nat → Nat} {i w : Nat} {N : Mem} (h : TM tl B i w N) (h0 : w ≠ 0) (hw : w < 4000) (x : Int32) : f_MM_readsLetter_J206 N x = some (.inl (0, N)) := by
  unfold f_MM_readsLetter_J206 f_MM_readsLetter_J224
  rw [isR_iff h.2.1 hw, decide_eq_false h0, gF]
theorem L104_0 (x : Int32) (N : Mem) : loop (fun t : Int32 × Mem => f_MM_readsLetter_L104 x t.1 t.2) ((0 : Int32), N) = some (upM N 2 7 (N 2 7 + 1)) := by
  refine loop_inr ?_
  show f_MM_readsLetter_L104 x 0 N = _
  unfold f_MM_readsLetter_L104
  rw [if_pos rfl, lt1_eq]
set_option maxHeartbeats 1000000 in
theorem marks_st {tl : Nat} {B : Nat → Nat} (ht : tl ≤ 400) (hB : ∀ j, j < tl → B j < 256) {n q : Nat} (hn1 : 1 ≤ n) (hn : n ≤ 8) (hq0 : 10 ≤ q) (hq : q + 13 ≤ 302) : ∀ d k i c M N mk, tl - i < d → SS tl B 0 i M N → k ≤ i → 1 ≤ k → Chn c k mk → (∀ j, j < k → mk j < n) → (∀ a b, a < b → b < k → mk a ≠ mk b) → M 8 0 = nI n → N 2 0 = nI n → N 2 (q + 4) = nI k → (∀ j, j < k → N 2 (q + 5 + j) = nI (mk j)) → ∃ w' i' c' M' g N1 N' k' mk', loop (fun t : Int32 × Int32 × Mem => f_Tape_readLetter_L51 t.1 t.2.1 t.2.2) (c, nI (k - 1), M) = some (c', M') ∧ f_MM_readsLetter_J206 N (nI q) = some (.inl (g, N1)) ∧ loop (fun t : Int32 × Mem => f_MM_readsLetter_L104 (nI q) t.1 t.2) (g, N1) = some N' ∧ SS tl B w' i' M' N' ∧ (∀ a, a ≠ 136 → M' a = M a) ∧ FrH (fun j => j = 7 ∨ (q + 4 ≤ j ∧ j < q + 13)) N N' ∧ Chn c' k' mk' ∧ (w' = 0 → i ≤ i' ∧ 1 ≤ k' ∧ (∀ j, j < k' → mk' j < n) ∧ (∀ a b, a < b → b < k' → mk' a ≠ mk' b) ∧ N' 2 (q + 4) = nI k' ∧ (∀ j, j < k' → N' 2 (q + 5 + j) = nI (mk' j)) ∧ N' 2 7 = N 2 7 + 1) := by
  intro d
  induction d with
  | zero => intro k i c M N mk h; omega
  | succ d ih =>
    intro k i c M N mk hd hS hki hk1 hc hm1 hm2 hM8 hN2 hN4 hN5
    have hk8 := hc.le
    have hi := hS.1.2.2.2.1
    have hTM := hS.m
    have hTC := hS.1
    obtain ⟨r1, r2, r3, r4, -⟩ := nS_sp (B := B) hi
    have hw0 : M 136 3 = 0 := hTC.2.1
    have cH := C_hasNumber ht hB hTC
    have mH : f_MM_isDigit N = some (hdB tl B (nS tl B i), upM N 0 9 (nI (nS tl B i))) := M_isDigit ht hB hTM
    have hS4 : SS tl B 0 (nS tl B i) (upM M 136 4 (nI (nS tl B i))) (upM N 0 9 (nI (nS tl B i))) := ⟨hTC.to (by omega), by decide, _, hTM.to (by omega), fun _ => rfl⟩
    have fr4 : ∀ a, a ≠ 136 → upM M 136 4 (nI (nS tl B i)) a = M a := fun a ha => upM_row ha
    have frN4 : FrR N (upM N 0 9 (nI (nS tl B i))) := FrR.up _ (Or.inl rfl)
    have cL : f_Tape_readLetter_L51 c (nI (k - 1)) M = bnd2 (some (hdB tl B (nS tl B i), upM M 136 4 (nI (nS tl B i)))) (fun y5 M4 => if (bI y5) = 0 then some (.inr (c, M4)) else bnd2 (f_Tape_readParty M4) (fun y8 M7 => bnd (f_Chain_bears c y8) (fun y10 => if (bI y10) = 0 then some (.inl (f_Chain_with c y8, nI k, M7)) else bnd (f_Tape_blame M7 (M7 136 5) (2 : Int32)) (fun M12 => some (.inl (f_Chain_with c y8, nI k, M12)))))) := by
      unfold f_Tape_readLetter_L51 f_Tape_readLetter_J97
      rw [j400, if_neg (nI_ge (by omega) (by decide)), if_pos hw0, cH, ← nI_succ, show k - 1 + 1 = k by omega]
    have mJ : f_MM_readsLetter_J206 N (nI q) = bnd2 (some (hdB tl B (nS tl B i), upM N 0 9 (nI (nS tl B i)))) (fun y3 M2 => if (bI y3) = 0 then some (.inl ((0 : Int32), M2)) else some (.inl ((1 : Int32), M2))) := by
      unfold f_MM_readsLetter_J206 f_MM_readsLetter_J224
      rw [isR_iff hTM.2.1 (by decide), decide_eq_true rfl, gT, mH]
    rw [bnd2_some] at cL mJ
    cases hd2 : hdB tl B (nS tl B i)
    · rw [hd2, gF] at cL mJ
      refine ⟨0, nS tl B i, c, upM M 136 4 (nI (nS tl B i)), 0, _, _, k, mk, loop_inr cL, mJ, L104_0 _ _, hS4.up2 7 _, fr4, frN4.H.tr (FrH.up _ (Or.inl rfl)), hc, fun _ => ⟨r1, hk1, hm1, hm2, ?_, fun j hj => ?_, ?_⟩⟩
      · rw [upM_ne (by omega), frN4.1 2 (by decide)]; exact hN4
      · rw [upM_ne (by omega), frN4.1 2 (by decide)]; exact hN5 j hj
      · rw [upM_eq, frN4.1 2 (by decide)]
    · rw [hd2, gT] at cL mJ
      have hsl : nS tl B i < tl := by
        unfold hdB at hd2
        simp only [Bool.and_eq_true, decide_eq_true_eq] at hd2
        exact hd2.1
      obtain ⟨v, x, w1, i1, M7, N14, a1, a2, a3, a5, a6, a7, a8, a9⟩ := party_st ht hB hS4 hn1 hn (by rw [fr4 8 (by decide)]; exact hM8) (fun _ => by rw [frN4.1 2 (by decide)]; exact hN2)
      rw [a1, bnd2_some, Chn_bears hc (show v < 32 by omega), bnd_some] at cL
      have frN14 : FrR N N14 := frN4.tr a9
      have frM7 : ∀ a, a ≠ 136 → M7 a = M a := fun a ha => (a8 a ha).trans (fr4 a ha)
      have n14_4 : N14 2 (q + 4) = nI k := by rw [frN14.1 2 (by decide)]; exact hN4
      have mL : f_MM_readsLetter_L104 (nI q) 1 (upM N 0 9 (nI (nS tl B i))) = bnd (f_MM_readsLetter_W117 (nI q) x (0, N14)) (fun e117 => f_MM_readsLetter_J168 e117 (nI q) x) := by
        unfold f_MM_readsLetter_L104 f_MM_readsLetter_J117
        rw [if_neg (show ¬ (1 : Int32) = 0 by decide), a2, bnd2_some]
      obtain ⟨k', mk', hc'⟩ := Chn_more hc (show v < 8 by omega)
      -- a fault: both leave
      have leave : ∀ w2 Mx Nx, w2 ≠ 0 → SS tl B w2 i1 Mx Nx → (∀ a, a ≠ 136 → Mx a = M a) → FrR N Nx → f_Tape_readLetter_L51 c (nI (k - 1)) M = some (.inl (f_Chain_with c (nI v), nI k, Mx)) → f_MM_readsLetter_L104 (nI q) 1 (upM N 0 9 (nI (nS tl B i))) = f_MM_readsLetter_J168 Nx (nI q) x → ∃ w' i' c' M' g N1 N' k' mk', loop (fun t : Int32 × Int32 × Mem => f_Tape_readLetter_L51 t.1 t.2.1 t.2.2) (c, nI (k - 1), M) = some (c', M') ∧ f_MM_readsLetter_J206 N (nI q) = some (.inl (g, N1)) ∧ loop (fun t : Int32 × Mem => f_MM_readsLetter_L104 (nI q) t.1 t.2) (g, N1) = some N' ∧ SS tl B w' i' M' N' ∧ (∀ a, a ≠ 136 → M' a = M a) ∧ FrH (fun j => j = 7 ∨ (q + 4 ≤ j ∧ j < q + 13)) N N' ∧ Chn c' k' mk' ∧ (w' = 0 → i ≤ i' ∧ 1 ≤ k' ∧ (∀ j, j < k' → mk' j < n) ∧ (∀ a b, a < b → b < k' → mk' a ≠ mk' b) ∧ N' 2 (q + 4) = nI k' ∧ (∀ j, j < k' → N' 2 (q + 5 + j) = nI (mk' j)) ∧ N' 2 7 = N 2 7 + 1) := by
        intro w2 Mx Nx hw2 hSx hMx hNx hcl hml
        have hSxc := hSx
        obtain ⟨s1, s2, s3, s4, -⟩ := hSxc
        refine ⟨w2, i1, f_Chain_with c (nI v), Mx, 1, upM N 0 9 (nI (nS tl B i)), upM Nx 2 7 (Nx 2 7 + 1), k', mk', ?_, mJ, ?_, hSx.up2 7 _, hMx, hNx.H.tr (FrH.up _ (Or.inl rfl)), hc', fun z => absurd z hw2⟩
        · rw [loop_inl (t := (f_Chain_with c (nI v), nI k, Mx)) hcl]
          refine loop_inr ?_
          show f_Tape_readLetter_L51 (f_Chain_with c (nI v)) (nI k) Mx = _
          unfold f_Tape_readLetter_L51
          rw [j400, if_neg (nI_ge (by omega) (by decide)), if_neg (show ¬ Mx 136 3 = 0 by rw [s1.2.1]; exact fun y => hw2 ((nI_eq (b := 0) (by omega) (by omega)).mp y))]
        · have hml : f_MM_readsLetter_L104 (nI q) 1 (upM N 0 9 (nI (nS tl B i))) = some (.inl (0, Nx)) := by
            rw [hml]
            unfold f_MM_readsLetter_J168
            rw [isR_iff s4.2.1 s2, decide_eq_false hw2, gF, J206_f s4 hw2 s2]
          rw [loop_inl (t := (0, Nx)) hml]
          exact L104_0 _ _
      by_cases w10 : w1 = 0
      · subst w10
        obtain ⟨e1, e2, s, hs, e3, e4⟩ := a7 rfl
        have hdd : tl - i1 < d := by clear a5 a7 leave; omega
        have hkk : k + 1 ≤ i1 := by clear a5 a7 leave; omega
        have hii : i ≤ i1 := by clear a5 a7 leave; omega
        rw [e1] at mL leave
        obtain ⟨M12, N15, d1, d2, d3, d4, d5, d6, d7⟩ := blame_st (s := s) (k := 2) a5 hs (by decide) (by decide)
        have d1 : f_Tape_blame M7 (nI s) 2 = some M12 := d1
        have d2 : f_MM_fails N14 2 (nI s) = some N15 := d2
        have d3c := d3
        obtain ⟨-, u2, u3, u4, -⟩ := d3c
        have dup := M_dup (v := v) (mk := mk) a5.m hq hk8 (by omega) n14_4 (fun j hj => ⟨by have := hm1 j hj; omega, by rw [frN14.1 2 (by decide)]; exact hN5 j hj⟩) e4 d2 ⟨_, u3, blm_ne (by decide), u2, u4⟩ d6
        rw [e3, d1, bnd_some] at cL
        rw [dup, bnd_some] at mL
        cases hb : anyB (fun j => decide (mk j = v)) k
        · rw [hb, gF] at cL
          rw [hb, if_neg (by decide)] at mL
          have hnew : ∀ j, j < k + 1 → (fun j => if j < k then mk j else v) j < n := fun j hj => by
            show (if j < k then mk j else v) < n
            by_cases z : j < k
            · rw [if_pos z]; exact hm1 j z
            · rw [if_neg z]; exact a3
          have hdist : ∀ a b, a < b → b < k + 1 → (fun j => if j < k then mk j else v) a ≠ (fun j => if j < k then mk j else v) b := fun a b hab hb' => by
            show (if a < k then mk a else v) ≠ (if b < k then mk b else v)
            rw [if_pos (show a < k by omega)]
            by_cases z : b < k
            · rw [if_pos z]; exact hm2 a b hab z
            · rw [if_neg z]
              exact of_decide_eq_false (anyB_f.mp hb a (by omega))
          have hkn : k + 1 ≤ n := fb_holes n (k + 1) (fun j => if j < k then mk j else v) hnew hdist
          have hcn : Chn (f_Chain_with c (nI v)) (k + 1) (fun j => if j < k then mk j else v) := Chn_with hc (by omega) (by omega) (fun j hj => if_pos hj) (if_neg (Nat.lt_irrefl k))
          obtain ⟨X, hX⟩ : ∃ X, X = upM (upM N14 2 (q + 5 + k) (nI v)) 2 (q + 4) (nI (k + 1)) := ⟨_, rfl⟩
          have mL : f_MM_readsLetter_L104 (nI q) 1 (upM N 0 9 (nI (nS tl B i))) = f_MM_readsLetter_J206 X (nI q) := by
            rw [mL]
            unfold f_MM_readsLetter_J168
            rw [isR_iff a5.m.2.1 (by decide), decide_eq_true rfl, gT, j4, nI_add, gIn_nI (by omega) (by decide), nI_clamp (show q + 4 < 2 ^ 31 by omega), n14_4, j5, nI_add, nI_add, gIn_nI (by omega) (by decide), nI_clamp (show q + 5 + k < 2 ^ 31 by omega), lt1_eq, lt1_eq, upM_ne (by omega), n14_4, ← nI_succ, hX]
          have hSX : SS tl B 0 i1 M7 X := by rw [hX]; exact (a5.up2 _ _).up2 _ _
          have frX : FrH (fun j => j = 7 ∨ (q + 4 ≤ j ∧ j < q + 13)) N X := by
            rw [hX]
            exact (frN14.H.tr (FrH.up _ (Or.inr ⟨by omega, by omega⟩))).tr (FrH.up _ (Or.inr ⟨by omega, by omega⟩))
          obtain ⟨w', i', c', M', g, N1, N', k2, mk2, f1, f2, f3, f4, f5, f6, f7, f8⟩ := ih (k + 1) i1 (f_Chain_with c (nI v)) M7 X (fun j => if j < k then mk j else v) hdd hSX hkk (Nat.succ_le_succ (Nat.zero_le _)) hcn hnew hdist (by rw [frM7 8 (by decide)]; exact hM8) (by rw [frX.2.2 0 (by omega)]; exact hN2) (by rw [hX, upM_eq]) (fun j hj => by
            show X 2 (q + 5 + j) = nI (if j < k then mk j else v)
            rw [hX, upM_ne (by omega)]
            by_cases z : j < k
            · rw [if_pos z, upM_ne (by omega), frN14.1 2 (by decide)]; exact hN5 j z
            · rw [if_neg z, show j = k by omega, upM_eq])
          refine ⟨w', i', c', M', 1, upM N 0 9 (nI (nS tl B i)), N', k2, mk2, ?_, mJ, ?_, f4, fun a ha => (f5 a ha).trans (frM7 a ha), frX.tr f6, f7, fun z => ?_⟩
          · rw [loop_inl (t := (f_Chain_with c (nI v), nI k, M7)) cL]
            exact f1
          · rw [f2] at mL
            rw [loop_inl (t := (g, N1)) mL]
            exact f3
          · obtain ⟨z1, z2, z3, z4, z5, z6, z7⟩ := f8 z
            refine ⟨Nat.le_trans hii z1, z2, z3, z4, z5, z6, ?_⟩
            rw [z7, hX, upM_ne (by omega), upM_ne (by omega), frN14.1 2 (by decide)]
        · rw [hb, gT] at cL
          rw [hb, if_pos rfl] at mL
          exact leave _ M12 N15 (blm_ne (by decide)) d3 (fun a ha => (d5 a ha).trans (frM7 a ha)) (frN14.tr ⟨d6, fun b _ y _ => d7 b y⟩) cL mL
      · have a5c := a5
        obtain ⟨s1, s2, s3, s4, -⟩ := a5c
        rw [blame_f s1 s2 w10, bnd_some] at cL
        have w117 : f_MM_readsLetter_W117 (nI q) x (0, N14) = some N14 := by
          unfold f_MM_readsLetter_W117
          refine loop_inr ?_
          show f_MM_readsLetter_L117 (nI q) x 0 N14 = _
          unfold f_MM_readsLetter_L117
          rw [j4, nI_add, gIn_nI (by omega) (by decide), nI_clamp (show q + 4 < 2 ^ 31 by omega), n14_4, if_neg (show ¬ nI k ≤ (0 : Int32) from nI_ge (a := 0) (by omega) (by omega)), isR_iff s4.2.1 s2, decide_eq_false w10, gF]
        rw [w117, bnd_some] at mL
        refine leave w1 M7 N14 w10 a5 frM7 frN14 ?_ mL
        rw [cL]
        split <;> rfl
