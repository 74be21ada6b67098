def FrH (P : Nat → Prop) (N N' : Mem) : Prop := (∀ a, a ≠ 0 → a ≠ 2 → N' a = N a) ∧ (∀ b, b ≠ 9 → b ≠ 10 → b ≠ 11 → N' 0 b = N 0 b) ∧ ∀ j, ¬ P j → N' 2 j = N 2 j
theorem FrH.rf {P : Nat → Prop} {N : Mem} : FrH P N N := ⟨fun _ _ _ => rfl, fun _ _ _ _ => rfl, fun _ _ => rfl⟩
theorem FrH.tr {P : Nat → Prop} {N N' N'' : Mem} (h : FrH P N N') (h' : FrH P N' N'') : FrH P N N'' := ⟨fun a h1 h2 => (h'.1 a h1 h2).trans (h.1 a h1 h2), fun b h1 h2 h3 => (h'.2.1 b h1 h2 h3).trans (h.2.1 b h1 h2 h3), fun j hj => (h'.2.2 j hj).trans (h.2.2 j hj)⟩
theorem FrR.H {P : Nat → Prop} {N N' : Mem} (h : FrR N N') : FrH P N N' := ⟨fun a h1 _ => h.1 a h1, h.2, fun j _ => by rw [h.1 2 (by decide)]⟩
theorem FrH.up {P : Nat → Prop} {N : Mem} {j : Nat} (x : Int32) (h : P j) : FrH P N (upM N 2 j x) := ⟨fun a _ h2 => upM_row h2, fun b _ _ _ => by rw [upM_row (by decide)], fun k hk => upM_ne (fun _ e => hk (by rw [e]; exact h))⟩
theorem FrH.mono {P P' : Nat → Prop} {N N' : Mem} (h : FrH P N N') (hp : ∀ j, P j → P' j) : FrH P' N N' := ⟨h.1, h.2.1, fun j hj => h.2.2 j (fun z => hj (hp j z))⟩
theorem FrH.fl {P : Nat → Prop} {N N' : Mem} (h1 : ∀ a, a ≠ 0 → N' a = N a) (h2 : ∀ b, b ≠ 10 → N' 0 b = N 0 b) : FrH P N N' := ⟨fun a h _ => h1 a h, fun b _ h _ => h2 b h, fun j _ => by rw [h1 2 (by decide)]⟩
theorem SS.up2 {tl : Nat} {B : Nat → Nat} {w i : Nat} {M N : Mem} (h : SS tl B w i M N) (j : Nat) (x : Int32) : SS tl B w i M (upM N 2 j x) := h.cg (fun _ _ => rfl) (upM_row (by decide)) (upM_row (by decide))
theorem party_st {tl : Nat} {B : Nat → Nat} (ht : tl ≤ 400) (hB : ∀ j, j < tl → B j < 256) {w i n : Nat} {M N : Mem} (h : SS tl B w i M N) (hn1 : 1 ≤ n) (hn : n ≤ 8) (hM : M 8 0 = nI n) (hN : w = 0 → N 2 0 = nI n) : ∃ v x w' i' M' N', f_Tape_readParty M = some (nI v, M') ∧ f_MM_party N = some (x, N') ∧ v < n ∧ SS tl B w' i' M' N' ∧ (w ≠ 0 → w' = w) ∧ (w' = 0 → x = nI v ∧ i < i' ∧ ∃ s, s ≤ 400 ∧ M' 136 5 = nI s ∧ N' 0 11 = nI s) ∧ (∀ a, a ≠ 136 → M' a = M a) ∧ FrR N N' := by
  obtain ⟨v, x, w', i', M', N', a1, a2, a3, a4, a5, a6, a7, a8, a9⟩ := num_st ht hB (lo := 0) (hi := n - 1) (xl := 0) (xh := N 2 0 - 1) h (by omega) (by omega) (fun z => ⟨rfl, by rw [hN z]; exact pk_sub (b := 1) hn1⟩)
  refine ⟨v, x, w', i', M', N', ?_, ?_, by omega, a5, a6, a7, a8, a9⟩
  · unfold f_Tape_readParty
    rw [hM, show nI n - 1 = nI (n - 1) from pk_sub (b := 1) hn1, show (0 : Int32) = nI 0 from rfl, a1, bnd2_some]
  · unfold f_MM_party
    rw [a2, bnd2_some]
theorem way_st {tl : Nat} {B : Nat → Nat} (ht : tl ≤ 400) (hB : ∀ j, j < tl → B j < 256) {w i n q : Nat} {M N : Mem} (h : SS tl B w i M N) (hn1 : 1 ≤ n) (hn : n ≤ 8) (hM : M 8 0 = nI n) (hN : w = 0 → N 2 0 = nI n) (hq : 10 ≤ q) (hq2 : q + 2 < 302) : ∃ r f t w' i' M' N', f_Tape_readRoute M = some (nI (64 * r + 8 * f + t), M') ∧ f_MM_readsWay N (nI q) = some N' ∧ 1 ≤ r ∧ r ≤ 8 ∧ f < n ∧ t < n ∧ SS tl B w' i' M' N' ∧ (w ≠ 0 → w' = w) ∧ (w' = 0 → f ≠ t ∧ N' 2 q = nI r ∧ N' 2 (q + 1) = nI f ∧ N' 2 (q + 2) = nI t ∧ i < i' ∧ ∃ s, s ≤ 400 ∧ M' 136 5 = nI s ∧ N' 0 11 = nI s) ∧ (∀ a, a ≠ 136 → M' a = M a) ∧ FrH (fun j => q ≤ j ∧ j < q + 3) N N' := by
  obtain ⟨r, xr, w1, i1, M1, N1, a1, a2, a3, a4, a5, a6, a7, a8, a9⟩ := num_st ht hB (lo := 1) (hi := 8) (xl := 1) (xh := 8) h (by omega) (by omega) (fun _ => ⟨rfl, rfl⟩)
  have s1 := a5.up2 q xr
  obtain ⟨f, xf, w2, i2, M2, N2, b1, b2, b3, b5, b6, b7, b8, b9⟩ := party_st ht hB s1 hn1 hn (by rw [a8 8 (by decide)]; exact hM) (fun z => by
    rw [upM_ne (by omega), a9.1 2 (by decide)]
    refine hN (Classical.byContradiction (fun y => ?_))
    exact y ((a6 y).symm.trans z))
  have s2 := b5.up2 (q + 1) xf
  obtain ⟨t, xt, w3, i3, M3, N3, c1, c2, c3, c5, c6, c7, c8, c9⟩ := party_st ht hB s2 hn1 hn (by rw [b8 8 (by decide), a8 8 (by decide)]; exact hM) (fun z => by
    rw [upM_ne (by omega), b9.1 2 (by decide), upM_ne (by omega), a9.1 2 (by decide)]
    refine hN (Classical.byContradiction (fun y => ?_))
    have e1 := a6 y
    have e2 := b6 (by rw [e1]; exact y)
    exact y (by rw [← e1, ← e2]; exact z))
  have s3 := c5.up2 (q + 2) xt
  have z21 : w2 = 0 → w1 = 0 := fun z => Classical.byContradiction (fun y => y ((b6 y).symm.trans z))
  have z32 : w3 = 0 → w2 = 0 := fun z => Classical.byContradiction (fun y => y ((c6 y).symm.trans z))
  have w3w : w ≠ 0 → w3 = w := fun y => by
    have e1 := a6 y
    have e2 := b6 (by rw [e1]; exact y)
    have e3 := c6 (by rw [e2, e1]; exact y)
    omega
  have hN1 : upM N3 2 (q + 2) xt 2 (q + 1) = xf := by rw [upM_ne (by omega), c9.1 2 (by decide), upM_eq]
  have hN2 : upM N3 2 (q + 2) xt 2 (q + 2) = xt := upM_eq
  have hN0 : upM N3 2 (q + 2) xt 2 q = xr := by rw [upM_ne (by omega), c9.1 2 (by decide), upM_ne (by omega), b9.1 2 (by decide), upM_eq]
  have frM : ∀ a, a ≠ 136 → M3 a = M a := fun a ha => by rw [c8 a ha, b8 a ha, a8 a ha]
  have frN : FrH (fun j => q ≤ j ∧ j < q + 3) N (upM N3 2 (q + 2) xt) := (((((a9.H (P := fun j => q ≤ j ∧ j < q + 3)).tr (FrH.up xr ⟨by omega, by omega⟩)).tr b9.H).tr (FrH.up xf ⟨by omega, by omega⟩)).tr c9.H).tr (FrH.up xt ⟨by omega, by omega⟩)
  have cls : f_Tape_readRoute M = if nI t = nI f then bnd (f_Tape_blame M3 (M3 136 5) 2) (fun M11 => some (nI (64 * r + 8 * f + t), M11)) else some (nI (64 * r + 8 * f + t), M3) := by
    unfold f_Tape_readRoute f_Tape_readRoute_J32
    rw [show (1 : Int32) = nI 1 from rfl, show (8 : Int32) = nI 8 from rfl, a1, bnd2_some, b1, bnd2_some, c1, bnd2_some, way_of]
  have ref : f_MM_readsWay N (nI q) = if bI (f_MM_isRight (upM N3 2 (q + 2) xt)) = 0 then some (upM N3 2 (q + 2) xt) else if xf = xt then bnd (f_MM_fails (upM N3 2 (q + 2) xt) 2 (upM N3 2 (q + 2) xt 0 11)) (fun M17 => some M17) else some (upM N3 2 (q + 2) xt) := by
    unfold f_MM_readsWay
    rw [a2, bnd2_some, gIn_nI (by omega) (by decide), nI_clamp (show q < 2 ^ 31 by omega), lt1_eq, b2, bnd2_some, show nI q + 1 = nI (q + 1) from nI_add q 1, gIn_nI (by omega) (by decide), nI_clamp (show q + 1 < 2 ^ 31 by omega), lt1_eq, c2, bnd2_some, show nI q + 2 = nI (q + 2) from nI_add q 2, gIn_nI (by omega) (by decide), nI_clamp (show q + 2 < 2 ^ 31 by omega), lt1_eq, hN1, hN2]
  rw [cls, ref]
  have s3c := s3
  obtain ⟨-, hw3, i0, m1, m2⟩ := s3c
  rw [isR_iff m1.2.1 hw3]
  by_cases z : w3 = 0
  · obtain ⟨e1, k1, s, hs, e2, e3⟩ := c7 z
    obtain ⟨e4, k2, -⟩ := b7 (z32 z)
    obtain ⟨e5, k3, -⟩ := a7 (z21 (z32 z))
    rw [decide_eq_true z, gT, e1, e4]
    have n11 : upM N3 2 (q + 2) (nI t) 0 11 = nI s := by rw [upM_row (by decide)]; exact e3
    by_cases eft : f = t
    · rw [if_pos (by rw [eft]), if_pos (by rw [eft]), e2, n11]
      rw [e1] at s3 frN
      obtain ⟨M4, N4, d1, d2, d3, d4, d5, d6, d7⟩ := blame_st (s := s) (k := 2) s3 hs (by decide) (by decide)
      have d1 : f_Tape_blame M3 (nI s) 2 = some M4 := d1
      have d2 : f_MM_fails (upM N3 2 (q + 2) (nI t)) 2 (nI s) = some N4 := d2
      rw [d1, d2, bnd_some, bnd_some]
      refine ⟨r, f, t, blm w3 s 2, i3, M4, N4, rfl, rfl, a3, a4, b3, c3, d3, fun y => ?_, fun y => absurd y (blm_ne (by decide)), fun a ha => (d5 a ha).trans (frM a ha), frN.tr (FrH.fl d6 d7)⟩
      exact absurd ((w3w y).symm.trans z) y
    · rw [if_neg (fun y => eft ((nI_eq (by omega) (by omega)).mp y).symm), if_neg (fun y => eft ((nI_eq (by omega) (by omega)).mp y))]
      rw [e1] at s3 frN hN1 hN2 hN0
      exact ⟨r, f, t, w3, i3, M3, _, rfl, rfl, a3, a4, b3, c3, s3, w3w, fun _ => ⟨eft, by rw [hN0, e5], by rw [hN1, e4], hN2, by omega, s, hs, e2, n11⟩, frM, frN⟩
  · rw [decide_eq_false z, gF]
    refine ⟨r, f, t, w3, i3, M3, _, ?_, rfl, a3, a4, b3, c3, s3, w3w, fun y => absurd y z, frM, frN⟩
    rw [blame_f c5.1 hw3 z, bnd_some]
    split <;> rfl
