/-! a run looks at a play's first seven places only (letters and delays are given apart) -/
theorem lie_cg {R R' : Nat → Nat} (h : ∀ i, i < 7 → R' i = R i) : lie R' = lie R := by
  funext p
  unfold lie
  rw [h 6 (by decide)]
theorem cmN_cg {R R' : Nat → Nat} (h : ∀ i, i < 7 → R' i = R i) : cmN R' = cmN R := by
  funext dl r f t
  unfold cmN
  rw [h 3 (by decide)]
theorem sSend_cg {R R' : Nat → Nat} (h : ∀ i, i < 7 → R' i = R i) : sSend R' = sSend R := by
  funext dl rc Q a b
  unfold sSend
  rw [lie_cg h, cmN_cg h]
theorem sAll_cg {R R' : Nat → Nat} (h : ∀ i, i < 7 → R' i = R i) : sAll R' = sAll R := by
  funext dl r f v m mk n Q
  unfold sAll
  rw [sSend_cg h]
theorem rlN_cg {R R' : Nat → Nat} (h : ∀ i, i < 7 → R' i = R i) : rlN R' = rlN R := by
  funext Q p v
  unfold rlN
  rw [h 5 (by decide)]
theorem sRel_cg {R R' : Nat → Nat} (h : ∀ i, i < 7 → R' i = R i) : sRel R' = sRel R := by
  funext dl r p v Q
  unfold sRel
  rw [rlN_cg h, sAll_cg h, h 0 (by decide)]
theorem sHon_cg {R R' : Nat → Nat} (h : ∀ i, i < 7 → R' i = R i) : sHon R' = sHon R := by
  funext dl r p Q
  unfold sHon
  rw [lie_cg h, sAll_cg h, sRel_cg h, h 0 (by decide), h 1 (by decide), h 2 (by decide)]
theorem sPlan_cg {R R' : Nat → Nat} (h : ∀ i, i < 7 → R' i = R i) : sPlan R' = sPlan R := by
  funext dl r l pl al Q
  unfold sPlan
  rw [lie_cg h, sSend_cg h]
theorem sRd_cg {R R' : Nat → Nat} (h : ∀ i, i < 7 → R' i = R i) : sRd R' = sRd R := by
  funext r k Q
  unfold sRd
  rw [lie_cg h, h 1 (by decide)]
theorem sRnd_cg {R R' : Nat → Nat} (h : ∀ i, i < 7 → R' i = R i) : sRnd R' = sRnd R := by
  funext dl np PL al r Q
  unfold sRnd sRds sPlans sHons
  rw [sRd_cg h, sPlan_cg h, sHon_cg h, h 0 (by decide)]
theorem sQ0_cg {R R' : Nat → Nat} (h : ∀ i, i < 7 → R' i = R i) : sQ0 R' = sQ0 R := by
  funext a b
  unfold sQ0
  rw [lie_cg h, h 0 (by decide), h 1 (by decide), h 2 (by decide)]
theorem sRun_cg {R R' : Nat → Nat} (h : ∀ i, i < 7 → R' i = R i) : sRun R' = sRun R := by
  funext dl np PL al n
  unfold sRun
  rw [sRnd_cg h, sQ0_cg h]
theorem dcN_cg {R R' : Nat → Nat} (h : ∀ i, i < 7 → R' i = R i) : dcN R' = dcN R := by
  funext Q p
  unfold dcN
  rw [h 4 (by decide)]
