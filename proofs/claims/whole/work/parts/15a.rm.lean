/-! one letter, omit or late taken out of a play -/
def sk (k l : Nat) : Nat := if l < k then l else l + 1
theorem sk_lt {k l n : Nat} (h : l < n - 1) : sk k l < n := by
  unfold sk
  split <;> omega
theorem sk_mono {k i j : Nat} (h : i < j) : sk k i < sk k j := by
  unfold sk
  split <;> split <;> omega
def rmR (R : Nat → Nat) (ci pl wd k : Nat) : Nat → Nat := fun j => if j = ci then R ci - 1 else if pl + wd * k ≤ j ∧ j < pl + wd * (R ci - 1) then R (j + wd) else R j
theorem rmR_c (R : Nat → Nat) (ci pl wd k : Nat) : rmR R ci pl wd k ci = R ci - 1 := if_pos rfl
theorem rmR_out {R : Nat → Nat} {ci pl wd k j : Nat} (h : j ≠ ci) (h2 : j < pl + wd * k ∨ pl + wd * (R ci - 1) ≤ j) : rmR R ci pl wd k j = R j := by
  unfold rmR
  rw [if_neg h, if_neg (by omega)]
theorem rm7 {R : Nat → Nat} {k l i : Nat} (hl : l < R 7 - 1) (hi : i < 13) : rmR R 7 10 13 k (10 + 13 * l + i) = R (10 + 13 * sk k l + i) := by
  unfold rmR sk
  rw [if_neg (by omega)]
  by_cases w : l < k
  · rw [if_pos w, if_neg (by omega)]
  · rw [if_neg w, if_pos ⟨by omega, by omega⟩]
    congr 1
    omega
theorem rm8 {R : Nat → Nat} {k l i : Nat} (hl : l < R 8 - 1) (hi : i < 3) : rmR R 8 218 3 k (218 + 3 * l + i) = R (218 + 3 * sk k l + i) := by
  unfold rmR sk
  rw [if_neg (by omega)]
  by_cases w : l < k
  · rw [if_pos w, if_neg (by omega)]
  · rw [if_neg w, if_pos ⟨by omega, by omega⟩]
    congr 1
    omega
theorem rm9 {R : Nat → Nat} {k l i : Nat} (hl : l < R 9 - 1) (hi : i < 4) : rmR R 9 254 4 k (254 + 4 * l + i) = R (254 + 4 * sk k l + i) := by
  unfold rmR sk
  rw [if_neg (by omega)]
  by_cases w : l < k
  · rw [if_pos w, if_neg (by omega)]
  · rw [if_neg w, if_pos ⟨by omega, by omega⟩]
    congr 1
    omega
theorem wayOK.mv {R R' : Nat → Nat} {q q' : Nat} (h : wayOK R q) (e0 : R' 0 = R 0) (e : ∀ j, j < 3 → R' (q' + j) = R (q + j)) : wayOK R' q' := by
  have a0 : R' q' = R q := e 0 (by decide)
  unfold wayOK at h ⊢
  rw [e0, a0, e 1 (by decide), e 2 (by decide)]
  exact h
theorem planOK.mv {R R' : Nat → Nat} {q q' : Nat} (h : planOK R q) (e0 : R' 0 = R 0) (e : ∀ j, j < 13 → R' (q' + j) = R (q + j)) : planOK R' q' := by
  obtain ⟨h1, h2, h3, h4, h5, h6⟩ := h
  refine ⟨h1.mv e0 (fun j hj => e j (by omega)), ?_, ?_, ?_, fun i hi => ?_, fun i j hij hj => ?_⟩
  · rw [e 3 (by decide)]; exact h2
  · rw [e 4 (by decide)]; exact h3
  · rw [e 4 (by decide)]; exact h4
  · rw [e 4 (by decide)] at hi
    have := e (5 + i) (by omega)
    rw [← Nat.add_assoc, ← Nat.add_assoc] at this
    rw [this, e0]
    exact h5 i hi
  · rw [e 4 (by decide)] at hj
    have a := e (5 + i) (by omega)
    have b := e (5 + j) (by omega)
    rw [← Nat.add_assoc, ← Nat.add_assoc] at a b
    rw [a, b]
    exact h6 i j hij hj
theorem way_mv {R R' : Nat → Nat} {q q' : Nat} (e : ∀ j, j < 3 → R' (q' + j) = R (q + j)) : way R' q' = way R q := by
  have a0 : R' q' = R q := e 0 (by decide)
  unfold way
  rw [a0, e 1 (by decide), e 2 (by decide)]
/-- the kinds: where their number stands, where they begin, how wide they are -/
def kdOK (R : Nat → Nat) (ci pl wd : Nat) : Prop := (ci = 7 ∧ pl = 10 ∧ wd = 13) ∨ (ci = 8 ∧ pl = 218 ∧ wd = 3) ∨ (ci = 9 ∧ pl = 254 ∧ wd = 4)
theorem rmR_PV {R : Nat → Nat} (hV : PV R) {ci pl wd k : Nat} (hkd : kdOK R ci pl wd) (hk : k < R ci) : PV (rmR R ci pl wd k) := by
  obtain ⟨v0, v2, v3, v3', v4, v5, v5', v6, v7, v8, v9, va, vb, vc, vd, ve⟩ := hV
  rcases hkd with ⟨rfl, rfl, rfl⟩ | ⟨rfl, rfl, rfl⟩ | ⟨rfl, rfl, rfl⟩
  · have lo : ∀ j, j ≠ 7 → (j < 10 ∨ 218 ≤ j) → rmR R 7 10 13 k j = R j := fun j h h2 => rmR_out h (by omega)
    have e0 : rmR R 7 10 13 k 0 = R 0 := lo 0 (by decide) (by decide)
    refine ⟨?_, ?_, ?_, ?_, ?_, ?_, ?_, ?_, ?_, ?_, ?_, fun l hl => ?_, fun l hl => ?_, fun l hl => ?_, fun i j hij hj => ?_, fun i j hij hj => ?_⟩
    · rw [e0, lo 1 (by decide) (by decide)]; exact v0
    · rw [lo 2 (by decide) (by decide)]; exact v2
    · rw [lo 3 (by decide) (by decide)]; exact v3
    · rw [lo 3 (by decide) (by decide)]; exact v3'
    · rw [lo 4 (by decide) (by decide)]; exact v4
    · rw [lo 5 (by decide) (by decide)]; exact v5
    · rw [lo 5 (by decide) (by decide)]; exact v5'
    · rw [lo 6 (by decide) (by decide), e0]; exact v6
    · rw [rmR_c]; omega
    · rw [lo 8 (by decide) (by decide)]; exact v8
    · rw [lo 9 (by decide) (by decide)]; exact v9
    · rw [rmR_c] at hl
      exact (va _ (sk_lt hl)).mv e0 (fun j hj => rm7 hl hj)
    · rw [lo 8 (by decide) (by decide)] at hl
      exact (vb l hl).cg e0 (fun j _ => lo _ (by omega) (by omega))
    · rw [lo 9 (by decide) (by decide)] at hl
      obtain ⟨a, b, c⟩ := vc l hl
      rw [lo (254 + 4 * l + 3) (by omega) (by omega)]
      exact ⟨a.cg e0 (fun j _ => lo _ (by omega) (by omega)), b, c⟩
    · rw [lo 8 (by decide) (by decide)] at hj
      rw [way_cg (R' := rmR R 7 10 13 k) (R := R) (q := 218 + 3 * i) (fun m _ => lo _ (by omega) (by omega)), way_cg (R' := rmR R 7 10 13 k) (R := R) (q := 218 + 3 * j) (fun m _ => lo _ (by omega) (by omega))]
      exact vd i j hij hj
    · rw [lo 9 (by decide) (by decide)] at hj
      rw [way_cg (R' := rmR R 7 10 13 k) (R := R) (q := 254 + 4 * i) (fun m _ => lo _ (by omega) (by omega)), way_cg (R' := rmR R 7 10 13 k) (R := R) (q := 254 + 4 * j) (fun m _ => lo _ (by omega) (by omega))]
      exact ve i j hij hj
  · have lo : ∀ j, j ≠ 8 → (j < 218 ∨ 254 ≤ j) → rmR R 8 218 3 k j = R j := fun j h h2 => rmR_out h (by omega)
    have e0 : rmR R 8 218 3 k 0 = R 0 := lo 0 (by decide) (by decide)
    refine ⟨?_, ?_, ?_, ?_, ?_, ?_, ?_, ?_, ?_, ?_, ?_, fun l hl => ?_, fun l hl => ?_, fun l hl => ?_, fun i j hij hj => ?_, fun i j hij hj => ?_⟩
    · rw [e0, lo 1 (by decide) (by decide)]; exact v0
    · rw [lo 2 (by decide) (by decide)]; exact v2
    · rw [lo 3 (by decide) (by decide)]; exact v3
    · rw [lo 3 (by decide) (by decide)]; exact v3'
    · rw [lo 4 (by decide) (by decide)]; exact v4
    · rw [lo 5 (by decide) (by decide)]; exact v5
    · rw [lo 5 (by decide) (by decide)]; exact v5'
    · rw [lo 6 (by decide) (by decide), e0]; exact v6
    · rw [lo 7 (by decide) (by decide)]; exact v7
    · rw [rmR_c]; omega
    · rw [lo 9 (by decide) (by decide)]; exact v9
    · rw [lo 7 (by decide) (by decide)] at hl
      exact (va l hl).cg e0 (fun j _ => lo _ (by omega) (by omega))
    · rw [rmR_c] at hl
      exact (vb _ (sk_lt hl)).mv e0 (fun j hj => rm8 hl hj)
    · rw [lo 9 (by decide) (by decide)] at hl
      obtain ⟨a, b, c⟩ := vc l hl
      rw [lo (254 + 4 * l + 3) (by omega) (by omega)]
      exact ⟨a.cg e0 (fun j _ => lo _ (by omega) (by omega)), b, c⟩
    · rw [rmR_c] at hj
      rw [way_mv (R' := rmR R 8 218 3 k) (R := R) (q := 218 + 3 * sk k i) (q' := 218 + 3 * i) (fun m hm => rm8 (by omega) hm), way_mv (R' := rmR R 8 218 3 k) (R := R) (q := 218 + 3 * sk k j) (q' := 218 + 3 * j) (fun m hm => rm8 hj hm)]
      exact vd _ _ (sk_mono hij) (sk_lt hj)
    · rw [lo 9 (by decide) (by decide)] at hj
      rw [way_cg (R' := rmR R 8 218 3 k) (R := R) (q := 254 + 4 * i) (fun m _ => lo _ (by omega) (by omega)), way_cg (R' := rmR R 8 218 3 k) (R := R) (q := 254 + 4 * j) (fun m _ => lo _ (by omega) (by omega))]
      exact ve i j hij hj
  · have lo : ∀ j, j ≠ 9 → j < 254 → rmR R 9 254 4 k j = R j := fun j h h2 => rmR_out h (by omega)
    have e0 : rmR R 9 254 4 k 0 = R 0 := lo 0 (by decide) (by decide)
    refine ⟨?_, ?_, ?_, ?_, ?_, ?_, ?_, ?_, ?_, ?_, ?_, fun l hl => ?_, fun l hl => ?_, fun l hl => ?_, fun i j hij hj => ?_, fun i j hij hj => ?_⟩
    · rw [e0, lo 1 (by decide) (by decide)]; exact v0
    · rw [lo 2 (by decide) (by decide)]; exact v2
    · rw [lo 3 (by decide) (by decide)]; exact v3
    · rw [lo 3 (by decide) (by decide)]; exact v3'
    · rw [lo 4 (by decide) (by decide)]; exact v4
    · rw [lo 5 (by decide) (by decide)]; exact v5
    · rw [lo 5 (by decide) (by decide)]; exact v5'
    · rw [lo 6 (by decide) (by decide), e0]; exact v6
    · rw [lo 7 (by decide) (by decide)]; exact v7
    · rw [lo 8 (by decide) (by decide)]; exact v8
    · rw [rmR_c]; omega
    · rw [lo 7 (by decide) (by decide)] at hl
      exact (va l hl).cg e0 (fun j _ => lo _ (by omega) (by omega))
    · rw [lo 8 (by decide) (by decide)] at hl
      exact (vb l hl).cg e0 (fun j _ => lo _ (by omega) (by omega))
    · rw [rmR_c] at hl
      obtain ⟨a, b, c⟩ := vc _ (sk_lt (k := k) hl)
      rw [rm9 hl (by decide)]
      exact ⟨a.mv e0 (fun j hj => rm9 hl (by omega)), b, c⟩
    · rw [lo 8 (by decide) (by decide)] at hj
      rw [way_cg (R' := rmR R 9 254 4 k) (R := R) (q := 218 + 3 * i) (fun m _ => lo _ (by omega) (by omega)), way_cg (R' := rmR R 9 254 4 k) (R := R) (q := 218 + 3 * j) (fun m _ => lo _ (by omega) (by omega))]
      exact vd i j hij hj
    · rw [rmR_c] at hj
      rw [way_mv (R' := rmR R 9 254 4 k) (R := R) (q := 254 + 4 * sk k i) (q' := 254 + 4 * i) (fun m hm => rm9 (by omega) (by omega)), way_mv (R' := rmR R 9 254 4 k) (R := R) (q := 254 + 4 * sk k j) (q' := 254 + 4 * j) (fun m hm => rm9 hj (by omega))]
      exact ve _ _ (sk_mono hij) (sk_lt hj)
/-- the reference's row with one taken out -/
theorem rmR_PM {R : Nat → Nat} (hV : PV R) {ci pl wd k : Nat} (hkd : kdOK R ci pl wd) (hk : k < R ci) {m m' : Nat → Int32} (hM : PM R m) (ec : m' ci = nI (R ci - 1)) (e1 : ∀ j, j ≠ ci → (j < pl + wd * k ∨ pl + wd * (R ci - 1) ≤ j) → m' j = m j) (e2 : ∀ j, pl + wd * k ≤ j → j < pl + wd * (R ci - 1) → m' j = m (j + wd)) : PM (rmR R ci pl wd k) m' := by
  have hpl := fun l hl => plR_ok hV l hl
  obtain ⟨v0, v2, v3, v3', v4, v5, v5', v6, v7, v8, v9, va, vb, vc, vd, ve⟩ := hV
  obtain ⟨p0, p1, p2, p3⟩ := hM
  have low : ∀ i, i < 10 → m' i = nI (rmR R ci pl wd k i) := fun i hi => by
    by_cases e : i = ci
    · subst e
      rw [ec, rmR_c]
    · have hge : i < pl + wd * k := by
        rcases hkd with ⟨-, rfl, rfl⟩ | ⟨-, rfl, rfl⟩ | ⟨-, rfl, rfl⟩ <;> omega
      rw [e1 i e (Or.inl hge), rmR_out e (Or.inl hge)]
      exact p0 i hi
  have at8 : ∀ l, l < R 7 → R (10 + 13 * l + 4) ≤ 8 := fun l hl => (hpl l hl).2.2.2.2.2.2.1
  rcases hkd with ⟨rfl, rfl, rfl⟩ | ⟨rfl, rfl, rfl⟩ | ⟨rfl, rfl, rfl⟩
  · have lo : ∀ j, j ≠ 7 → (j < 10 ∨ 218 ≤ j) → rmR R 7 10 13 k j = R j ∧ m' j = m j := fun j h h2 => ⟨rmR_out h (by omega), e1 j h (by omega)⟩
    refine ⟨low, fun l i hl hi => ?_, fun l i hl hi => ?_, fun l i hl hi => ?_⟩
    · rw [rmR_c] at hl
      rw [rm7 hl (by decide)] at hi
      have h8 := at8 _ (sk_lt (k := k) hl)
      rw [rm7 hl (by omega), ← p1 _ i (sk_lt (k := k) hl) hi]
      by_cases w : l < k
      · rw [e1 _ (by omega) (by omega)]
        unfold sk
        rw [if_pos w]
      · rw [e2 _ (by omega) (by omega)]
        unfold sk
        rw [if_neg w]
        congr 1
        omega
    · rw [(lo 8 (by decide) (by decide)).1] at hl
      rw [(lo _ (by omega) (by omega)).1, (lo _ (by omega) (by omega)).2]
      exact p2 l i hl hi
    · rw [(lo 9 (by decide) (by decide)).1] at hl
      rw [(lo _ (by omega) (by omega)).1, (lo _ (by omega) (by omega)).2]
      exact p3 l i hl hi
  · have lo : ∀ j, j ≠ 8 → (j < 218 ∨ 254 ≤ j) → rmR R 8 218 3 k j = R j ∧ m' j = m j := fun j h h2 => ⟨rmR_out h (by omega), e1 j h (by omega)⟩
    refine ⟨low, fun l i hl hi => ?_, fun l i hl hi => ?_, fun l i hl hi => ?_⟩
    · rw [(lo 7 (by decide) (by decide)).1] at hl
      have h8 := at8 _ hl
      rw [(lo _ (by omega) (by omega)).1] at hi
      rw [(lo _ (by omega) (by omega)).1, (lo _ (by omega) (by omega)).2]
      exact p1 l i hl hi
    · rw [rmR_c] at hl
      rw [rm8 hl (by omega), ← p2 _ i (sk_lt (k := k) hl) hi]
      by_cases w : l < k
      · rw [e1 _ (by omega) (by omega)]
        unfold sk
        rw [if_pos w]
      · rw [e2 _ (by omega) (by omega)]
        unfold sk
        rw [if_neg w]
        congr 1
        omega
    · rw [(lo 9 (by decide) (by decide)).1] at hl
      rw [(lo _ (by omega) (by omega)).1, (lo _ (by omega) (by omega)).2]
      exact p3 l i hl hi
  · have lo : ∀ j, j ≠ 9 → j < 254 → rmR R 9 254 4 k j = R j ∧ m' j = m j := fun j h h2 => ⟨rmR_out h (by omega), e1 j h (by omega)⟩
    refine ⟨low, fun l i hl hi => ?_, fun l i hl hi => ?_, fun l i hl hi => ?_⟩
    · rw [(lo 7 (by decide) (by decide)).1] at hl
      have h8 := at8 _ hl
      rw [(lo _ (by omega) (by omega)).1] at hi
      rw [(lo _ (by omega) (by omega)).1, (lo _ (by omega) (by omega)).2]
      exact p1 l i hl hi
    · rw [(lo 8 (by decide) (by decide)).1] at hl
      rw [(lo _ (by omega) (by omega)).1, (lo _ (by omega) (by omega)).2]
      exact p2 l i hl hi
    · rw [rmR_c] at hl
      rw [rm9 hl (by omega), ← p3 _ i (sk_lt (k := k) hl) hi]
      by_cases w : l < k
      · rw [e1 _ (by omega) (by omega)]
        unfold sk
        rw [if_pos w]
      · rw [e2 _ (by omega) (by omega)]
        unfold sk
        rw [if_neg w]
        congr 1
        omega
