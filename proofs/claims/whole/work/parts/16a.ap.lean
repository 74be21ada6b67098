/-! a letter more in a play -/
def apR (R : Nat → Nat) (rc : Nat → Nat) : Nat → Nat := fun j => if j = 7 then R 7 + 1 else if 10 + 13 * R 7 ≤ j ∧ j < 10 + 13 * R 7 + 13 then rc (j - (10 + 13 * R 7)) else R j
theorem apR_7 (R rc : Nat → Nat) : apR R rc 7 = R 7 + 1 := if_pos rfl
theorem apR_out {R rc : Nat → Nat} {j : Nat} (h : j ≠ 7) (h2 : j < 10 + 13 * R 7 ∨ 10 + 13 * R 7 + 13 ≤ j) : apR R rc j = R j := by
  unfold apR
  rw [if_neg h, if_neg (by omega)]
theorem apR_at {R rc : Nat → Nat} {i : Nat} (hi : i < 13) : apR R rc (10 + 13 * R 7 + i) = rc i := by
  unfold apR
  rw [if_neg (by omega), if_pos ⟨by omega, by omega⟩]
  congr 1
  omega
def rcOK (R rc : Nat → Nat) : Prop := (1 ≤ rc 0 ∧ rc 0 ≤ 8 ∧ rc 1 < R 0 ∧ rc 2 < R 0 ∧ rc 1 ≠ rc 2) ∧ rc 3 < 4 ∧ 1 ≤ rc 4 ∧ rc 4 ≤ 8 ∧ (∀ i, i < rc 4 → rc (5 + i) < R 0) ∧ ∀ i j, i < j → j < rc 4 → rc (5 + i) ≠ rc (5 + j)
theorem apR_PV {R rc : Nat → Nat} (hV : PV R) (h7 : R 7 < 16) (hr : rcOK R rc) : PV (apR R rc) := by
  obtain ⟨v0, v2, v3, v3', v4, v5, v5', v6, v7, v8, v9, va, vb, vc, vd, ve⟩ := hV
  have lo : ∀ j, j ≠ 7 → (j < 10 ∨ 218 ≤ j) → apR R rc j = R j := fun j h h2 => apR_out h (by omega)
  have e0 : apR R rc 0 = R 0 := lo 0 (by decide) (by decide)
  refine ⟨?_, ?_, ?_, ?_, ?_, ?_, ?_, ?_, ?_, ?_, ?_, fun l hl => ?_, fun l hl => ?_, fun l hl => ?_, fun i j hij hj => ?_, fun i j hij hj => ?_⟩
  · rw [e0, lo 1 (by decide) (by decide)]; exact v0
  · rw [lo 2 (by decide) (by decide)]; exact v2
  · rw [lo 3 (by decide) (by decide)]; exact v3
  · rw [lo 3 (by decide) (by decide)]; exact v3'
  · rw [lo 4 (by decide) (by decide)]; exact v4
  · rw [lo 5 (by decide) (by decide)]; exact v5
  · rw [lo 5 (by decide) (by decide)]; exact v5'
  · rw [lo 6 (by decide) (by decide), e0]; exact v6
  · rw [apR_7]; omega
  · rw [lo 8 (by decide) (by decide)]; exact v8
  · rw [lo 9 (by decide) (by decide)]; exact v9
  · rw [apR_7] at hl
    by_cases e : l = R 7
    · subst e
      obtain ⟨h1, h2, h3, h4, h5, h6⟩ := hr
      have a0 : apR R rc (10 + 13 * R 7) = rc 0 := apR_at (i := 0) (by decide)
      refine ⟨?_, ?_, ?_, ?_, fun i hi => ?_, fun i j hij hj => ?_⟩
      · unfold wayOK
        rw [e0, a0, apR_at (by decide), apR_at (by decide)]
        exact h1
      · rw [apR_at (by decide)]; exact h2
      · rw [apR_at (by decide)]; exact h3
      · rw [apR_at (by decide)]; exact h4
      · rw [apR_at (by decide)] at hi
        rw [Nat.add_assoc, apR_at (by omega), e0]
        exact h5 i hi
      · rw [apR_at (by decide)] at hj
        rw [Nat.add_assoc (10 + 13 * R 7) 5 i, Nat.add_assoc (10 + 13 * R 7) 5 j, apR_at (by omega), apR_at (by omega)]
        exact h6 i j hij hj
    · exact (va l (by omega)).cg e0 (fun j hj => apR_out (by omega) (by omega))
  · rw [lo 8 (by decide) (by decide)] at hl
    exact (vb l hl).cg e0 (fun j _ => lo _ (by omega) (by omega))
  · rw [lo 9 (by decide) (by decide)] at hl
    obtain ⟨a, b, c⟩ := vc l hl
    rw [lo (254 + 4 * l + 3) (by omega) (by omega)]
    exact ⟨a.cg e0 (fun j _ => lo _ (by omega) (by omega)), b, c⟩
  · rw [lo 8 (by decide) (by decide)] at hj
    rw [way_cg (R' := apR R rc) (R := R) (q := 218 + 3 * i) (fun m _ => lo _ (by omega) (by omega)), way_cg (R' := apR R rc) (R := R) (q := 218 + 3 * j) (fun m _ => lo _ (by omega) (by omega))]
    exact vd i j hij hj
  · rw [lo 9 (by decide) (by decide)] at hj
    rw [way_cg (R' := apR R rc) (R := R) (q := 254 + 4 * i) (fun m _ => lo _ (by omega) (by omega)), way_cg (R' := apR R rc) (R := R) (q := 254 + 4 * j) (fun m _ => lo _ (by omega) (by omega))]
    exact ve i j hij hj
theorem apR_PC {R rc : Nat → Nat} (hV : PV R) {M : Mem} {c : Int32} (hP : PC R M 0) (h7 : R 7 < 16) (h4 : rc 4 ≤ 8) (hc : Chn c (rc 4) (fun i => rc (5 + i))) : ∃ M', f_Play_addPlan 0 M (nI (64 * rc 0 + 8 * rc 1 + rc 2)) (nI (rc 3)) c = some M' ∧ (∀ a, 8 ≤ a → M' a = M a) ∧ PC (apR R rc) M' 0 := by
  have v8 := hV.2.2.2.2.2.2.2.2.2.1
  obtain ⟨p0, p1, p2, p3, p4, p5, p6, p7, p8⟩ := hP
  have lo : ∀ j, j ≠ 7 → (j < 10 ∨ 218 ≤ j) → apR R rc j = R j := fun j h h2 => apR_out h (by omega)
  refine ⟨upM (upM (upM (upM M 2 (R 7) (nI (64 * rc 0 + 8 * rc 1 + rc 2))) 3 (R 7) (nI (rc 3))) 4 (R 7) c) 0 2 (nI (R 7 + 1)), ?_, fun a ha => by rw [upM_row (by omega), upM_row (by omega), upM_row (by omega), upM_row (by omega)], ?_⟩
  · unfold f_Play_addPlan
    rw [p2, show (16 : Int32) = nI 16 from rfl, if_neg (nI_ge h7 (by decide)), gIn_nI (by omega) (by decide), lt1_eq, nI_clamp (by omega), upM_row (a := 0) (by decide), p2, gIn_nI (by omega) (by decide), lt1_eq, nI_clamp (by omega), upM_row (a := 0) (by decide), upM_row (a := 0) (by decide), p2, gIn_nI (by omega) (by decide), lt1_eq, nI_clamp (by omega), upM_row (a := 0) (by decide), upM_row (a := 0) (by decide), upM_row (a := 0) (by decide), p2, lt1_eq, ← nI_succ]
  · have u : ∀ a, a ≠ 0 → a ≠ 2 → a ≠ 3 → a ≠ 4 → upM (upM (upM (upM M 2 (R 7) (nI (64 * rc 0 + 8 * rc 1 + rc 2))) 3 (R 7) (nI (rc 3))) 4 (R 7) c) 0 2 (nI (R 7 + 1)) a = M a := fun a h0 h2 h3 h4 => by rw [upM_row h0, upM_row h4, upM_row h3, upM_row h2]
    have u0 : ∀ b, b ≠ 2 → upM (upM (upM (upM M 2 (R 7) (nI (64 * rc 0 + 8 * rc 1 + rc 2))) 3 (R 7) (nI (rc 3))) 4 (R 7) c) 0 2 (nI (R 7 + 1)) 0 b = M 0 b := fun b hb => by rw [upM_ne (fun _ => hb), upM_row (by decide), upM_row (by decide), upM_row (by decide)]
    refine ⟨?_, ?_, ?_, ?_, ?_, fun i hi => ?_, fun l hl => ?_, fun l hl => ?_, fun l hl => ?_⟩
    · rw [u0 0 (by decide), lo 0 (by decide) (by decide)]; exact p0
    · rw [u0 1 (by decide), lo 6 (by decide) (by decide)]; exact p1
    · rw [upM_eq, apR_7]
    · rw [u0 3 (by decide), lo 8 (by decide) (by decide)]; exact p3
    · rw [u0 4 (by decide), lo 9 (by decide) (by decide)]; exact p4
    · rw [u (0 + 1) (by decide) (by decide) (by decide) (by decide), lo (1 + i) (by omega) (by omega)]; exact p5 i hi
    · rw [apR_7] at hl
      by_cases e : l = R 7
      · subst e
        have a0 : apR R rc (10 + 13 * R 7) = rc 0 := apR_at (i := 0) (by decide)
        refine ⟨?_, ?_, ?_⟩
        · rw [upM_row (a := 0 + 2) (by decide), upM_row (a := 0 + 2) (by decide), upM_row (a := 0 + 2) (by decide), upM_eq]
          unfold way
          rw [a0, apR_at (by decide), apR_at (by decide)]
        · rw [upM_row (a := 0 + 3) (by decide), upM_row (a := 0 + 3) (by decide), upM_eq, apR_at (by decide)]
        · rw [upM_row (a := 0 + 4) (by decide), upM_eq, apR_at (by decide)]
          refine hc.congr (fun i hi => ?_)
          rw [Nat.add_assoc, apR_at (by omega)]
      · obtain ⟨q1, q2, q3⟩ := p6 l (by omega)
        have o : ∀ j, j < 13 → apR R rc (10 + 13 * l + j) = R (10 + 13 * l + j) := fun j hj => apR_out (by omega) (by omega)
        rw [way_cg (R' := apR R rc) (R := R) (q := 10 + 13 * l) (fun m hm => o m (by omega)), o 3 (by decide), o 4 (by decide)]
        refine ⟨?_, ?_, ?_⟩
        · rw [upM_row (a := 0 + 2) (by decide), upM_row (a := 0 + 2) (by decide), upM_row (a := 0 + 2) (by decide), upM_ne (fun _ => e)]; exact q1
        · rw [upM_row (a := 0 + 3) (by decide), upM_row (a := 0 + 3) (by decide), upM_ne (fun _ => e), upM_row (a := 0 + 3) (by decide)]; exact q2
        · rw [upM_row (a := 0 + 4) (by decide), upM_ne (fun _ => e), upM_row (a := 0 + 4) (by decide), upM_row (a := 0 + 4) (by decide)]
          refine q3.congr (fun i hi => ?_)
          have := q3.le
          rw [Nat.add_assoc, o _ (by omega)]
    · rw [lo 8 (by decide) (by decide)] at hl
      rw [u (0 + 5) (by decide) (by decide) (by decide) (by decide), way_cg (R' := apR R rc) (R := R) (q := 218 + 3 * l) (fun m _ => lo _ (by omega) (by omega))]
      exact p7 l hl
    · rw [lo 9 (by decide) (by decide)] at hl
      rw [u (0 + 6) (by decide) (by decide) (by decide) (by decide), u (0 + 7) (by decide) (by decide) (by decide) (by decide), way_cg (R' := apR R rc) (R := R) (q := 254 + 4 * l) (fun m _ => lo _ (by omega) (by omega)), lo (254 + 4 * l + 3) (by omega) (by omega)]
      exact p8 l hl
theorem apR_PM {R rc : Nat → Nat} (hV : PV R) (h7 : R 7 < 16) (h4 : rc 4 ≤ 8) {m m' : Nat → Int32} (hM : PM R m) (e7 : m' 7 = nI (R 7 + 1)) (ea : ∀ i, i < 5 + rc 4 → m' (10 + 13 * R 7 + i) = nI (rc i)) (er : ∀ j, j ≠ 7 → (j < 10 + 13 * R 7 ∨ 10 + 13 * R 7 + 13 ≤ j) → m' j = m j) : PM (apR R rc) m' := by
  have v8 := hV.2.2.2.2.2.2.2.2.2.1
  have at8 : ∀ l, l < R 7 → R (10 + 13 * l + 4) ≤ 8 := fun l hl => (plR_ok hV l hl).2.2.2.2.2.2.1
  obtain ⟨p0, p1, p2, p3⟩ := hM
  have lo : ∀ j, j ≠ 7 → (j < 10 ∨ 218 ≤ j) → apR R rc j = R j ∧ m' j = m j := fun j h h2 => ⟨apR_out h (by omega), er j h (by omega)⟩
  refine ⟨fun i hi => ?_, fun l i hl hi => ?_, fun l i hl hi => ?_, fun l i hl hi => ?_⟩
  · by_cases e : i = 7
    · subst e
      rw [e7, apR_7]
    · rw [(lo i e (by omega)).1, (lo i e (by omega)).2]
      exact p0 i hi
  · rw [apR_7] at hl
    by_cases e : l = R 7
    · subst e
      rw [apR_at (by decide)] at hi
      rw [apR_at (by omega)]
      exact ea i hi
    · have h8 := at8 l (by omega)
      rw [apR_out (by omega) (by omega)] at hi
      rw [apR_out (by omega) (by omega), er _ (by omega) (by omega)]
      exact p1 l i (by omega) hi
  · rw [(lo 8 (by decide) (by decide)).1] at hl
    rw [(lo _ (by omega) (by omega)).1, (lo _ (by omega) (by omega)).2]
    exact p2 l i hl hi
  · rw [(lo 9 (by decide) (by decide)).1] at hl
    rw [(lo _ (by omega) (by omega)).1, (lo _ (by omega) (by omega)).2]
    exact p3 l i hl hi
/-- the reference writes a letter: marks in told -/
theorem M_plans {M : Mem} {n r f t v m : Nat} {mk : Nat → Nat} (hn : n < 16) (h17 : M 1 7 = nI n) (hm : m ≤ 8) (h8 : ∀ i, i < m → M 8 i = nI (mk i)) : ∃ M', f_MM_plans M (nI r) (nI f) (nI t) (nI v) (nI m) = some M' ∧ (∀ a, a ≠ 1 → M' a = M a) ∧ M' 1 7 = nI (n + 1) ∧ (∀ j, j ≠ 7 → (j < 10 + 13 * n ∨ 10 + 13 * n + 13 ≤ j) → M' 1 j = M 1 j) ∧ M' 1 (10 + 13 * n) = nI r ∧ M' 1 (10 + 13 * n + 1) = nI f ∧ M' 1 (10 + 13 * n + 2) = nI t ∧ M' 1 (10 + 13 * n + 3) = nI v ∧ M' 1 (10 + 13 * n + 4) = nI m ∧ ∀ i, i < m → M' 1 (10 + 13 * n + 5 + i) = nI (mk i) := by
  obtain ⟨A, hA⟩ : ∃ A, A = upM (upM (upM (upM (upM M 1 (10 + 13 * n) (nI r)) 1 (10 + 13 * n + 1) (nI f)) 1 (10 + 13 * n + 2) (nI t)) 1 (10 + 13 * n + 3) (nI v)) 1 (10 + 13 * n + 4) (nI m) := ⟨_, rfl⟩
  have rA : ∀ a, a ≠ 1 → A a = M a := fun a ha => by rw [hA, upM_row ha, upM_row ha, upM_row ha, upM_row ha, upM_row ha]
  have oA : ∀ j, (j < 10 + 13 * n ∨ 10 + 13 * n + 5 ≤ j) → A 1 j = M 1 j := fun j hj => by rw [hA, upM_ne (by omega), upM_ne (by omega), upM_ne (by omega), upM_ne (by omega), upM_ne (by omega)]
  have start : f_MM_plans M (nI r) (nI f) (nI t) (nI v) (nI m) = f_MM_plans_J68 A (nI m) (nI (10 + 13 * n)) 0 := by
    unfold f_MM_plans
    rw [h17, j10, j13, pk_mul, nI_add, gIn_nI (by omega) (by decide), lt1_eq, j1, nI_add, gIn_nI (by omega) (by decide), lt1_eq, j2, nI_add, gIn_nI (by omega) (by decide), lt1_eq, j3, nI_add, gIn_nI (by omega) (by decide), lt1_eq, j4, nI_add, gIn_nI (by omega) (by decide), lt1_eq, nI_clamp (show 10 + 13 * n < 2 ^ 31 by omega), nI_clamp (show 10 + 13 * n + 1 < 2 ^ 31 by omega), nI_clamp (show 10 + 13 * n + 2 < 2 ^ 31 by omega), nI_clamp (show 10 + 13 * n + 3 < 2 ^ 31 by omega), nI_clamp (show 10 + 13 * n + 4 < 2 ^ 31 by omega), hA]
  rw [start]
  unfold f_MM_plans_J68
  rw [bnd_id]
  unfold f_MM_plans_W68
  suffices hh : ∃ M', loop (fun t => f_MM_plans_L68 (nI m) (nI (10 + 13 * n)) t.1 t.2) ((fun (i : Nat) (s : Mem) => (nI i, s)) 0 A) = some M' ∧ ((∀ a, a ≠ 1 → M' a = M a) ∧ M' 1 7 = nI (n + 1) ∧ (∀ j, j ≠ 7 → j < 10 + 13 * n + 5 ∨ 10 + 13 * n + 13 ≤ j → M' 1 j = A 1 j) ∧ ∀ i, i < m → M' 1 (10 + 13 * n + 5 + i) = nI (mk i)) by
    obtain ⟨M', q1, q2, q3, q4, q5⟩ := hh
    refine ⟨M', q1, q2, q3, fun j h1 h2 => (q4 j h1 (by omega)).trans (oA j (by omega)), ?_, ?_, ?_, ?_, ?_, q5⟩
    · rw [q4 _ (by omega) (by omega), hA, upM_ne (by omega), upM_ne (by omega), upM_ne (by omega), upM_ne (by omega), upM_eq]
    · rw [q4 _ (by omega) (by omega), hA, upM_ne (by omega), upM_ne (by omega), upM_ne (by omega), upM_eq]
    · rw [q4 _ (by omega) (by omega), hA, upM_ne (by omega), upM_ne (by omega), upM_eq]
    · rw [q4 _ (by omega) (by omega), hA, upM_ne (by omega), upM_eq]
    · rw [q4 _ (by omega) (by omega), hA, upM_eq]
  refine loop_enc (fun i s => (nI i, s)) 8 (fun i N => (∀ a, a ≠ 1 → N a = M a) ∧ (∀ j, j < 10 + 13 * n + 5 ∨ 10 + 13 * n + 13 ≤ j → N 1 j = A 1 j) ∧ ∀ k, k < i → k < m → N 1 (10 + 13 * n + 5 + k) = nI (mk k)) _ ?_ ?_ 0 A (Nat.zero_le _) ⟨rA, fun _ _ => rfl, fun k hk => absurd hk (Nat.not_lt_zero k)⟩
  · rintro i N hi ⟨g1, g2, g3⟩
    have wr : ∀ y : Int32, f_MM_plans_J104 N (nI m) (nI (10 + 13 * n)) (nI i) y (nI (10 + 13 * n) + 5 + nI i) = some (.inl (nI (i + 1), upM N 1 (10 + 13 * n + 5 + i) y)) := fun y => by
      unfold f_MM_plans_J104
      rw [j5, nI_add, nI_add, gIn_nI (by omega) (by decide), lt1_eq, nI_clamp (by omega), ← nI_succ]
    have fin : ∀ y : Int32, (i < m → y = nI (mk i)) → (∀ a, a ≠ 1 → upM N 1 (10 + 13 * n + 5 + i) y a = M a) ∧ (∀ j, j < 10 + 13 * n + 5 ∨ 10 + 13 * n + 13 ≤ j → upM N 1 (10 + 13 * n + 5 + i) y 1 j = A 1 j) ∧ ∀ k, k < i + 1 → k < m → upM N 1 (10 + 13 * n + 5 + i) y 1 (10 + 13 * n + 5 + k) = nI (mk k) := fun y hy => by
      refine ⟨fun a ha => (upM_row ha).trans (g1 a ha), fun j hj => (upM_ne (by omega)).trans (g2 j hj), fun k hk hkm => ?_⟩
      by_cases e : k = i
      · subst e
        rw [upM_eq]
        exact hy hkm
      · exact (upM_ne (by omega)).trans (g3 k (by omega) hkm)
    left
    by_cases w : m ≤ i
    · refine ⟨upM N 1 (10 + 13 * n + 5 + i) 0, ?_, fin 0 (fun z => by omega)⟩
      show f_MM_plans_L68 (nI m) (nI (10 + 13 * n)) (nI i) N = _
      unfold f_MM_plans_L68
      rw [j8, if_neg (nI_ge hi (by decide)), if_pos ((nI_leI (by omega) (by omega)).mpr w), wr]
    · refine ⟨upM N 1 (10 + 13 * n + 5 + i) (nI (mk i)), ?_, fin _ (fun _ => rfl)⟩
      show f_MM_plans_L68 (nI m) (nI (10 + 13 * n)) (nI i) N = _
      unfold f_MM_plans_L68
      rw [j8, if_neg (nI_ge hi (by decide)), if_neg (nI_ge (by omega) (by omega)), gIn_nI hi (by decide), nI_clamp (show i < 2 ^ 31 by omega), g1 8 (by decide), h8 i (by omega), wr]
  · rintro N ⟨g1, g2, g3⟩
    have e7 : N 1 7 = nI n := by rw [g2 7 (by omega), oA 7 (by omega), h17]
    refine ⟨upM N 1 7 (nI (n + 1)), ?_, fun a ha => (upM_row ha).trans (g1 a ha), upM_eq, fun j h1 h2 => (upM_ne (fun _ => h1)).trans (g2 j h2), fun i hi => (upM_ne (by omega)).trans (g3 i (by omega) hi)⟩
    show f_MM_plans_L68 (nI m) (nI (10 + 13 * n)) (nI 8) N = _
    unfold f_MM_plans_L68
    rw [if_pos (show (8 : Int32) ≤ nI 8 by decide), e7, lt1_eq, ← nI_succ]
