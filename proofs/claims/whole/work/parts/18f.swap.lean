theorem C_swap {R : Nat → Nat} {M : Mem} {a b : Nat} (hV : PV R) (hP : PC R M 0) (ha : a < R 0) (hb : b < R 0) : ∃ M', f_Play_swap 0 M (nI a) (nI b) = some M' ∧ (∀ c, 8 ≤ c → M' c = M c) ∧ PC (swR R a b) M' 0 := by
  have hn := pv_n hV
  have hV0 := hV
  obtain ⟨v0, v2, v3, v3', v4, v5, v5', v6, v7, v8, v9, va, vb, vc, vd, ve⟩ := hV0
  obtain ⟨p0, p1, p2, p3, p4, p5, p6, p7, p8⟩ := hP
  have lo : ∀ j, j < 10 → j ≠ 1 → j ≠ 6 → swR R a b j = R j := fun j h h1 h2 => swR_lo h h1 h2
  obtain ⟨A, hA⟩ : ∃ A, A = upM (upM M 1 0 (nI (swN (R 1) a b))) 0 1 (nI (swL R a b)) := ⟨_, rfl⟩
  have start : f_Play_swap 0 M (nI a) (nI b) = f_Play_swap_J52 0 A (nI a) (nI b) 0 := by
    unfold f_Play_swap
    have s1 : M (0 + 1) 0 = nI (R 1) := p5 0 (by decide)
    rw [s1, C_sw (by omega) (by omega) (by omega), lt1_eq, lt1_eq, lt1_eq, upM_row (a := 0) (by decide), p1, C_swBits hV ha hb, hA]
  have A0 : ∀ j, j ≠ 1 → A 0 j = M 0 j := fun j hj => by rw [hA, upM_ne (fun _ => hj), upM_row (by decide)]
  have Ar : ∀ c, 2 ≤ c → A c = M c := fun c hc => by rw [hA, upM_row (by omega), upM_row (by omega)]
  rw [start]
  unfold f_Play_swap_J52
  -- letters
  obtain ⟨B, b1, b2, b3⟩ : ∃ B, f_Play_swap_W52 0 (nI a) (nI b) ((0 : Int32), A) = some B ∧ (∀ c, c ≠ 2 → c ≠ 4 → B c = A c) ∧ ∀ l, l < R 7 → B 2 l = nI (64 * R (10 + 13 * l) + 8 * swN (R (10 + 13 * l + 1)) a b + swN (R (10 + 13 * l + 2)) a b) ∧ Chn (B 4 l) (R (10 + 13 * l + 4)) (fun i => swN (R (10 + 13 * l + 5 + i)) a b) := by
    unfold f_Play_swap_W52
    suffices hh : ∃ r, loop (fun t => f_Play_swap_L52 0 (nI a) (nI b) t.1 t.2) ((fun (i : Nat) (s : Mem) => (nI i, s)) 0 A) = some r ∧ (∀ c, c ≠ 2 → c ≠ 4 → r c = A c) ∧ ∀ l, l < R 7 → r 2 l = nI (64 * R (10 + 13 * l) + 8 * swN (R (10 + 13 * l + 1)) a b + swN (R (10 + 13 * l + 2)) a b) ∧ Chn (r 4 l) (R (10 + 13 * l + 4)) (fun i => swN (R (10 + 13 * l + 5 + i)) a b) from hh
    refine loop_enc (fun i s => (nI i, s)) (R 7) (fun i N => (∀ c, c ≠ 2 → c ≠ 4 → N c = A c) ∧ (∀ l, l < i → N 2 l = nI (64 * R (10 + 13 * l) + 8 * swN (R (10 + 13 * l + 1)) a b + swN (R (10 + 13 * l + 2)) a b) ∧ Chn (N 4 l) (R (10 + 13 * l + 4)) (fun i => swN (R (10 + 13 * l + 5 + i)) a b)) ∧ ∀ l, i ≤ l → N 2 l = A 2 l ∧ N 4 l = A 4 l) _ ?_ ?_ 0 A (Nat.zero_le _) ⟨fun _ _ _ => rfl, fun l hl => absurd hl (Nat.not_lt_zero l), fun _ _ => ⟨rfl, rfl⟩⟩
    · rintro i N hi ⟨g1, g2, g3⟩
      obtain ⟨q1, q2, q3⟩ := p6 i hi
      obtain ⟨w1, w2, w3, w4, w5⟩ := (va i hi).1
      obtain ⟨c', c1, c2⟩ := C_swChain q3 (show a < 8 by omega) (show b < 8 by omega)
      have N2 : N (0 + 2) i = nI (64 * R (10 + 13 * i) + 8 * R (10 + 13 * i + 1) + R (10 + 13 * i + 2)) := by rw [(g3 i (Nat.le_refl _)).1, Ar 2 (by decide)]; exact q1
      have N4 : ∀ x, upM N (0 + 2) i x (0 + 4) i = M (0 + 4) i := fun x => by rw [upM_row (by decide)]; rw [(g3 i (Nat.le_refl _)).2, Ar 4 (by decide)]
      have N0 : N 0 2 = nI (R 7) := by rw [g1 0 (by decide) (by decide), A0 2 (by decide)]; exact p2
      left
      refine ⟨upM (upM N 2 i (nI (64 * R (10 + 13 * i) + 8 * swN (R (10 + 13 * i + 1)) a b + swN (R (10 + 13 * i + 2)) a b))) 4 i c', ?_, fun c e1 e2 => by rw [upM_row e2, upM_row e1]; exact g1 c e1 e2, fun l hl => ?_, fun l hl => ?_⟩
      · show f_Play_swap_L52 0 (nI a) (nI b) (nI i) N = _
        unfold f_Play_swap_L52
        rw [N0, if_neg (nI_ge hi (by omega)), gIn_nI (by omega) (by decide), lt1_eq, nI_clamp (show i < 2 ^ 31 by omega), N2, C_swWay (by omega) (by omega) (by omega) (by omega) (by omega), N4, c1, bnd_some, lt1_eq, ← nI_succ]
      · by_cases e : l = i
        · subst e
          refine ⟨by rw [upM_row (by decide), upM_eq], by rw [upM_eq]; exact c2⟩
        · rw [upM_row (a := 2) (by decide), upM_ne (fun _ => e), upM_ne (fun _ => e), upM_row (by decide)]
          exact g2 l (by omega)
      · rw [upM_row (a := 2) (by decide), upM_ne (by omega), upM_ne (by omega), upM_row (by decide)]
        exact g3 l (by omega)
    · rintro N ⟨g1, g2, g3⟩
      have N0 : N 0 2 = nI (R 7) := by rw [g1 0 (by decide) (by decide), A0 2 (by decide)]; exact p2
      refine ⟨N, ?_, g1, g2⟩
      show f_Play_swap_L52 0 (nI a) (nI b) (nI (R 7)) N = _
      unfold f_Play_swap_L52
      rw [N0, if_pos ((nI_leI (by omega) (by omega)).mpr (Nat.le_refl _))]
  rw [b1, bnd_some]
  unfold f_Play_swap_J108
  obtain ⟨C, c1, c2, c3⟩ : ∃ C, f_Play_swap_W108 0 (nI a) (nI b) ((0 : Int32), B) = some C ∧ (∀ c, c ≠ 5 → C c = B c) ∧ ∀ l, l < R 8 → C 5 l = nI (64 * R (218 + 3 * l) + 8 * swN (R (218 + 3 * l + 1)) a b + swN (R (218 + 3 * l + 2)) a b) := by
    unfold f_Play_swap_W108
    suffices hh : ∃ r, loop (fun t => f_Play_swap_L108 0 (nI a) (nI b) t.1 t.2) ((fun (i : Nat) (s : Mem) => (nI i, s)) 0 B) = some r ∧ (∀ c, c ≠ 5 → r c = B c) ∧ ∀ l, l < R 8 → r 5 l = nI (64 * R (218 + 3 * l) + 8 * swN (R (218 + 3 * l + 1)) a b + swN (R (218 + 3 * l + 2)) a b) from hh
    refine loop_enc (fun i s => (nI i, s)) (R 8) (fun i N => (∀ c, c ≠ 5 → N c = B c) ∧ (∀ l, l < i → N 5 l = nI (64 * R (218 + 3 * l) + 8 * swN (R (218 + 3 * l + 1)) a b + swN (R (218 + 3 * l + 2)) a b)) ∧ ∀ l, i ≤ l → N 5 l = B 5 l) _ ?_ ?_ 0 B (Nat.zero_le _) ⟨fun _ _ => rfl, fun l hl => absurd hl (Nat.not_lt_zero l), fun _ _ => rfl⟩
    · rintro i N hi ⟨g1, g2, g3⟩
      obtain ⟨w1, w2, w3, w4, w5⟩ := vb i hi
      have N2 : N (0 + 5) i = nI (64 * R (218 + 3 * i) + 8 * R (218 + 3 * i + 1) + R (218 + 3 * i + 2)) := by rw [g3 i (Nat.le_refl _), b2 5 (by decide) (by decide), Ar 5 (by decide)]; exact p7 i hi
      have N0 : N 0 3 = nI (R 8) := by rw [g1 0 (by decide), b2 0 (by decide) (by decide), A0 3 (by decide)]; exact p3
      left
      refine ⟨upM N 5 i (nI (64 * R (218 + 3 * i) + 8 * swN (R (218 + 3 * i + 1)) a b + swN (R (218 + 3 * i + 2)) a b)), ?_, fun c e1 => (upM_row e1).trans (g1 c e1), fun l hl => ?_, fun l hl => (upM_ne (by omega)).trans (g3 l (by omega))⟩
      · show f_Play_swap_L108 0 (nI a) (nI b) (nI i) N = _
        unfold f_Play_swap_L108
        rw [N0, if_neg (nI_ge hi (by omega)), gIn_nI (by omega) (by decide), lt1_eq, nI_clamp (show i < 2 ^ 31 by omega), N2, C_swWay (by omega) (by omega) (by omega) (by omega) (by omega), ← nI_succ]
      · by_cases e : l = i
        · subst e
          exact upM_eq
        · exact (upM_ne (fun _ => e)).trans (g2 l (by omega))
    · rintro N ⟨g1, g2, g3⟩
      have N0 : N 0 3 = nI (R 8) := by rw [g1 0 (by decide), b2 0 (by decide) (by decide), A0 3 (by decide)]; exact p3
      refine ⟨N, ?_, g1, g2⟩
      show f_Play_swap_L108 0 (nI a) (nI b) (nI (R 8)) N = _
      unfold f_Play_swap_L108
      rw [N0, if_pos ((nI_leI (by omega) (by omega)).mpr (Nat.le_refl _))]
  rw [c1, bnd_some]
  unfold f_Play_swap_J145
  rw [bnd_id]
  obtain ⟨D, d1, d2, d3⟩ : ∃ D, f_Play_swap_W145 0 (nI a) (nI b) ((0 : Int32), C) = some D ∧ (∀ c, c ≠ 6 → D c = C c) ∧ ∀ l, l < R 9 → D 6 l = nI (64 * R (254 + 4 * l) + 8 * swN (R (254 + 4 * l + 1)) a b + swN (R (254 + 4 * l + 2)) a b) := by
    unfold f_Play_swap_W145
    suffices hh : ∃ r, loop (fun t => f_Play_swap_L145 0 (nI a) (nI b) t.1 t.2) ((fun (i : Nat) (s : Mem) => (nI i, s)) 0 C) = some r ∧ (∀ c, c ≠ 6 → r c = C c) ∧ ∀ l, l < R 9 → r 6 l = nI (64 * R (254 + 4 * l) + 8 * swN (R (254 + 4 * l + 1)) a b + swN (R (254 + 4 * l + 2)) a b) from hh
    refine loop_enc (fun i s => (nI i, s)) (R 9) (fun i N => (∀ c, c ≠ 6 → N c = C c) ∧ (∀ l, l < i → N 6 l = nI (64 * R (254 + 4 * l) + 8 * swN (R (254 + 4 * l + 1)) a b + swN (R (254 + 4 * l + 2)) a b)) ∧ ∀ l, i ≤ l → N 6 l = C 6 l) _ ?_ ?_ 0 C (Nat.zero_le _) ⟨fun _ _ => rfl, fun l hl => absurd hl (Nat.not_lt_zero l), fun _ _ => rfl⟩
    · rintro i N hi ⟨g1, g2, g3⟩
      obtain ⟨w1, w2, w3, w4, w5⟩ := (vc i hi).1
      have N2 : N (0 + 6) i = nI (64 * R (254 + 4 * i) + 8 * R (254 + 4 * i + 1) + R (254 + 4 * i + 2)) := by rw [g3 i (Nat.le_refl _), c2 6 (by decide), b2 6 (by decide) (by decide), Ar 6 (by decide)]; exact (p8 i hi).1
      have N0 : N 0 4 = nI (R 9) := by rw [g1 0 (by decide), c2 0 (by decide), b2 0 (by decide) (by decide), A0 4 (by decide)]; exact p4
      left
      refine ⟨upM N 6 i (nI (64 * R (254 + 4 * i) + 8 * swN (R (254 + 4 * i + 1)) a b + swN (R (254 + 4 * i + 2)) a b)), ?_, fun c e1 => (upM_row e1).trans (g1 c e1), fun l hl => ?_, fun l hl => (upM_ne (by omega)).trans (g3 l (by omega))⟩
      · show f_Play_swap_L145 0 (nI a) (nI b) (nI i) N = _
        unfold f_Play_swap_L145
        rw [N0, if_neg (nI_ge hi (by omega)), gIn_nI (by omega) (by decide), lt1_eq, nI_clamp (show i < 2 ^ 31 by omega), N2, C_swWay (by omega) (by omega) (by omega) (by omega) (by omega), ← nI_succ]
      · by_cases e : l = i
        · subst e
          exact upM_eq
        · exact (upM_ne (fun _ => e)).trans (g2 l (by omega))
    · rintro N ⟨g1, g2, g3⟩
      have N0 : N 0 4 = nI (R 9) := by rw [g1 0 (by decide), c2 0 (by decide), b2 0 (by decide) (by decide), A0 4 (by decide)]; exact p4
      refine ⟨N, ?_, g1, g2⟩
      show f_Play_swap_L145 0 (nI a) (nI b) (nI (R 9)) N = _
      unfold f_Play_swap_L145
      rw [N0, if_pos ((nI_leI (by omega) (by omega)).mpr (Nat.le_refl _))]
  have D0 : ∀ j, D 0 j = A 0 j := fun j => by rw [d2 0 (by decide), c2 0 (by decide), b2 0 (by decide) (by decide)]
  refine ⟨D, d1, fun c hc => ?_, ?_⟩
  · rw [d2 c (by omega), c2 c (by omega), b2 c (by omega) (by omega), Ar c (by omega)]
  · refine ⟨?_, ?_, ?_, ?_, ?_, fun i hi => ?_, fun l hl => ?_, fun l hl => ?_, fun l hl => ?_⟩
    · rw [D0, A0 0 (by decide), lo 0 (by decide) (by decide) (by decide)]; exact p0
    · rw [D0, hA, upM_eq, swR_6]
    · rw [D0, A0 2 (by decide), lo 7 (by decide) (by decide) (by decide)]; exact p2
    · rw [D0, A0 3 (by decide), lo 8 (by decide) (by decide) (by decide)]; exact p3
    · rw [D0, A0 4 (by decide), lo 9 (by decide) (by decide) (by decide)]; exact p4
    · rw [d2 (0 + 1) (by decide), c2 (0 + 1) (by decide), b2 (0 + 1) (by decide) (by decide), hA, upM_row (a := 0 + 1) (by decide)]
      by_cases e : i = 0
      · subst e
        rw [upM_eq, swR_1]
      · rw [upM_ne (fun _ => e), lo (1 + i) (by omega) (by omega) (by omega)]
        exact p5 i hi
    · rw [lo 7 (by decide) (by decide) (by decide)] at hl
      have e4 : swR R a b (10 + 13 * l + 4) = R (10 + 13 * l + 4) := swR_pl (i := 4) (by omega) (by decide)
      obtain ⟨b31, b32⟩ := b3 l hl
      refine ⟨?_, ?_, ?_⟩
      · rw [d2 (0 + 2) (by decide), c2 (0 + 2) (by decide)]
        unfold way
        rw [show swR R a b (10 + 13 * l) = R (10 + 13 * l) from swR_pl (i := 0) (by omega) (by decide), show swR R a b (10 + 13 * l + 1) = swN (R (10 + 13 * l + 1)) a b from swR_pl (i := 1) (by omega) (by decide), show swR R a b (10 + 13 * l + 2) = swN (R (10 + 13 * l + 2)) a b from swR_pl (i := 2) (by omega) (by decide)]
        exact b31
      · rw [d2 (0 + 3) (by decide), c2 (0 + 3) (by decide), b2 (0 + 3) (by decide) (by decide), Ar (0 + 3) (by decide), show swR R a b (10 + 13 * l + 3) = R (10 + 13 * l + 3) from swR_pl (i := 3) (by omega) (by decide)]
        exact (p6 l hl).2.1
      · rw [d2 (0 + 4) (by decide), c2 (0 + 4) (by decide), e4]
        refine b32.congr (fun i hi => ?_)
        have := b32.le
        rw [Nat.add_assoc (10 + 13 * l), swR_pl (by omega) (by omega), if_pos (by omega)]
    · rw [lo 8 (by decide) (by decide) (by decide)] at hl
      rw [d2 (0 + 5) (by decide)]
      unfold way
      rw [show swR R a b (218 + 3 * l) = R (218 + 3 * l) from swR_om (i := 0) (by omega) (by decide), show swR R a b (218 + 3 * l + 1) = swN (R (218 + 3 * l + 1)) a b from swR_om (i := 1) (by omega) (by decide), show swR R a b (218 + 3 * l + 2) = swN (R (218 + 3 * l + 2)) a b from swR_om (i := 2) (by omega) (by decide)]
      exact c3 l hl
    · rw [lo 9 (by decide) (by decide) (by decide)] at hl
      refine ⟨?_, ?_⟩
      · unfold way
        rw [show swR R a b (254 + 4 * l) = R (254 + 4 * l) from swR_lt (i := 0) (by decide), show swR R a b (254 + 4 * l + 1) = swN (R (254 + 4 * l + 1)) a b from swR_lt (i := 1) (by decide), show swR R a b (254 + 4 * l + 2) = swN (R (254 + 4 * l + 2)) a b from swR_lt (i := 2) (by decide)]
        exact d3 l hl
      · rw [d2 (0 + 7) (by decide), c2 (0 + 7) (by decide), b2 (0 + 7) (by decide) (by decide), Ar (0 + 7) (by decide), show swR R a b (254 + 4 * l + 3) = R (254 + 4 * l + 3) from swR_lt (i := 3) (by decide)]
        exact (p8 l hl).2
