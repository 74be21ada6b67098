/-! taking out, by both; drop -/
theorem M_takesOut {M : Mem} {kd : Int32} {ci pl wd cnt k : Nat} (h7 : (7 : Int32) + kd = nI ci) (hp : f_MM_placeOf kd = nI pl) (hw : f_MM_wideOf kd = nI wd) (hc : M 1 ci = nI cnt) (hci : ci < pl) (hk : k < cnt) (hle : pl + wd * cnt ≤ 302) : ∃ M', f_MM_takesOut M kd (nI k) = some M' ∧ (∀ a, a ≠ 1 → M' a = M a) ∧ M' 1 ci = nI (cnt - 1) ∧ (∀ j, j ≠ ci → (j < pl + wd * k ∨ pl + wd * (cnt - 1) ≤ j) → M' 1 j = M 1 j) ∧ ∀ j, pl + wd * k ≤ j → j < pl + wd * (cnt - 1) → M' 1 j = M 1 (j + wd) := by
  have eL : wd * (cnt - 1) + wd = wd * cnt := by
    rw [← Nat.mul_succ]
    congr 1
    omega
  have eK : wd * k + wd * (cnt - 1 - k) = wd * (cnt - 1) := by
    rw [← Nat.mul_add]
    congr 1
    omega
  unfold f_MM_takesOut f_MM_takesOut_J15
  rw [bnd_id, hp, hw, pk_mul, nI_add]
  unfold f_MM_takesOut_W15
  have start : ∀ i N, N 1 ci = nI cnt → f_MM_takesOut_L15 kd (nI wd) (nI (pl + wd * k + i)) N = if nI (pl + wd * (cnt - 1)) ≤ nI (pl + wd * k + i) then some (.inr (upM N 1 ci (nI (cnt - 1)))) else gIn (nI (pl + wd * k + i + wd)) 302 (gIn (nI (pl + wd * k + i)) 302 (some (.inl (nI (pl + wd * k + i + 1), upM N 1 (nI (pl + wd * k + i)).toNatClampNeg (N 1 (nI (pl + wd * k + i + wd)).toNatClampNeg))))) := fun i N hN => by
    unfold f_MM_takesOut_L15
    rw [h7, gIn_nI (by omega) (by decide), nI_clamp (show ci < 2 ^ 31 by omega), hN, hp, j1, pk_sub (by omega), pk_mul, nI_add, nI_add, nI_add]
    rfl
  generalize wd * (cnt - 1) = L at *
  generalize wd * k = K at *
  generalize hD : wd * (cnt - 1 - k) = D at *
  suffices hh : ∃ M', loop (fun t => f_MM_takesOut_L15 kd (nI wd) t.1 t.2) ((fun (i : Nat) (s : Mem) => (nI (pl + K + i), s)) 0 M) = some M' ∧ ((∀ a, a ≠ 1 → M' a = M a) ∧ M' 1 ci = nI (cnt - 1) ∧ (∀ j, j ≠ ci → (j < pl + K ∨ pl + L ≤ j) → M' 1 j = M 1 j) ∧ ∀ j, pl + K ≤ j → j < pl + L → M' 1 j = M 1 (j + wd)) by exact hh
  refine loop_enc (fun i s => (nI (pl + K + i), s)) D (fun i N => (∀ a, a ≠ 1 → N a = M a) ∧ (∀ j, (j < pl + K ∨ pl + K + i ≤ j) → N 1 j = M 1 j) ∧ ∀ j, pl + K ≤ j → j < pl + K + i → N 1 j = M 1 (j + wd)) _ ?_ ?_ 0 M (Nat.zero_le _) ⟨fun _ _ => rfl, fun _ _ => rfl, fun j h1 h2 => by omega⟩
  · rintro i N hi ⟨g1, g2, g3⟩
    refine Or.inl ⟨upM N 1 (pl + K + i) (M 1 (pl + K + i + wd)), ?_, fun a ha => (upM_row ha).trans (g1 a ha), fun j hj => (upM_ne (by omega)).trans (g2 j (by omega)), fun j h1 h2 => ?_⟩
    · show f_MM_takesOut_L15 kd (nI wd) (nI (pl + K + i)) N = _
      rw [start i N ((g2 ci (by omega)).trans hc), if_neg (nI_ge (by omega) (by omega)), gIn_nI (by omega) (by decide), gIn_nI (by omega) (by decide), nI_clamp (by omega), nI_clamp (by omega), g2 _ (by omega)]
      rfl
    · by_cases e : j = pl + K + i
      · subst e; exact upM_eq
      · exact (upM_ne (by omega)).trans (g3 j h1 (by omega))
  · rintro N ⟨g1, g2, g3⟩
    refine ⟨upM N 1 ci (nI (cnt - 1)), ?_, fun a ha => (upM_row ha).trans (g1 a ha), upM_eq, fun j hj h2 => (upM_ne (fun _ => hj)).trans (g2 j (by omega)), fun j h1 h2 => (upM_ne (by omega)).trans (g3 j h1 (by omega))⟩
    show f_MM_takesOut_L15 kd (nI wd) (nI (pl + K + D)) N = _
    rw [start D N ((g2 ci (by omega)).trans hc), if_pos ((nI_leI (by omega) (by omega)).mpr (by omega))]
theorem C_close {M : Mem} {a n k : Nat} (hk : k < n) (hn : n ≤ 16) : ∃ M', f_Play_closeGap a n M (nI k) = some M' ∧ (∀ b, b ≠ a → M' b = M b) ∧ ∀ l, l < n - 1 → M' a l = M a (sk k l) := by
  have e0 : maI (nI k) 0 + 1 = nI (k + 1 + 0) := by
    rw [show (0 : Int32) = nI 0 from rfl, maI_nI (by omega) (by decide), Nat.max_zero, ← nI_succ]
  unfold f_Play_closeGap f_Play_closeGap_J8
  rw [bnd_id, e0]
  unfold f_Play_closeGap_W8
  suffices hh : ∃ M', loop (fun t => f_Play_closeGap_L8 a n t.1 t.2) ((fun (i : Nat) (s : Mem) => (nI (k + 1 + i), s)) 0 M) = some M' ∧ ((∀ b, b ≠ a → M' b = M b) ∧ ∀ l, l < n - 1 → M' a l = M a (sk k l)) by exact hh
  refine loop_enc (fun i s => (nI (k + 1 + i), s)) (n - 1 - k) (fun i N => (∀ b, b ≠ a → N b = M b) ∧ (∀ j, (j < k ∨ k + i ≤ j) → N a j = M a j) ∧ ∀ j, k ≤ j → j < k + i → N a j = M a (j + 1)) _ ?_ ?_ 0 M (Nat.zero_le _) ⟨fun _ _ => rfl, fun _ _ => rfl, fun j h1 h2 => by omega⟩
  · rintro i N hi ⟨g1, g2, g3⟩
    refine Or.inl ⟨upM N a (k + i) (M a (k + 1 + i)), ?_, fun b hb => (upM_row hb).trans (g1 b hb), fun j hj => (upM_ne (by omega)).trans (g2 j (by omega)), fun j h1 h2 => ?_⟩
    · show f_Play_closeGap_L8 a n (nI (k + 1 + i)) N = _
      unfold f_Play_closeGap_L8
      rw [if_neg (nI_ge (by omega) (by omega)), gIn_nI (by omega) (by omega), j1, pk_sub (by omega), gIn_nI (by omega) (by omega), nI_clamp (show k + 1 + i < 2 ^ 31 by omega), nI_clamp (by omega), lt1_eq, g2 (k + 1 + i) (by omega), nI_add, show k + 1 + i - 1 = k + i by omega]
      rfl
    · by_cases e : j = k + i
      · subst e
        rw [upM_eq]
        congr 1
        omega
      · exact (upM_ne (by omega)).trans (g3 j h1 (by omega))
  · rintro N ⟨g1, g2, g3⟩
    refine ⟨N, ?_, g1, fun l hl => ?_⟩
    · show f_Play_closeGap_L8 a n (nI (k + 1 + (n - 1 - k))) N = _
      unfold f_Play_closeGap_L8
      rw [if_pos ((nI_leI (by omega) (by omega)).mpr (by omega))]
    · unfold sk
      by_cases w : l < k
      · rw [if_pos w]
        exact g2 l (Or.inl w)
      · rw [if_neg w]
        exact g3 l (by omega) (by omega)
theorem C_rm {R : Nat → Nat} (hV : PV R) {M : Mem} (hP : PC R M 0) {kd ci pl wd k : Nat} (hkd : (kd = 0 ∧ ci = 7 ∧ pl = 10 ∧ wd = 13) ∨ (kd = 1 ∧ ci = 8 ∧ pl = 218 ∧ wd = 3) ∨ (kd = 2 ∧ ci = 9 ∧ pl = 254 ∧ wd = 4)) (hk : k < R ci) : ∃ M', f_Play_remove 0 M (nI kd) (nI k) = some M' ∧ (∀ a, 8 ≤ a → M' a = M a) ∧ PC (rmR R ci pl wd k) M' 0 := by
  have v7 := hV.2.2.2.2.2.2.2.2.1
  have v8 := hV.2.2.2.2.2.2.2.2.2.1
  have v9 := hV.2.2.2.2.2.2.2.2.2.2.1
  obtain ⟨p0, p1, p2, p3, p4, p5, p6, p7, p8⟩ := hP
  unfold f_Play_remove
  rcases hkd with ⟨rfl, rfl, rfl, rfl⟩ | ⟨rfl, rfl, rfl, rfl⟩ | ⟨rfl, rfl, rfl, rfl⟩
  · have lo : ∀ j, j ≠ 7 → (j < 10 ∨ 218 ≤ j) → rmR R 7 10 13 k j = R j := fun j h h2 => rmR_out h (by omega)
    obtain ⟨A, a1, a2, a3⟩ := C_close (M := M) (a := 0 + 2) (n := 16) (k := k) (by omega) (by decide)
    obtain ⟨B, b1, b2, b3⟩ := C_close (M := A) (a := 0 + 3) (n := 16) (k := k) (by omega) (by decide)
    obtain ⟨C, c1, c2, c3⟩ := C_close (M := B) (a := 0 + 4) (n := 16) (k := k) (by omega) (by decide)
    have r : ∀ a, a ≠ 2 → a ≠ 3 → a ≠ 4 → C a = M a := fun a h1 h2 h3 => by rw [c2 a h3, b2 a h2, a2 a h1]
    have e2 : C 0 2 = nI (R 7) := by rw [r 0 (by decide) (by decide) (by decide)]; exact p2
    refine ⟨upM C 0 2 (nI (R 7 - 1)), ?_, fun a ha => by rw [upM_row (by omega), r a (by omega) (by omega) (by omega)], ?_⟩
    · rw [if_pos (show nI 0 = 0 from rfl), a1, bnd_some, b1, bnd_some, c1, bnd_some, e2, j1, pk_sub (by omega), lt1_eq]
    · have u : ∀ a, a ≠ 0 → a ≠ 2 → a ≠ 3 → a ≠ 4 → upM C 0 2 (nI (R 7 - 1)) a = M a := fun a h0 h1 h2 h3 => by rw [upM_row h0, r a h1 h2 h3]
      have u0 : ∀ b, b ≠ 2 → upM C 0 2 (nI (R 7 - 1)) 0 b = M 0 b := fun b hb => by rw [upM_ne (fun _ => hb), r 0 (by decide) (by decide) (by decide)]
      refine ⟨?_, ?_, ?_, ?_, ?_, fun i hi => ?_, fun l hl => ?_, fun l hl => ?_, fun l hl => ?_⟩
      · rw [u0 0 (by decide), lo 0 (by decide) (by decide)]; exact p0
      · rw [u0 1 (by decide), lo 6 (by decide) (by decide)]; exact p1
      · rw [upM_eq, rmR_c]
      · rw [u0 3 (by decide), lo 8 (by decide) (by decide)]; exact p3
      · rw [u0 4 (by decide), lo 9 (by decide) (by decide)]; exact p4
      · rw [u (0 + 1) (by decide) (by decide) (by decide) (by decide), lo (1 + i) (by omega) (by omega)]; exact p5 i hi
      · rw [rmR_c] at hl
        obtain ⟨q1, q2, q3⟩ := p6 _ (sk_lt (k := k) hl)
        rw [upM_row (by decide), upM_row (by decide), upM_row (by decide), c2 (0 + 2) (by decide), b2 (0 + 2) (by decide), a3 l (by omega), c2 (0 + 3) (by decide), b3 l (by omega), a2 (0 + 3) (by decide), c3 l (by omega), b2 (0 + 4) (by decide), a2 (0 + 4) (by decide), way_mv (R' := rmR R 7 10 13 k) (R := R) (q := 10 + 13 * sk k l) (q' := 10 + 13 * l) (fun m hm => rm7 hl (by omega)), rm7 hl (by decide), rm7 hl (by decide)]
        refine ⟨q1, q2, q3.congr (fun i hi => ?_)⟩
        have h8 := q3.le
        have := rm7 (k := k) (i := 5 + i) hl (by omega)
        rw [← Nat.add_assoc, ← Nat.add_assoc] at this
        exact this
      · rw [lo 8 (by decide) (by decide)] at hl
        rw [u (0 + 5) (by decide) (by decide) (by decide) (by decide), way_cg (R' := rmR R 7 10 13 k) (R := R) (q := 218 + 3 * l) (fun m _ => lo _ (by omega) (by omega))]
        exact p7 l hl
      · rw [lo 9 (by decide) (by decide)] at hl
        rw [u (0 + 6) (by decide) (by decide) (by decide) (by decide), u (0 + 7) (by decide) (by decide) (by decide) (by decide), way_cg (R' := rmR R 7 10 13 k) (R := R) (q := 254 + 4 * l) (fun m _ => lo _ (by omega) (by omega)), lo (254 + 4 * l + 3) (by omega) (by omega)]
        exact p8 l hl
  · have lo : ∀ j, j ≠ 8 → (j < 218 ∨ 254 ≤ j) → rmR R 8 218 3 k j = R j := fun j h h2 => rmR_out h (by omega)
    obtain ⟨A, a1, a2, a3⟩ := C_close (M := M) (a := 0 + 5) (n := 12) (k := k) (by omega) (by decide)
    have e2 : A 0 3 = nI (R 8) := by rw [a2 0 (by decide)]; exact p3
    refine ⟨upM A 0 3 (nI (R 8 - 1)), ?_, fun a ha => by rw [upM_row (by omega), a2 a (by omega)], ?_⟩
    · rw [if_neg (show ¬ nI 1 = 0 by decide), if_pos (show nI 1 = 1 from rfl), a1, bnd_some, e2, j1, pk_sub (by omega), lt1_eq]
    · have u : ∀ a, a ≠ 0 → a ≠ 5 → upM A 0 3 (nI (R 8 - 1)) a = M a := fun a h0 h1 => by rw [upM_row h0, a2 a h1]
      have u0 : ∀ b, b ≠ 3 → upM A 0 3 (nI (R 8 - 1)) 0 b = M 0 b := fun b hb => by rw [upM_ne (fun _ => hb), a2 0 (by decide)]
      refine ⟨?_, ?_, ?_, ?_, ?_, fun i hi => ?_, fun l hl => ?_, fun l hl => ?_, fun l hl => ?_⟩
      · rw [u0 0 (by decide), lo 0 (by decide) (by decide)]; exact p0
      · rw [u0 1 (by decide), lo 6 (by decide) (by decide)]; exact p1
      · rw [u0 2 (by decide), lo 7 (by decide) (by decide)]; exact p2
      · rw [upM_eq, rmR_c]
      · rw [u0 4 (by decide), lo 9 (by decide) (by decide)]; exact p4
      · rw [u (0 + 1) (by decide) (by decide), lo (1 + i) (by omega) (by omega)]; exact p5 i hi
      · rw [lo 7 (by decide) (by decide)] at hl
        obtain ⟨q1, q2, q3⟩ := p6 l hl
        rw [u (0 + 2) (by decide) (by decide), u (0 + 3) (by decide) (by decide), u (0 + 4) (by decide) (by decide), way_cg (R' := rmR R 8 218 3 k) (R := R) (q := 10 + 13 * l) (fun m _ => lo _ (by omega) (by omega)), lo (10 + 13 * l + 3) (by omega) (by omega), lo (10 + 13 * l + 4) (by omega) (by omega)]
        refine ⟨q1, q2, q3.congr (fun i hi => ?_)⟩
        have h8 := q3.le
        rw [lo _ (by omega) (by omega)]
      · rw [rmR_c] at hl
        rw [upM_row (by decide), a3 l (by omega), way_mv (R' := rmR R 8 218 3 k) (R := R) (q := 218 + 3 * sk k l) (q' := 218 + 3 * l) (fun m hm => rm8 hl hm)]
        exact p7 _ (sk_lt (k := k) hl)
      · rw [lo 9 (by decide) (by decide)] at hl
        rw [u (0 + 6) (by decide) (by decide), u (0 + 7) (by decide) (by decide), way_cg (R' := rmR R 8 218 3 k) (R := R) (q := 254 + 4 * l) (fun m _ => lo _ (by omega) (by omega)), lo (254 + 4 * l + 3) (by omega) (by omega)]
        exact p8 l hl
  · have lo : ∀ j, j ≠ 9 → j < 254 → rmR R 9 254 4 k j = R j := fun j h h2 => rmR_out h (by omega)
    obtain ⟨A, a1, a2, a3⟩ := C_close (M := M) (a := 0 + 6) (n := 12) (k := k) (by omega) (by decide)
    obtain ⟨B, b1, b2, b3⟩ := C_close (M := A) (a := 0 + 7) (n := 12) (k := k) (by omega) (by decide)
    have r : ∀ a, a ≠ 6 → a ≠ 7 → B a = M a := fun a h1 h2 => by rw [b2 a h2, a2 a h1]
    have e2 : B 0 4 = nI (R 9) := by rw [r 0 (by decide) (by decide)]; exact p4
    refine ⟨upM B 0 4 (nI (R 9 - 1)), ?_, fun a ha => by rw [upM_row (by omega), r a (by omega) (by omega)], ?_⟩
    · rw [if_neg (show ¬ nI 2 = 0 by decide), if_neg (show ¬ nI 2 = 1 by decide), if_pos (show nI 2 = 2 from rfl), a1, bnd_some, b1, bnd_some, e2, j1, pk_sub (by omega), lt1_eq]
    · have u : ∀ a, a ≠ 0 → a ≠ 6 → a ≠ 7 → upM B 0 4 (nI (R 9 - 1)) a = M a := fun a h0 h1 h2 => by rw [upM_row h0, r a h1 h2]
      have u0 : ∀ b, b ≠ 4 → upM B 0 4 (nI (R 9 - 1)) 0 b = M 0 b := fun b hb => by rw [upM_ne (fun _ => hb), r 0 (by decide) (by decide)]
      refine ⟨?_, ?_, ?_, ?_, ?_, fun i hi => ?_, fun l hl => ?_, fun l hl => ?_, fun l hl => ?_⟩
      · rw [u0 0 (by decide), lo 0 (by decide) (by decide)]; exact p0
      · rw [u0 1 (by decide), lo 6 (by decide) (by decide)]; exact p1
      · rw [u0 2 (by decide), lo 7 (by decide) (by decide)]; exact p2
      · rw [u0 3 (by decide), lo 8 (by decide) (by decide)]; exact p3
      · rw [upM_eq, rmR_c]
      · rw [u (0 + 1) (by decide) (by decide) (by decide), lo (1 + i) (by omega) (by omega)]; exact p5 i hi
      · rw [lo 7 (by decide) (by decide)] at hl
        obtain ⟨q1, q2, q3⟩ := p6 l hl
        rw [u (0 + 2) (by decide) (by decide) (by decide), u (0 + 3) (by decide) (by decide) (by decide), u (0 + 4) (by decide) (by decide) (by decide), way_cg (R' := rmR R 9 254 4 k) (R := R) (q := 10 + 13 * l) (fun m _ => lo _ (by omega) (by omega)), lo (10 + 13 * l + 3) (by omega) (by omega), lo (10 + 13 * l + 4) (by omega) (by omega)]
        refine ⟨q1, q2, q3.congr (fun i hi => ?_)⟩
        have h8 := q3.le
        rw [lo _ (by omega) (by omega)]
      · rw [lo 8 (by decide) (by decide)] at hl
        rw [u (0 + 5) (by decide) (by decide) (by decide), way_cg (R' := rmR R 9 254 4 k) (R := R) (q := 218 + 3 * l) (fun m _ => lo _ (by omega) (by omega))]
        exact p7 l hl
      · rw [rmR_c] at hl
        rw [upM_row (by decide), upM_row (by decide), b2 (0 + 6) (by decide), a3 l (by omega), b3 l (by omega), a2 (0 + 7) (by decide), way_mv (R' := rmR R 9 254 4 k) (R := R) (q := 254 + 4 * sk k l) (q' := 254 + 4 * l) (fun m hm => rm9 hl (by omega)), rm9 hl (by decide)]
        exact p8 _ (sk_lt (k := k) hl)
theorem a_drop {Mc Mm : Mem} (h : Rel Mc Mm) (x1 x2 : Int32) : Act (f_MC_drop Mc x1 x2) (f_MM_drop Mm x1 x2) := by
  have hrel := h
  obtain ⟨⟨R, hP0⟩, -⟩ := h
  have hP0' := hP0
  obtain ⟨hV, hP, hM, hC, h28, hk⟩ := hP0'
  have v7 := hV.2.2.2.2.2.2.2.2.1
  have v8 := hV.2.2.2.2.2.2.2.2.2.1
  have v9 := hV.2.2.2.2.2.2.2.2.2.2.1
  have e0 : (0 : Int32).toInt = 0 := rfl
  have lo : ∀ {n : Nat}, n < 2 ^ 31 → ∀ {α : Type} {a b : α}, (if x2 < 0 then a else if x2 < nI n then b else a) = if inB x2 n = true then b else a := by
    intro n hn α a b
    unfold inB
    by_cases z : x2 < 0
    · rw [if_pos z, if_neg]
      rw [Int32.lt_iff_toInt_lt] at z
      rw [decide_eq_false (by omega), Bool.false_and]
      decide
    · rw [if_neg z]
      rw [Int32.lt_iff_toInt_lt] at z
      by_cases y : x2 < nI n
      · rw [if_pos y, if_pos]
        rw [Int32.lt_iff_toInt_lt, nI_toInt hn] at y
        rw [decide_eq_true (by omega), decide_eq_true (by omega)]
        rfl
      · rw [if_neg y, if_neg]
        rw [Int32.lt_iff_toInt_lt, nI_toInt hn] at y
        rw [decide_eq_false (show ¬ x2.toInt < (n : Int) by omega), Bool.and_false]
        decide
  have sz : ∀ (M : Mem) (R' : Nat → Nat), PC R' M 0 → f_Play_sizeOf 0 M (nI 0) = nI (R' 7) ∧ f_Play_sizeOf 0 M (nI 1) = nI (R' 8) ∧ f_Play_sizeOf 0 M (nI 2) = nI (R' 9) := fun M R' hp => ⟨hp.2.2.1, hp.2.2.2.1, hp.2.2.2.2.1⟩
  unfold f_MC_drop f_MM_drop
  rw [M_inB x1 3 2 (by decide)]
  rcases inB_cases x1 3 with w | ⟨kd, hkd, -, rfl, w⟩
  · have ne : ∀ j, j < 3 → x1 ≠ nI j := fun j hj z => by
      rw [z, inB_nI (by omega), decide_eq_true hj] at w
      cases w
    have : f_Play_sizeOf 0 Mc x1 = 0 := by
      unfold f_Play_sizeOf
      rw [if_neg (show ¬ x1 = (0 : Int32) from ne 0 (by decide)), if_neg (show ¬ x1 = (1 : Int32) from ne 1 (by decide)), if_neg (show ¬ x1 = (2 : Int32) from ne 2 (by decide))]
    rw [w, gF, this]
    refine Act.no (v := -1) hrel ?_ rfl
    by_cases y : x2 < 0
    · rw [if_pos y]
    · rw [if_neg y, if_neg y]
  · obtain ⟨ci, pl, wd, hcase⟩ : ∃ ci pl wd, (kd = 0 ∧ ci = 7 ∧ pl = 10 ∧ wd = 13) ∨ (kd = 1 ∧ ci = 8 ∧ pl = 218 ∧ wd = 3) ∨ (kd = 2 ∧ ci = 9 ∧ pl = 254 ∧ wd = 4) := by
      rcases (show kd = 0 ∨ kd = 1 ∨ kd = 2 by omega) with rfl | rfl | rfl
      · exact ⟨7, 10, 13, by omega⟩
      · exact ⟨8, 218, 3, by omega⟩
      · exact ⟨9, 254, 4, by omega⟩
    have h7 : (7 : Int32) + nI kd = nI ci := by
      rcases hcase with ⟨rfl, rfl, -⟩ | ⟨rfl, rfl, -⟩ | ⟨rfl, rfl, -⟩ <;> rfl
    have hpl : f_MM_placeOf (nI kd) = nI pl ∧ f_MM_wideOf (nI kd) = nI wd := by
      rcases hcase with ⟨rfl, -, rfl, rfl⟩ | ⟨rfl, -, rfl, rfl⟩ | ⟨rfl, -, rfl, rfl⟩ <;> exact ⟨rfl, rfl⟩
    have hci : ci < 10 ∧ ci < pl ∧ R ci ≤ 16 ∧ pl + wd * R ci ≤ 302 := by
      rcases hcase with ⟨-, rfl, rfl, rfl⟩ | ⟨-, rfl, rfl, rfl⟩ | ⟨-, rfl, rfl, rfl⟩ <;> omega
    have hsz : ∀ (M : Mem) (R' : Nat → Nat), PC R' M 0 → f_Play_sizeOf 0 M (nI kd) = nI (R' ci) := fun M R' hp => by
      obtain ⟨s1, s2, s3⟩ := sz M R' hp
      rcases hcase with ⟨rfl, rfl, -⟩ | ⟨rfl, rfl, -⟩ | ⟨rfl, rfl, -⟩ <;> assumption
    have hkd' : kdOK R ci pl wd := by
      rcases hcase with ⟨-, a, b, c⟩ | ⟨-, a, b, c⟩ | ⟨-, a, b, c⟩
      · exact Or.inl ⟨a, b, c⟩
      · exact Or.inr (Or.inl ⟨a, b, c⟩)
      · exact Or.inr (Or.inr ⟨a, b, c⟩)
    have m1 : Mm 1 ci = nI (R ci) := hM.1 ci hci.1
    rw [w, gT, h7, gIn_nI (show ci < 302 by omega) (by decide), nI_clamp (show ci < 2 ^ 31 by omega), m1, M_inB x2 (R ci) _ (nI_pre64 _ (by omega)), hsz Mc R hP, lo (by omega)]
    rcases inB_cases x2 (R ci) with w2 | ⟨k, hk2, -, rfl, w2⟩
    · rw [w2]
      exact Act.no hrel rfl rfl
    · obtain ⟨Mc1, Mm1, r1, r2, r3, r4, r5, r6⟩ := act_fin (R' := rmR R ci pl wd k) hrel hP0
      have hP1 : PC R Mc1 0 := hP.cg (fun a _ q => r3 a (by omega))
      obtain ⟨A, a1, a2, a3⟩ := C_rm hV hP1 hcase hk2
      obtain ⟨B, b1, b2, b3, b4, b5⟩ := M_takesOut (M := Mm1) (kd := nI kd) (ci := ci) (pl := pl) (wd := wd) (cnt := R ci) (k := k) h7 hpl.1 hpl.2 (by rw [r4]; exact m1) hci.2.1 hk2 hci.2.2.2
      have hM' : PM (rmR R ci pl wd k) (B 1) := rmR_PM hV hkd' hk2 hM b3 (fun j h1 h2 => by rw [b4 j h1 h2, r4]) (fun j h1 h2 => by rw [b5 j h1 h2, r4])
      obtain ⟨Mc3, q1, q2, q3⟩ := r6 A B (fun a ha => a2 a ha) (fun a ha _ => b2 a ha) (rmR_PV hV hkd' hk2) a3 hM'
      refine ⟨nI (R ci - 1), Mc3, B, ?_, ?_, q2⟩
      · have hP3 : PC (rmR R ci pl wd k) Mc3 0 := a3.cg (fun a _ q => q3 a (by omega))
        rw [w2, if_pos rfl, r1, bnd_some, a1, bnd_some, q1, bnd_some, hsz Mc3 _ hP3, rmR_c]
      · rw [w2, gT, r2, bnd_some, b1, bnd_some, b3]
