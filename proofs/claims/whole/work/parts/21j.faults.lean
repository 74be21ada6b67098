theorem among8 {M : Mem} {a c W : Nat} (hc : c ≤ 12) (h : ∀ l, l < c → ∃ W, W < 2 ^ 31 ∧ M a l = nI W) (hW : W < 2 ^ 31) : ∃ b, f_Play_isAmong a 12 M (nI c) (nI W) = some b :=
  ⟨_, C_among (W := fun l => (M a l).toNatClampNeg) hc (fun l hl => by
    obtain ⟨V, v1, v2⟩ := h l hl
    rw [v2, nI_clamp v1]
    exact ⟨rfl, v1⟩) hW⟩
theorem CF.om {tl : Nat} {B : Nat → Nat} {w W : Nat} {M : Mem} (h : CF tl B w M) (hW : W < 2 ^ 31) : ∃ b, f_Play_isOmitted 8 M (nI W) = some b := by
  obtain ⟨-, -, -, n, c2, c3, c4, p0, p1, p2, p3, p4, p5, p6, p7, p8, p9, p10⟩ := h
  obtain ⟨b, hb⟩ := among8 (a := 8 + 5) p6 p7 hW
  refine ⟨b, ?_⟩
  unfold f_Play_isOmitted
  rw [bnd_id, p5, hb]
theorem CF.lt {tl : Nat} {B : Nat → Nat} {w W : Nat} {M : Mem} (h : CF tl B w M) (hW : W < 2 ^ 31) : ∃ b, f_Play_isLate 8 M (nI W) = some b := by
  obtain ⟨-, -, -, n, c2, c3, c4, p0, p1, p2, p3, p4, p5, p6, p7, p8, p9, p10⟩ := h
  obtain ⟨b, hb⟩ := among8 (a := 8 + 6) p9 p10 hW
  refine ⟨b, ?_⟩
  unfold f_Play_isLate
  rw [bnd_id, p8, hb]
theorem addOmit8 {M : Mem} {n : Nat} {x : Int32} (h : M 8 3 = nI n) (hn : n < 12) : f_Play_addOmit 8 M x = some (upM (upM M 13 n x) 8 3 (nI (n + 1))) := by
  unfold f_Play_addOmit
  rw [h, show (12 : Int32) = nI 12 from rfl, if_neg (nI_ge hn (by decide)), gIn_nI (by omega) (by decide), lt1_eq, nI_clamp (by omega), upM_row (a := 8) (by decide), h, lt1_eq, ← nI_succ]
theorem addLate8 {M : Mem} {n : Nat} {x y : Int32} (h : M 8 4 = nI n) (hn : n < 12) : f_Play_addLate 8 M x y = some (upM (upM (upM M 14 n x) 15 n y) 8 4 (nI (n + 1))) := by
  unfold f_Play_addLate
  rw [h, show (12 : Int32) = nI 12 from rfl, if_neg (nI_ge hn (by decide)), gIn_nI (by omega) (by decide), lt1_eq, nI_clamp (by omega), upM_row (a := 8) (by decide), h, gIn_nI (by omega) (by decide), lt1_eq, nI_clamp (by omega), upM_row (a := 8) (by decide), upM_row (a := 8) (by decide), h, lt1_eq, ← nI_succ]
theorem CF.putO {tl : Nat} {B : Nat → Nat} {w W : Nat} {M : Mem} (h : CF tl B w M) (hW : W < 2 ^ 31) : ∃ M', f_Play_addOmit 8 M (nI W) = some M' ∧ CF tl B w M' ∧ CT M M' := by
  have h0 := h
  obtain ⟨⟨i, h1⟩, h2, h3, n, c2, c3, c4, p0, p1, p2, p3, p4, p5, p6, p7, p8, p9, p10⟩ := h
  by_cases z : c3 < 12
  · refine ⟨_, addOmit8 p5 z, ⟨⟨i, h1.cg (fun a ha => ?_)⟩, h2, h3, n, c2, c3 + 1, c4, ?_, p1, p2, ?_, p4, upM_eq, by omega, fun l hl => ?_, ?_, p9, fun l hl => ?_⟩, fun a h4 h5 => ?_⟩
    · rw [upM_row (by omega), upM_row (by omega)]
    · rw [upM_ne (by omega), upM_row (by decide)]; exact p0
    · rw [upM_ne (by omega), upM_row (by decide)]; exact p3
    · rw [upM_row (by decide)]
      by_cases e : l = c3
      · subst e; exact ⟨W, hW, upM_eq⟩
      · rw [upM_ne (fun _ => e)]; exact p7 l (by omega)
    · rw [upM_ne (by omega), upM_row (by decide)]; exact p8
    · rw [upM_row (by decide), upM_row (by decide)]; exact p10 l hl
    · rw [upM_row (by omega), upM_row (by omega)]
  · refine ⟨M, ?_, h0, CT.rf⟩
    unfold f_Play_addOmit
    rw [p5, show (12 : Int32) = nI 12 from rfl, if_pos ((nI_leI (by decide) (by omega)).mpr (by omega))]
theorem CF.putL {tl : Nat} {B : Nat → Nat} {w W : Nat} {M : Mem} (h : CF tl B w M) (hW : W < 2 ^ 31) (y : Int32) : ∃ M', f_Play_addLate 8 M (nI W) y = some M' ∧ CF tl B w M' ∧ CT M M' := by
  have h0 := h
  obtain ⟨⟨i, h1⟩, h2, h3, n, c2, c3, c4, p0, p1, p2, p3, p4, p5, p6, p7, p8, p9, p10⟩ := h
  by_cases z : c4 < 12
  · refine ⟨_, addLate8 p8 z, ⟨⟨i, h1.cg (fun a ha => ?_)⟩, h2, h3, n, c2, c3, c4 + 1, ?_, p1, p2, ?_, p4, ?_, p6, fun l hl => ?_, upM_eq, by omega, fun l hl => ?_⟩, fun a h4 h5 => ?_⟩
    · rw [upM_row (by omega), upM_row (by omega), upM_row (by omega)]
    · rw [upM_ne (by omega), upM_row (by decide), upM_row (by decide)]; exact p0
    · rw [upM_ne (by omega), upM_row (by decide), upM_row (by decide)]; exact p3
    · rw [upM_ne (by omega), upM_row (by decide), upM_row (by decide)]; exact p5
    · rw [upM_row (by decide), upM_row (by decide), upM_row (by decide)]; exact p7 l hl
    · rw [upM_row (by decide), upM_row (by decide)]
      by_cases e : l = c4
      · subst e; exact ⟨W, hW, upM_eq⟩
      · rw [upM_ne (fun _ => e)]; exact p10 l (by omega)
    · rw [upM_row (by omega), upM_row (by omega), upM_row (by omega)]
  · refine ⟨M, ?_, h0, CT.rf⟩
    unfold f_Play_addLate
    rw [p8, show (12 : Int32) = nI 12 from rfl, if_pos ((nI_leI (by decide) (by omega)).mpr (by omega))]
theorem CF.rdO {tl : Nat} {B : Nat → Nat} (ht : tl ≤ 400) (hB : ∀ j, j < tl → B j < 256) {w : Nat} {M : Mem} (h : CF tl B w M) : ∃ M', f_Tape_readOmit_J21 M = some M' ∧ CF tl B w M' ∧ CT M M' := by
  obtain ⟨W, M1, a1, a2, a3, a4⟩ := h.route ht hB
  obtain ⟨b, b1⟩ := a3.om a2
  obtain ⟨M2, c1, c2, c3⟩ := a3.putO a2
  refine ⟨M2, ?_, c2, (CT.of a4).tr c3⟩
  unfold f_Tape_readOmit_J21 f_Tape_readOmit_J46
  rw [a1, bnd2_some, b1, bnd_some, a3.bl, bnd_some, c1, bnd_some]
  split <;> rfl
theorem CF.rdL {tl : Nat} {B : Nat → Nat} (ht : tl ≤ 400) (hB : ∀ j, j < tl → B j < 256) {w : Nat} {M : Mem} (h : CF tl B w M) : ∃ M', f_Tape_readLate_J21 M = some M' ∧ CF tl B w M' ∧ CT M M' := by
  obtain ⟨W, M1, a1, a2, a3, a4⟩ := h.route ht hB
  obtain ⟨b, b1⟩ := a3.lt a2
  obtain ⟨v, M2, d1, d2, d3, d4, d5⟩ := a3.num ht hB (lo := 1) (hi := 7) (by omega) (by omega)
  obtain ⟨M3, c1, c2, c3⟩ := d4.putL a2 (nI v)
  refine ⟨M3, ?_, c2, (CT.of (fun a ha => (d5 a ha).trans (a4 a ha))).tr c3⟩
  unfold f_Tape_readLate_J21 f_Tape_readLate_J46
  rw [a1, bnd2_some, b1, bnd_some, a3.bl, bnd_some, show f_Tape_readNumber M1 1 7 = some (nI v, M2) from d1, bnd2_some, c1, bnd_some]
  split <;> rfl
/-- is a way there twice? (the reference) -/
theorem M_tw1 {tl : Nat} {B : Nat → Nat} {i c r f t s : Nat} {S : Nat → Nat} {N N' : Mem} (h : TM tl B i 0 N) (hc : c < 12) (hr : r < 100) (hf : f < 100) (hT : t < 100) (h5 : ∀ l m, l < c → m < 3 → S (218 + 3 * l + m) < 100 ∧ N 2 (218 + 3 * l + m) = nI (S (218 + 3 * l + m))) (q0 : N 2 (218 + 3 * c) = nI r) (q1 : N 2 (218 + 3 * c + 1) = nI f) (q2 : N 2 (218 + 3 * c + 2) = nI t) (h11 : N 0 11 = nI s) (hfl : f_MM_fails N 4 (nI s) = some N') (hN' : ∃ w i', w ≠ 0 ∧ w < 4000 ∧ TM tl B i' w N') (hrow : ∀ a, a ≠ 0 → N' a = N a) : f_MM_readsFault_W40 (nI 3) (nI (218 + 3 * c)) (nI 218, N) = some (if anyB (fun l => isW S (218 + 3 * l) r f t) c = true then N' else N) := by
  obtain ⟨w', i', w0, w4, hTN⟩ := hN'
  unfold f_MM_readsFault_W40
  suffices hh : ∃ r', loop (fun t => f_MM_readsFault_L40 (nI 3) (nI (218 + 3 * c)) t.1 t.2) ((fun (j : Nat) (s : Bool) => (nI (218 + 3 * j), if s = true then N' else N)) 0 false) = some r' ∧ r' = (if anyB (fun l => isW S (218 + 3 * l) r f t) c = true then N' else N) by
    obtain ⟨r', e1, e2⟩ := hh
    rw [← e2]
    exact e1
  refine loop_enc (fun j s => (nI (218 + 3 * j), if s = true then N' else N)) c (fun j s => (s = true → ∃ m, m < j ∧ isW S (218 + 3 * m) r f t = true) ∧ (s = false → ∀ m, m < j → isW S (218 + 3 * m) r f t = false)) _ ?_ ?_ 0 false (Nat.zero_le _) ⟨fun z => (by cases z), fun _ m hm => absurd hm (Nat.not_lt_zero m)⟩
  · rintro j b hj ⟨g1, g2⟩
    cases b with
    | true =>
      right
      refine ⟨N', ?_, ?_⟩
      · show f_MM_readsFault_L40 (nI 3) (nI (218 + 3 * c)) (nI (218 + 3 * j)) N' = _
        unfold f_MM_readsFault_L40
        rw [if_neg (nI_ge (by omega) (by omega)), isR_iff hTN.2.1 w4, decide_eq_false w0, gF]
      · obtain ⟨m, m1, m2⟩ := g1 rfl
        rw [if_pos (anyB_iff.mpr ⟨m, by omega, m2⟩)]
    | false =>
      left
      obtain ⟨u0, u0'⟩ := h5 j 0 hj (by decide)
      obtain ⟨u1, u1'⟩ := h5 j 1 hj (by decide)
      obtain ⟨u2, u2'⟩ := h5 j 2 hj (by decide)
      rw [Nat.add_zero] at u0 u0'
      have st : f_MM_readsFault_L40 (nI 3) (nI (218 + 3 * c)) (nI (218 + 3 * j)) N = some (.inl (nI (218 + 3 * (j + 1)), if isW S (218 + 3 * j) r f t = true then N' else N)) := by
        unfold f_MM_readsFault_L40 f_MM_readsFault_J122
        rw [if_neg (nI_ge (by omega) (by omega)), isR_iff h.2.1 (by decide), decide_eq_true rfl, gT, j1, j2, nI_add, nI_add, nI_add, nI_add, gIn_nI (by omega) (by decide), gIn_nI (by omega) (by decide), gIn_nI (by omega) (by decide), gIn_nI (by omega) (by decide), gIn_nI (by omega) (by decide), gIn_nI (by omega) (by decide), nI_clamp (show 218 + 3 * j < 2 ^ 31 by omega), nI_clamp (show 218 + 3 * j + 1 < 2 ^ 31 by omega), nI_clamp (show 218 + 3 * j + 2 < 2 ^ 31 by omega), nI_clamp (show 218 + 3 * c < 2 ^ 31 by omega), nI_clamp (show 218 + 3 * c + 1 < 2 ^ 31 by omega), nI_clamp (show 218 + 3 * c + 2 < 2 ^ 31 by omega), u0', u1', u2', q0, q1, q2, h11, hfl, bnd_some, nI_add, show 218 + 3 * j + 3 = 218 + 3 * (j + 1) by omega]
        by_cases e0 : S (218 + 3 * j) = r
        · rw [if_pos (by rw [e0])]
          by_cases e1 : S (218 + 3 * j + 1) = f
          · rw [if_pos (by rw [e1])]
            by_cases e2 : S (218 + 3 * j + 2) = t
            · rw [if_pos (by rw [e2]), if_pos (isW_iff.mpr ⟨e0, e1, e2⟩)]
            · rw [if_neg (fun z => e2 ((nI_eq (by omega) (by omega)).mp z)), if_neg (fun z => e2 (isW_iff.mp z).2.2)]
          · rw [if_neg (fun z => e1 ((nI_eq (by omega) (by omega)).mp z)), if_neg (fun z => e1 (isW_iff.mp z).2.1)]
        · rw [if_neg (fun z => e0 ((nI_eq (by omega) (by omega)).mp z)), if_neg (fun z => e0 (isW_iff.mp z).1)]
      refine ⟨isW S (218 + 3 * j) r f t, st, fun z => ⟨j, by omega, z⟩, fun z m hm => ?_⟩
      by_cases e2 : m = j
      · rw [e2]; exact z
      · exact g2 rfl m (by omega)
  · rintro b ⟨g1, g2⟩
    have ex : ∀ X : Mem, f_MM_readsFault_L40 (nI 3) (nI (218 + 3 * c)) (nI (218 + 3 * c)) X = some (.inr X) := fun X => by
      unfold f_MM_readsFault_L40
      rw [if_pos ((nI_leI (by omega) (by omega)).mpr (Nat.le_refl _))]
    cases b with
    | true =>
      refine ⟨N', ex N', ?_⟩
      obtain ⟨m, m1, m2⟩ := g1 rfl
      rw [if_pos (anyB_iff.mpr ⟨m, m1, m2⟩)]
    | false =>
      refine ⟨N, ex N, ?_⟩
      rw [if_neg (fun z => ?_)]
      obtain ⟨m, m1, m2⟩ := anyB_iff.mp z
      rw [g2 rfl m m1] at m2
      cases m2
theorem M_tw1_f {tl : Nat} {B : Nat → Nat} {i w c : Nat} {N : Mem} (h : TM tl B i w N) (h0 : w ≠ 0) (hw : w < 4000) (hc : c < 12) : f_MM_readsFault_W40 (nI 3) (nI (218 + 3 * c)) (nI 218, N) = some N := by
  unfold f_MM_readsFault_W40
  refine loop_inr ?_
  show f_MM_readsFault_L40 (nI 3) (nI (218 + 3 * c)) (nI 218) N = _
  unfold f_MM_readsFault_L40
  rw [isR_iff h.2.1 hw, decide_eq_false h0, gF]
  split <;> rfl
/-- is a way there twice? (the reference) -/
theorem M_tw2 {tl : Nat} {B : Nat → Nat} {i c r f t s : Nat} {S : Nat → Nat} {N N' : Mem} (h : TM tl B i 0 N) (hc : c < 12) (hr : r < 100) (hf : f < 100) (hT : t < 100) (h5 : ∀ l m, l < c → m < 3 → S (254 + 4 * l + m) < 100 ∧ N 2 (254 + 4 * l + m) = nI (S (254 + 4 * l + m))) (q0 : N 2 (254 + 4 * c) = nI r) (q1 : N 2 (254 + 4 * c + 1) = nI f) (q2 : N 2 (254 + 4 * c + 2) = nI t) (h11 : N 0 11 = nI s) (hfl : f_MM_fails N 4 (nI s) = some N') (hN' : ∃ w i', w ≠ 0 ∧ w < 4000 ∧ TM tl B i' w N') (hrow : ∀ a, a ≠ 0 → N' a = N a) : f_MM_readsFault_W40 (nI 4) (nI (254 + 4 * c)) (nI 254, N) = some (if anyB (fun l => isW S (254 + 4 * l) r f t) c = true then N' else N) := by
  obtain ⟨w', i', w0, w4, hTN⟩ := hN'
  unfold f_MM_readsFault_W40
  suffices hh : ∃ r', loop (fun t => f_MM_readsFault_L40 (nI 4) (nI (254 + 4 * c)) t.1 t.2) ((fun (j : Nat) (s : Bool) => (nI (254 + 4 * j), if s = true then N' else N)) 0 false) = some r' ∧ r' = (if anyB (fun l => isW S (254 + 4 * l) r f t) c = true then N' else N) by
    obtain ⟨r', e1, e2⟩ := hh
    rw [← e2]
    exact e1
  refine loop_enc (fun j s => (nI (254 + 4 * j), if s = true then N' else N)) c (fun j s => (s = true → ∃ m, m < j ∧ isW S (254 + 4 * m) r f t = true) ∧ (s = false → ∀ m, m < j → isW S (254 + 4 * m) r f t = false)) _ ?_ ?_ 0 false (Nat.zero_le _) ⟨fun z => (by cases z), fun _ m hm => absurd hm (Nat.not_lt_zero m)⟩
  · rintro j b hj ⟨g1, g2⟩
    cases b with
    | true =>
      right
      refine ⟨N', ?_, ?_⟩
      · show f_MM_readsFault_L40 (nI 4) (nI (254 + 4 * c)) (nI (254 + 4 * j)) N' = _
        unfold f_MM_readsFault_L40
        rw [if_neg (nI_ge (by omega) (by omega)), isR_iff hTN.2.1 w4, decide_eq_false w0, gF]
      · obtain ⟨m, m1, m2⟩ := g1 rfl
        rw [if_pos (anyB_iff.mpr ⟨m, by omega, m2⟩)]
    | false =>
      left
      obtain ⟨u0, u0'⟩ := h5 j 0 hj (by decide)
      obtain ⟨u1, u1'⟩ := h5 j 1 hj (by decide)
      obtain ⟨u2, u2'⟩ := h5 j 2 hj (by decide)
      rw [Nat.add_zero] at u0 u0'
      have st : f_MM_readsFault_L40 (nI 4) (nI (254 + 4 * c)) (nI (254 + 4 * j)) N = some (.inl (nI (254 + 4 * (j + 1)), if isW S (254 + 4 * j) r f t = true then N' else N)) := by
        unfold f_MM_readsFault_L40 f_MM_readsFault_J122
        rw [if_neg (nI_ge (by omega) (by omega)), isR_iff h.2.1 (by decide), decide_eq_true rfl, gT, j1, j2, nI_add, nI_add, nI_add, nI_add, gIn_nI (by omega) (by decide), gIn_nI (by omega) (by decide), gIn_nI (by omega) (by decide), gIn_nI (by omega) (by decide), gIn_nI (by omega) (by decide), gIn_nI (by omega) (by decide), nI_clamp (show 254 + 4 * j < 2 ^ 31 by omega), nI_clamp (show 254 + 4 * j + 1 < 2 ^ 31 by omega), nI_clamp (show 254 + 4 * j + 2 < 2 ^ 31 by omega), nI_clamp (show 254 + 4 * c < 2 ^ 31 by omega), nI_clamp (show 254 + 4 * c + 1 < 2 ^ 31 by omega), nI_clamp (show 254 + 4 * c + 2 < 2 ^ 31 by omega), u0', u1', u2', q0, q1, q2, h11, hfl, bnd_some, nI_add, show 254 + 4 * j + 4 = 254 + 4 * (j + 1) by omega]
        by_cases e0 : S (254 + 4 * j) = r
        · rw [if_pos (by rw [e0])]
          by_cases e1 : S (254 + 4 * j + 1) = f
          · rw [if_pos (by rw [e1])]
            by_cases e2 : S (254 + 4 * j + 2) = t
            · rw [if_pos (by rw [e2]), if_pos (isW_iff.mpr ⟨e0, e1, e2⟩)]
            · rw [if_neg (fun z => e2 ((nI_eq (by omega) (by omega)).mp z)), if_neg (fun z => e2 (isW_iff.mp z).2.2)]
          · rw [if_neg (fun z => e1 ((nI_eq (by omega) (by omega)).mp z)), if_neg (fun z => e1 (isW_iff.mp z).2.1)]
        · rw [if_neg (fun z => e0 ((nI_eq (by omega) (by omega)).mp z)), if_neg (fun z => e0 (isW_iff.mp z).1)]
      refine ⟨isW S (254 + 4 * j) r f t, st, fun z => ⟨j, by omega, z⟩, fun z m hm => ?_⟩
      by_cases e2 : m = j
      · rw [e2]; exact z
      · exact g2 rfl m (by omega)
  · rintro b ⟨g1, g2⟩
    have ex : ∀ X : Mem, f_MM_readsFault_L40 (nI 4) (nI (254 + 4 * c)) (nI (254 + 4 * c)) X = some (.inr X) := fun X => by
      unfold f_MM_readsFault_L40
      rw [if_pos ((nI_leI (by omega) (by omega)).mpr (Nat.le_refl _))]
    cases b with
    | true =>
      refine ⟨N', ex N', ?_⟩
      obtain ⟨m, m1, m2⟩ := g1 rfl
      rw [if_pos (anyB_iff.mpr ⟨m, m1, m2⟩)]
    | false =>
      refine ⟨N, ex N, ?_⟩
      rw [if_neg (fun z => ?_)]
      obtain ⟨m, m1, m2⟩ := anyB_iff.mp z
      rw [g2 rfl m m1] at m2
      cases m2
theorem M_tw2_f {tl : Nat} {B : Nat → Nat} {i w c : Nat} {N : Mem} (h : TM tl B i w N) (h0 : w ≠ 0) (hw : w < 4000) (hc : c < 12) : f_MM_readsFault_W40 (nI 4) (nI (254 + 4 * c)) (nI 254, N) = some N := by
  unfold f_MM_readsFault_W40
  refine loop_inr ?_
  show f_MM_readsFault_L40 (nI 4) (nI (254 + 4 * c)) (nI 254) N = _
  unfold f_MM_readsFault_L40
  rw [isR_iff h.2.1 hw, decide_eq_false h0, gF]
  split <;> rfl
