/-! the reference: the run, whole -/
/-- which letters the reference sets aside: behind the last round, or from no liar -/
def idB (R : Nat → Nat) (l : Nat) : Bool := decide (R 3 < plR R l 0) || !lie R (plR R l 1)
def orN (p : Nat → Bool) : Nat → Nat
  | 0 => 0
  | n + 1 => orN p n ||| (if p n = true then 2 ^ n else 0)
theorem orN_lt (p : Nat → Bool) : ∀ n, orN p n < 2 ^ n := by
  intro n
  induction n with
  | zero => exact (by decide : (0 : Nat) < 1)
  | succ n ih =>
    unfold orN
    have h1 : orN p n < 2 ^ (n + 1) := Nat.lt_trans ih (Nat.pow_lt_pow_right (by decide) (by omega))
    refine Nat.or_lt_two_pow h1 ?_
    split
    · exact Nat.pow_lt_pow_right (by decide) (by omega)
    · exact Nat.two_pow_pos _
theorem orN_bit (p : Nat → Bool) (i : Nat) : ∀ n, (orN p n).testBit i = (decide (i < n) && p i) := by
  intro n
  induction n with
  | zero => show Nat.testBit 0 i = _; rw [Nat.zero_testBit]; simp
  | succ n ih =>
    unfold orN
    rw [Nat.testBit_or, ih]
    by_cases e : i = n
    · subst e
      cases h : p i
      · rw [if_neg (by decide)]; simp
      · rw [if_pos rfl, Nat.testBit_two_pow_self]; simp
    · have e1 : (if p n = true then 2 ^ n else 0).testBit i = false := by
        split
        · rw [Nat.testBit_two_pow_of_ne (fun z => e z.symm)]
        · rw [Nat.zero_testBit]
      rw [e1, Bool.or_false]
      have : decide (i < n) = decide (i < n + 1) := by
        by_cases w : i < n
        · rw [decide_eq_true w, decide_eq_true (by omega)]
        · rw [decide_eq_false w, decide_eq_false (by omega)]
      rw [this]
theorem M_others {R x : Nat → Nat} {M : Mem} (hV : PV R) (hS : SM R x M) (h0 : M 0 26 = 0) : ∃ M', f_MM_runs_W125 ((0 : Int32), M) = some M' ∧ (∀ a b, (a = 0 → b ≠ 26) → M' a b = M a b) ∧ M' 0 26 = nI (orN (idB R) (R 7)) := by
  have hn := pv_n hV
  have h7 := hV.2.2.2.2.2.2.2.2.1
  have hR3 := hV.2.2.2.1
  have hok := plR_ok hV
  unfold f_MM_runs_W125
  refine loop_enc (fun i s => (nI i, s)) (R 7) (fun l N => (∀ a b, (a = 0 → b ≠ 26) → N a b = M a b) ∧ N 0 26 = nI (orN (idB R) l)) _ ?_ ?_ 0 M (Nat.zero_le _) ⟨fun _ _ _ => rfl, h0⟩
  · rintro l N hl ⟨h1, h2⟩
    left
    obtain ⟨p0, p0', p1, p2, p3, p4, p4', pm, pd⟩ := hok l hl
    have r1 : ∀ b, N 1 b = M 1 b := fun b => h1 1 b (by omega)
    have r1' : N 1 = M 1 := funext r1
    have hrow : ∀ i, i < 5 + plR R l 4 → N 1 (10 + 13 * l + i) = nI (plR R l i) := fun i hi => by rw [r1]; exact hS.1.2.1 l i hl hi
    have hr0 := hrow 0 (by omega)
    rw [Nat.add_zero] at hr0
    refine ⟨upM N 0 26 (nI (orN (idB R) (l + 1))), ?_, fun a b hab => (upM_ne hab).trans (h1 a b hab), upM_eq⟩
    have hor : orN (idB R) (l + 1) = orN (idB R) l ||| (if idB R l = true then 2 ^ l else 0) := rfl
    have J186 : ∀ s : Nat, f_MM_runs_J186 N (nI l) (nI s) (N 0 26) = some (.inl (nI (l + 1), upM N 0 26 (nI (orN (idB R) l ||| s)))) := fun s => by
      unfold f_MM_runs_J186
      rw [lt1_eq, h2, fa_or, ← nI_succ]
    have J179 : f_MM_runs_J179 N (nI l) (N 0 26) = some (.inl (nI (l + 1), upM N 0 26 (nI (orN (idB R) l ||| 2 ^ l)))) := by
      unfold f_MM_runs_J179
      rw [sh1 l (by omega), J186]
    show f_MM_runs_L125 (nI l) N = _
    unfold f_MM_runs_L125
    have h17 : N 1 7 = nI (R 7) := by rw [r1]; exact hS.1.1 7 (by decide)
    have h13 : N 1 3 = nI (R 3) := by rw [r1]; exact hS.1.1 3 (by decide)
    rw [h17, if_neg (nI_ge hl (by omega)), j10, j13, pk_mul, nI_add, gIn_nI (by omega) (by decide), nI_clamp (by omega), hr0, h13, hor]
    by_cases w : R 3 < plR R l 0
    · rw [if_pos (nI_lt w (by omega)), J179, if_pos (show idB R l = true by unfold idB; simp [w])]
    · rw [if_neg (nI_nlt (by omega) (by omega)), ← nI_succ, gIn_nI (by omega) (by decide), nI_clamp (by omega), hrow 1 (by omega), M_liar (x := x) (R := R) hV (by rw [r1']; exact hS.1) (by omega)]
      cases w3 : lie R (plR R l 1)
      · rw [if_pos (show bI false = 0 from rfl), J179, if_pos (show idB R l = true by unfold idB; simp [w3])]
      · rw [if_neg (show ¬ bI true = 0 by decide), if_neg (show ¬ idB R l = true by unfold idB; simp [w3]; omega)]
        exact J186 0
  · rintro N ⟨h1, h2⟩
    refine ⟨N, ?_, h1, h2⟩
    have h17 : N 1 7 = nI (R 7) := by rw [h1 1 7 (by omega)]; exact hS.1.1 7 (by decide)
    show f_MM_runs_L125 (nI (R 7)) N = _
    unfold f_MM_runs_L125
    rw [h17, if_pos ((nI_leI (by omega) (by omega)).mpr (Nat.le_refl _))]
theorem M_st25 {R x : Nat → Nat} {M : Mem} {p : Nat} (hV : PV R) (hS : SM R x M) (hp : p < 8) : ∃ M', f_MM_runs_W25 (nI p) ((0 : Int32), M) = some M' ∧ (∀ a, a ≠ 17 → a ≠ 18 → a ≠ 19 → M' a = M a) ∧ ∀ c, (c / 4 ≠ p → M' 17 c = M 17 c ∧ M' 18 c = M 18 c ∧ M' 19 c = M 19 c) ∧ (c / 4 = p → M' 17 c = -1 ∧ M' 18 c = -1 ∧ M' 19 c = nI (if lie R p = true then 0 else 1000)) := by
  unfold f_MM_runs_W25
  refine loop_enc (fun i s => (nI i, s)) 4 (fun i N => (∀ a, a ≠ 17 → a ≠ 18 → a ≠ 19 → N a = M a) ∧ ∀ c, (c / 4 ≠ p → N 17 c = M 17 c ∧ N 18 c = M 18 c ∧ N 19 c = M 19 c) ∧ (c / 4 = p → c % 4 < i → N 17 c = -1 ∧ N 18 c = -1 ∧ N 19 c = nI (if lie R p = true then 0 else 1000))) (fun (M' : Mem) => (∀ a, a ≠ 17 → a ≠ 18 → a ≠ 19 → M' a = M a) ∧ ∀ c, (c / 4 ≠ p → M' 17 c = M 17 c ∧ M' 18 c = M 18 c ∧ M' 19 c = M 19 c) ∧ (c / 4 = p → M' 17 c = -1 ∧ M' 18 c = -1 ∧ M' 19 c = nI (if lie R p = true then 0 else 1000))) ?_ ?_ 0 M (Nat.zero_le _) ⟨fun _ _ _ _ => rfl, fun c => ⟨fun _ => ⟨rfl, rfl, rfl⟩, fun _ h => absurd h (Nat.not_lt_zero _)⟩⟩
  · rintro v N hv ⟨h1, h2⟩
    left
    refine ⟨upM (upM (upM N 17 (4 * p + v) (-1)) 18 (4 * p + v) (-1)) 19 (4 * p + v) (nI (if lie R p = true then 0 else 1000)), ?_, fun a e1 e2 e3 => by rw [upM_row e3, upM_row e2, upM_row e1]; exact h1 a e1 e2 e3, fun c => ?_⟩
    · show f_MM_runs_L25 (nI p) (nI v) N = _
      unfold f_MM_runs_L25 f_MM_runs_J76
      rw [j4, if_neg (nI_ge hv (by decide)), mcell_of, gIn_nI (by omega) (by decide), nI_clamp (by omega), lt1_eq, lt1_eq, M_liar (x := x) (R := R) hV (by rw [upM_row (by decide), upM_row (by decide), h1 1 (by decide) (by decide) (by decide)]; exact hS.1) (by omega), gIn_nI (by omega) (by decide), gIn_nI (by omega) (by decide), lt1_eq, lt1_eq, ← nI_succ]
      cases lie R p <;> rfl
    · by_cases e : c = 4 * p + v
      · subst e
        refine ⟨fun w => absurd (show (4 * p + v) / 4 = p by omega) w, fun _ _ => ⟨?_, ?_, upM_eq⟩⟩
        · rw [upM_row (by decide), upM_row (by decide), upM_eq]
        · rw [upM_row (by decide), upM_eq]
      · simp (disch := omega) only [upM_row, upM_ne]
        exact ⟨(h2 c).1, fun w1 w2 => (h2 c).2 w1 (by omega)⟩
  · rintro N ⟨h1, h2⟩
    refine ⟨N, ?_, h1, fun c => ⟨(h2 c).1, fun w => (h2 c).2 w (by omega)⟩⟩
    show f_MM_runs_L25 (nI p) (nI 4) N = _
    unfold f_MM_runs_L25
    rw [j4, if_pos ((nI_leI (by decide) (by decide)).mpr (Nat.le_refl _))]
theorem M_st17 {R x : Nat → Nat} {M : Mem} (hV : PV R) (hS : SM R x M) : ∃ M', f_MM_runs_W17 ((0 : Int32), M) = some M' ∧ (∀ a, a ≠ 17 → a ≠ 18 → a ≠ 19 → M' a = M a) ∧ ∀ c, c < 32 → M' 17 c = -1 ∧ M' 18 c = -1 ∧ M' 19 c = nI (if lie R (c / 4) = true then 0 else 1000) := by
  unfold f_MM_runs_W17
  refine loop_enc (fun i s => (nI i, s)) 8 (fun i N => (∀ a, a ≠ 17 → a ≠ 18 → a ≠ 19 → N a = M a) ∧ ∀ c, c < 4 * i → N 17 c = -1 ∧ N 18 c = -1 ∧ N 19 c = nI (if lie R (c / 4) = true then 0 else 1000)) (fun (M' : Mem) => (∀ a, a ≠ 17 → a ≠ 18 → a ≠ 19 → M' a = M a) ∧ ∀ c, c < 32 → M' 17 c = -1 ∧ M' 18 c = -1 ∧ M' 19 c = nI (if lie R (c / 4) = true then 0 else 1000)) ?_ ?_ 0 M (Nat.zero_le _) ⟨fun _ _ _ _ => rfl, fun c hc => absurd hc (Nat.not_lt_zero _)⟩
  · rintro p N hp ⟨h1, h2⟩
    left
    have hSN : SM R x N := by
      unfold SM
      rw [h1 1 (by decide) (by decide) (by decide), h1 0 (by decide) (by decide) (by decide)]
      exact hS
    obtain ⟨N', a1, a2, a3⟩ := M_st25 hV hSN hp
    refine ⟨N', ?_, fun a e1 e2 e3 => (a2 a e1 e2 e3).trans (h1 a e1 e2 e3), fun c hc => ?_⟩
    · show f_MM_runs_L17 (nI p) N = _
      unfold f_MM_runs_L17 f_MM_runs_J25
      rw [j8, if_neg (nI_ge hp (by decide)), a1, bnd_some, ← nI_succ]
    · by_cases e : c / 4 = p
      · rw [e]
        exact (a3 c).2 e
      · obtain ⟨q1, q2, q3⟩ := (a3 c).1 e
        rw [q1, q2, q3]
        exact h2 c (by omega)
  · rintro N ⟨h1, h2⟩
    refine ⟨N, ?_, h1, h2⟩
    show f_MM_runs_L17 (nI 8) N = _
    unfold f_MM_runs_L17
    rw [j8, if_pos ((nI_leI (by decide) (by decide)).mpr (Nat.le_refl _))]
theorem lgc_lt (x y : Int64) : (lg_cmp x y < 0) ↔ x.toInt < y.toInt := by
  unfold lg_cmp
  rw [← Int64.lt_iff_toInt_lt]
  by_cases h1 : x > y
  · rw [if_pos h1]
    have h2 : ¬ x < y := by rw [Int64.lt_iff_toInt_lt]; rw [gt_iff_lt, Int64.lt_iff_toInt_lt] at h1; omega
    exact ⟨fun w => absurd w (by decide), fun w => absurd w h2⟩
  · rw [if_neg h1]
    by_cases h2 : x = y
    · rw [if_pos h2, h2]
      exact ⟨fun w => absurd w (by decide), fun w => absurd w (by rw [Int64.lt_iff_toInt_lt]; omega)⟩
    · rw [if_neg h2]
      refine ⟨fun _ => ?_, fun _ => by decide⟩
      rw [Int64.lt_iff_toInt_lt]
      rw [gt_iff_lt, Int64.lt_iff_toInt_lt] at h1
      have h3 : x.toInt ≠ y.toInt := fun w => h2 (Int64.toInt_inj.mp w)
      omega
theorem lgc_gt (x y : Int64) : (0 < lg_cmp x y) ↔ y.toInt < x.toInt := by
  unfold lg_cmp
  rw [← Int64.lt_iff_toInt_lt]
  by_cases h1 : x > y
  · rw [if_pos h1]
    exact ⟨fun _ => h1, fun w => by decide⟩
  · rw [if_neg h1]
    by_cases h2 : x = y
    · rw [if_pos h2]
      exact ⟨fun w => absurd w (by decide), fun w => absurd w h1⟩
    · rw [if_neg h2]
      exact ⟨fun w => absurd w (by decide), fun w => absurd w h1⟩
theorem M_in (x lo hi : Int64) : f_MM_in x lo hi = (decide (lo.toInt ≤ x.toInt) && decide (x.toInt ≤ hi.toInt)) := by
  unfold f_MM_in f_MM_in_J17
  by_cases h1 : x.toInt < lo.toInt
  · rw [if_pos ((lgc_lt x lo).mpr h1), decide_eq_false (by omega), Bool.false_and]
  · rw [if_neg (fun w => h1 ((lgc_lt x lo).mp w)), decide_eq_true (by omega), Bool.true_and]
    by_cases h2 : hi.toInt < x.toInt
    · rw [if_pos ((lgc_gt x hi).mpr h2), decide_eq_false (by omega)]
    · rw [if_neg (fun w => h2 ((lgc_gt x hi).mp w)), decide_eq_true (by omega)]
theorem M_party {R : Nat → Nat} {M : Mem} (hV : PV R) (hM : PM R (M 1)) (p : Int32) : f_MM_isParty M p = (decide (0 ≤ p.toInt) && decide (p.toInt < R 0)) := by
  have hn := pv_n hV
  have h10 : M 1 0 = nI (R 0) := hM.1 0 (by decide)
  unfold f_MM_isParty
  rw [M_in, h10]
  have e1 : (p.toInt64).toInt = p.toInt := Int32.toInt_toInt64 p
  have e2 : ((nI (R 0) - 1).toInt64).toInt = (R 0 : Int) - 1 := by
    rw [Int32.toInt_toInt64]
    rcases (show R 0 = 0 ∨ R 0 = 1 ∨ R 0 = 2 ∨ R 0 = 3 ∨ R 0 = 4 ∨ R 0 = 5 ∨ R 0 = 6 ∨ R 0 = 7 ∨ R 0 = 8 by omega) with h | h | h | h | h | h | h | h | h <;> rw [h] <;> rfl
  rw [e1, e2]
  have e3 : ((0 : Int64)).toInt = 0 := rfl
  rw [e3]
  congr 1
  by_cases w : p.toInt < R 0
  · rw [decide_eq_true w, decide_eq_true (by omega)]
  · rw [decide_eq_false w, decide_eq_false (by omega)]
theorem M_honest {R x : Nat → Nat} {M : Mem} {p : Nat} (hV : PV R) (hM : PM R (M 1)) (hp : p < 32) : f_MM_isHonest M (nI p) = (decide (p < R 0) && !lie R p) := by
  unfold f_MM_isHonest f_MM_isHonest_J20
  rw [M_party hV hM, nI_toInt (by omega), M_liar (x := x) hV hM hp]
  by_cases w : p < R 0
  · rw [decide_eq_true w, decide_eq_true (show (0 : Int) ≤ (p : Int) by omega), decide_eq_true (show (p : Int) < (R 0 : Int) by omega)]
    cases lie R p <;> rfl
  · rw [decide_eq_false w, decide_eq_false (show ¬ (p : Int) < (R 0 : Int) by omega), Bool.and_false]
    rfl
theorem M_start {R x : Nat → Nat} {M : Mem} (hV : PV R) (hS : SM R x M) : ∃ M', f_MM_runs M = f_MM_runs_J198 M' (1 : Int32) ∧ RM (sQ0 R) M' ∧ FrN M M' ∧ M' 0 26 = nI (orN (idB R) (R 7)) := by
  have hn := pv_n hV
  have hv := hV.2.1
  have hR1 : R 1 < 8 := by have := hV.1; omega
  have f0 : FrN M (upM (upM (upM M 0 21 0) 0 25 0) 0 26 0) := ((FrN.rf.up _ (by omega)).up _ (by omega)).up _ (by omega)
  obtain ⟨A, a1, a2, a3⟩ := M_st17 hV (hS.frN f0)
  have fA : FrN M A := by
    refine f0.tr ⟨fun a h1 h2 => a2 a (by omega) (by omega) (by omega), fun b _ _ _ => by rw [a2 0 (by decide) (by decide) (by decide)]⟩
  have hSA := hS.frN fA
  have h11 : A 1 1 = nI (R 1) := hSA.1.1 1 (by decide)
  have h12 : A 1 2 = nI (R 2) := hSA.1.1 2 (by decide)
  obtain ⟨B, hB⟩ : ∃ B, B = if R 1 < R 0 ∧ lie R (R 1) = false then upM A 17 (4 * R 1 + R 2) 0 else A := ⟨_, rfl⟩
  have rB : ∀ a, a ≠ 17 → B a = A a := fun a ha => by
    rw [hB]; split
    · exact upM_row ha
    · rfl
  have b0 : B 0 26 = 0 := by rw [rB 0 (by decide), a2 0 (by decide) (by decide) (by decide), upM_eq]
  have fB : FrN A B := ⟨fun a h1 h2 => rB a (by omega), fun b _ _ _ => by rw [rB 0 (by decide)]⟩
  obtain ⟨C, c1, c2, c3⟩ := M_others hV (hSA.frN fB) b0
  have fC : FrN B C := ⟨fun a h1 h2 => funext (fun b => c2 a b (by omega)), fun b _ _ h3 => c2 0 b (fun _ => h3)⟩
  have q1 : ∀ c, sQ0 R 1 c = if R 1 < R 0 ∧ lie R (R 1) = false ∧ c = 4 * R 1 + R 2 then 0 else 99 := fun _ => rfl
  refine ⟨C, ?_, ⟨?_, ?_, fun i hi => absurd hi (Nat.not_lt_zero i), fun c hc => ⟨?_, ?_, ?_⟩⟩, fA.tr (fB.tr fC), c3⟩
  · unfold f_MM_runs
    rw [lt1_eq, lt1_eq, lt1_eq]
    unfold f_MM_runs_J17
    rw [a1, bnd_some, h11, M_honest (x := x) hV hSA.1 (by omega), h12, mcell_of, gIn_nI (by omega) (by decide), lt1_eq, nI_clamp (by omega)]
    have e : (if bI (decide (R 1 < R 0) && !lie R (R 1)) = 0 then f_MM_runs_J123 A else f_MM_runs_J123 (upM A 17 (4 * R 1 + R 2) 0)) = f_MM_runs_J123 B := by
      rw [hB]
      by_cases hs : R 1 < R 0 ∧ lie R (R 1) = false
      · rw [if_pos hs, if_neg (by rw [hs.2]; simp [hs.1, bI])]
      · rw [if_neg hs, if_pos]
        rw [bI_0]
        by_cases w : R 1 < R 0
        · have : lie R (R 1) = true := by
            cases e : lie R (R 1) with
            | true => rfl
            | false => exact absurd ⟨w, e⟩ hs
          simp [this]
        · simp [w]
    rw [e]
    unfold f_MM_runs_J123 f_MM_runs_J125
    rw [c1, bnd_some]
  · rw [c2 0 21 (by decide), rB 0 (by decide), a2 0 (by decide) (by decide) (by decide), upM_ne (by decide), upM_ne (by decide), upM_eq]
    rfl
  · rw [c2 0 25 (by decide), rB 0 (by decide), a2 0 (by decide) (by decide) (by decide), upM_ne (by decide), upM_eq]
    rfl
  · rw [c2 17 c (by omega), q1, hB]
    by_cases hs : R 1 < R 0 ∧ lie R (R 1) = false
    · rw [if_pos hs, upM_get]
      by_cases w : c = 4 * R 1 + R 2
      · rw [if_pos ⟨rfl, w⟩, if_pos ⟨hs.1, hs.2, w⟩]
        rfl
      · rw [if_neg (fun z => w z.2), if_neg (fun z => w z.2.2), (a3 c hc).1]
        rfl
    · rw [if_neg hs, if_neg (fun z => hs ⟨z.1, z.2.1⟩), (a3 c hc).1]
      rfl
  · rw [c2 18 c (by omega), rB 18 (by decide), (a3 c hc).2.1]
    rfl
  · rw [c2 19 c (by omega), rB 19 (by decide), (a3 c hc).2.2]
    rfl
theorem M_round {r : Nat} {R x : Nat → Nat} {Q : Tab} {M : Mem} (hV : PV R) (hS : SM R x M) (hQ : RM Q M) (hI : INV R r Q) (hct : CNT R (R 7) (plR R) r Q) (hr : r < 8) (hfg : Q 0 1 < 2 ^ 16) : ∃ M', f_MM_runs_J219 M (nI (r + 1)) (0 : Int32) = some (.inl (nI (r + 1 + 1), M')) ∧ RM (sRnd R (dlM R x) (R 7) (plR R) (fun _ => true) (r + 1) Q) M' ∧ FrM M M' ∧ sRnd R (dlM R x) (R 7) (plR R) (fun _ => true) (r + 1) Q 0 1 < 2 ^ 16 := by
  have h7 := hV.2.2.2.2.2.2.2.2.1
  obtain ⟨s1, s2, s3, s4, s5, s6, s7, s8, s9, s10⟩ := rnd_sp (dl := dlM R x) (al := fun _ => true) hV hI hct h7 (plR_ok hV) hr
  have hI1 := hI.mono (show r ≤ r + 1 by omega)
  obtain ⟨A, a1, a2, a3⟩ := M_hons hV hS hQ hI1 (by omega) (by omega) s1 s2
  obtain ⟨B, b1, b2, b3⟩ := M_planned hV (hS.fr a3) a2 s4 (by omega) (by omega) (by rw [s10]; exact hfg) s3
  obtain ⟨C, c1, c2, c3⟩ := M_reads hV (hS.fr (a3.tr b3)) b2 s5 (by omega) (by omega) s7
  refine ⟨C, ?_, c2, a3.tr (b3.tr c3), ?_⟩
  · unfold f_MM_runs_J219
    rw [a1, bnd_some, b1, bnd_some, c1, bnd_some, ← nI_succ]
  · obtain ⟨-, m2, -⟩ := sRds_sp hV s5 (by omega) (by omega) (sPlans R (dlM R x) (R 7) (plR R) (fun _ => true) (r + 1) (sHons R (dlM R x) (r + 1) Q) 0 0) (Nat.le_refl _)
    show itr (fun k Q => sRd R (r + 1) k Q) (sPlans R (dlM R x) (R 7) (plR R) (fun _ => true) (r + 1) (sHons R (dlM R x) (r + 1) Q) 0 0) (sPlans R (dlM R x) (R 7) (plR R) (fun _ => true) (r + 1) (sHons R (dlM R x) (r + 1) Q)) 0 1 < _
    rw [m2]
    exact sPlans_fg (by rw [s10]; exact hfg) (R 7) h7
theorem sRun_n0 {R : Nat → Nat} {dl : Nat → Nat → Nat → Nat} {np : Nat} {PL : Nat → Nat → Nat} {al : Nat → Bool} (h0 : R 0 = 0) (h7 : np = 0) : ∀ n, sRun R dl np PL al n = sQ0 R := by
  intro n
  induction n with
  | zero => rfl
  | succ n ih =>
    have e : sRun R dl np PL al (n + 1) = sRnd R dl np PL al (n + 1) (sRun R dl np PL al n) := rfl
    rw [e, ih]
    unfold sRnd sHons sPlans
    rw [h0, h7]
    rfl
/-- THE REFERENCE'S RUN -/
theorem M_runs {R x : Nat → Nat} {M : Mem} (hV : PV R) (hS : SM R x M) : ∃ M', f_MM_runs M = some M' ∧ RM (sRun R (dlM R x) (R 7) (plR R) (fun _ => true) (R 3)) M' ∧ FrN M M' ∧ M' 0 26 = nI (orN (idB R) (R 7)) := by
  have hR3 := hV.2.2.2.1
  have hR3' := hV.2.2.1
  have hn := pv_n hV
  have h7 := hV.2.2.2.2.2.2.2.2.1
  obtain ⟨A, a1, a2, a3, a4⟩ := M_start hV hS
  have hSA := hS.frN a3
  rw [a1]
  unfold f_MM_runs_J198
  rw [bnd_id]
  unfold f_MM_runs_W198
  by_cases h0 : R 0 = 0
  · refine ⟨A, loop_inr ?_, ?_, a3, a4⟩
    · show f_MM_runs_L198 (1 : Int32) A = _
      unfold f_MM_runs_L198
      have h10 : A 1 0 = nI (R 0) := hSA.1.1 0 (by decide)
      have h13 : A 1 3 = nI (R 3) := hSA.1.1 3 (by decide)
      rw [h10, h13, h0, j1, if_neg (nI_nlt (by omega) (by omega)), if_pos (show nI 0 ≤ (0 : Int32) by decide)]
    · have e7 : R 7 = 0 := by
        refine Classical.byContradiction (fun w => ?_)
        have := (plR_ok hV 0 (by omega)).2.2.1
        omega
      rw [sRun_n0 h0 e7]
      exact a2
  · suffices hh : ∃ M', loop (fun t => f_MM_runs_L198 t.1 t.2) ((fun (i : Nat) (s : Mem) => (nI (i + 1), s)) 0 A) = some M' ∧ RM (sRun R (dlM R x) (R 7) (plR R) (fun _ => true) (R 3)) M' ∧ FrM A M' by
      obtain ⟨M', p1, p2, p3⟩ := hh
      exact ⟨M', p1, p2, a3.tr p3.N, (p3.2 26 (by decide) (by decide)).trans a4⟩
    refine loop_enc (fun i s => (nI (i + 1), s)) (R 3) (fun i N => RM (sRun R (dlM R x) (R 7) (plR R) (fun _ => true) i) N ∧ FrM A N ∧ sRun R (dlM R x) (R 7) (plR R) (fun _ => true) i 0 1 < 2 ^ 16) (fun M' => RM (sRun R (dlM R x) (R 7) (plR R) (fun _ => true) (R 3)) M' ∧ FrM A M') ?_ ?_ 0 A (Nat.zero_le _) ⟨a2, FrM.rf, show (0 : Nat) < 2 ^ 16 by decide⟩
    · rintro i N hi ⟨h1, h2, h3⟩
      left
      obtain ⟨g1, g2⟩ := run_sp (dl := dlM R x) (al := fun _ => true) hV h7 (plR_ok hV) i (by omega)
      have hSN := hSA.fr h2
      obtain ⟨N', p1, p2, p3, p4⟩ := M_round hV hSN h1 g1 g2 (by omega) h3
      refine ⟨N', ?_, p2, h2.tr p3, p4⟩
      show f_MM_runs_L198 (nI (i + 1)) N = _
      unfold f_MM_runs_L198
      have h10 : N 1 0 = nI (R 0) := hSN.1.1 0 (by decide)
      have h13 : N 1 3 = nI (R 3) := hSN.1.1 3 (by decide)
      rw [h10, h13, if_neg (nI_nlt (by omega) (by omega)), if_neg (show ¬ nI (R 0) ≤ (0 : Int32) from fun w => h0 (by have := (nI_leI (a := R 0) (b := 0) (by omega) (by decide)).mp w; omega))]
      exact p1
    · rintro N ⟨h1, h2, h3⟩
      refine ⟨N, ?_, h1, h2⟩
      have h13 : N 1 3 = nI (R 3) := (hSA.fr h2).1.1 3 (by decide)
      show f_MM_runs_L198 (nI (R 3 + 1)) N = _
      unfold f_MM_runs_L198
      rw [h13, if_pos (nI_lt (by omega) (by omega))]
