/-! asking: open -/
def yN (K : Nat) : Nat → Nat
  | 0 => K / 4
  | i + 1 => yN K i / 9
def yF (K i : Nat) : Nat := yN K i % 9 - 1
noncomputable def yC (K : Nat) : Nat → Int32
  | 0 => 0
  | i + 1 => f_Chain_with (yC K i) (nI (yF K i))
def yS (K i : Nat) : Bool := decide (yN K i = 0) || decide (yN K i % 9 = 0) || anyB (fun j => decide (yF K j = yF K i)) i || decide (i = 8)
def yX (K : Nat) (x3 : Int32) : Nat → Int32
  | 0 => -2
  | i + 1 => if x3 = 10 + nI i then nI (yF K i) else yX K x3 i
theorem yF_lt (K i : Nat) : yF K i < 8 := by
  unfold yF
  have := Nat.mod_lt (yN K i) (show 0 < 9 by decide)
  omega
theorem yN_lt {K : Nat} (hK : K < 2 ^ 63) : ∀ i, yN K i < 2 ^ 63 := by
  intro i
  induction i with
  | zero => exact Nat.lt_of_le_of_lt (Nat.div_le_self _ _) hK
  | succ i ih => exact Nat.lt_of_le_of_lt (Nat.div_le_self _ _) ih
theorem yC_chn (K : Nat) : ∀ i, i ≤ 8 → Chn (yC K i) i (yF K) := by
  intro i
  induction i with
  | zero => intro _; exact Chn_0 _
  | succ i ih => intro hi; exact Chn_with (ih (by omega)) (by omega) (yF_lt K i) (fun _ _ => rfl) rfl
theorem lgc_pos {n : Nat} (h : n < 2 ^ 63) : (lg_cmp (lN n) 0 ≤ 0) ↔ n = 0 := by
  rw [lg_cmp_le, show (0 : Int64) = lN 0 from rfl, pk_lLE h (by decide)]
  omega
theorem lgc_pos' {n : Nat} (h : n < 2 ^ 63) : (0 < lg_cmp (lN n) 0) ↔ n ≠ 0 := by
  rw [lg_cmp_gt, show (0 : Int64) = lN 0 from rfl, pk_lLT (by decide) h]
  omega
theorem yN_digit {K : Nat} (hK : K < 2 ^ 63) (i : Nat) : (lN (yN K i) - lN (yN K i) / 9 * 9).toInt32 = nI (yN K i % 9) := by
  rw [show (9 : Int64) = lN 9 from rfl, pk_lRem (yN_lt hK i) (by decide) (by decide), lN_i]
theorem yN_next {K : Nat} (hK : K < 2 ^ 63) (i : Nat) : lN (yN K i) / 9 = lN (yN K (i + 1)) := by
  rw [show (9 : Int64) = lN 9 from rfl, pk_lDiv (yN_lt hK i) (by decide) (by decide)]
  rfl
theorem yS_f {K i : Nat} (h : yS K i = false) : yN K i ≠ 0 ∧ yN K i % 9 ≠ 0 ∧ anyB (fun j => decide (yF K j = yF K i)) i = false ∧ i ≠ 8 := by
  unfold yS at h
  simp only [Bool.or_eq_false_iff, decide_eq_false_iff_not] at h
  exact ⟨h.1.1.1, h.1.1.2, h.1.2, h.2⟩
theorem dig_pred {d : Nat} (h : d ≠ 0) : nI d - 1 = nI (d - 1) := by
  rw [j1]
  exact pk_sub (by omega)
theorem yS_n (K : Nat) : ∃ n, n ≤ 8 ∧ yS K n = true ∧ ∀ i, i < n → yS K i = false := by
  rcases fstN_sp (yS K) 9 with ⟨h1, h2⟩ | ⟨h1, h2, h3⟩
  · have := h2 8 (by decide)
    unfold yS at this
    simp at this
  · exact ⟨_, by omega, h2, h3⟩
theorem C_unpack {K n : Nat} (hK : K < 2 ^ 63) (hn : n ≤ 8) (hs : yS K n = true) (hb : ∀ i, i < n → yS K i = false) : f_Chain_unpack (lN K) = some (if yN K n = 0 ∧ n ≠ 0 then yC K n else -1) := by
  have e4 : lN K / 4 = lN (yN K 0) := by
    rw [show (4 : Int64) = lN 4 from rfl, pk_lDiv hK (by decide) (by decide)]
    rfl
  have g0 : 0 ≤ lg_cmp (lN K) 0 := by
    rw [lg_cmp_ge, show (0 : Int64) = lN 0 from rfl, pk_lLE (by decide) hK]
    exact Nat.zero_le _
  unfold f_Chain_unpack
  rw [if_pos g0, e4]
  unfold f_Chain_unpack_J19 f_Chain_unpack_W19
  have hl : loop (fun t => f_Chain_unpack_L19 t.1 t.2.1 t.2.2) ((0 : Int32), lN (yN K 0), (0 : Int32)) = some (if yN K n = 0 ∨ n = 8 then .inl (yC K n, lN (yN K n)) else .inr (-1)) := by
    refine loop_fn (fun i => (yC K i, lN (yN K i), nI i)) n _ (fun i hi => ?_) ?_
    · show f_Chain_unpack_L19 (yC K i) (lN (yN K i)) (nI i) = _
      obtain ⟨a1, a2, a3, a4⟩ := yS_f (hb i hi)
      have hm := Nat.mod_lt (yN K i) (show 0 < 9 by decide)
      unfold f_Chain_unpack_L19
      rw [j8, if_neg (nI_ge (by omega) (by decide)), if_neg (fun z => a1 ((lgc_pos (yN_lt hK i)).mp z)), yN_digit hK, if_neg (fun z => a2 ((nz (by omega)).mp z)), dig_pred a2, Chn_bears (yC_chn K i (by omega)) (by omega), bnd_some]
      have e : anyB (fun j => decide (yF K j = yN K i % 9 - 1)) i = false := a3
      rw [e, gF, lt1_eq, yN_next hK, ← nI_succ]
      rfl
    · show f_Chain_unpack_L19 (yC K n) (lN (yN K n)) (nI n) = _
      have hm := Nat.mod_lt (yN K n) (show 0 < 9 by decide)
      unfold f_Chain_unpack_L19
      by_cases h8 : n = 8
      · rw [if_pos (Or.inr h8), j8, if_pos (by rw [h8]; decide)]
      · rw [j8, if_neg (nI_ge (by omega) (by decide))]
        by_cases h0 : yN K n = 0
        · rw [if_pos ((lgc_pos (yN_lt hK n)).mpr h0), if_pos (Or.inl h0)]
        · rw [if_neg (fun z => h0 ((lgc_pos (yN_lt hK n)).mp z)), yN_digit hK, if_neg (show ¬ (yN K n = 0 ∨ n = 8) by omega)]
          by_cases h9 : yN K n % 9 = 0
          · rw [if_pos ((nz (by omega)).mpr h9)]
          · rw [if_neg (fun z => h9 ((nz (by omega)).mp z)), dig_pred h9, Chn_bears (yC_chn K n hn) (by omega), bnd_some]
            have e : anyB (fun j => decide (yF K j = yN K n % 9 - 1)) n = true := by
              unfold yS at hs
              simp only [Bool.or_eq_true, decide_eq_true_eq] at hs
              rcases hs with ((w | w) | w) | w
              · exact absurd w h0
              · exact absurd w h9
              · exact w
              · exact absurd w h8
            rw [e, gT]
  rw [hl, bnd_some]
  by_cases h0 : yN K n = 0
  · rw [if_pos (Or.inl h0)]
    show f_Chain_unpack_J79 (yC K n) (lN (yN K n)) = _
    unfold f_Chain_unpack_J79 f_Chain_unpack_J89
    rw [if_neg (fun z => (lgc_pos' (yN_lt hK n)).mp z h0)]
    by_cases hn0 : n = 0
    · subst hn0
      rw [if_neg (show ¬ (yN K 0 = 0 ∧ (0 : Nat) ≠ 0) from fun z => z.2 rfl), if_pos (show yC K 0 = 0 from rfl)]
    · rw [if_pos (show yN K n = 0 ∧ n ≠ 0 from ⟨h0, hn0⟩), if_neg]
      intro z
      have c := Chn_size (yC_chn K n hn)
      rw [z] at c
      have e0 : f_Chain_size 0 = nI 0 := rfl
      rw [e0] at c
      exact hn0 ((nI_eq (by decide) (by omega)).mp c).symm
  · rw [if_neg (show ¬ (yN K n = 0 ∧ n ≠ 0) from fun z => h0 z.1)]
    by_cases h8 : n = 8
    · rw [if_pos (Or.inr h8)]
      show f_Chain_unpack_J79 (yC K n) (lN (yN K n)) = _
      unfold f_Chain_unpack_J79 f_Chain_unpack_J89
      rw [if_pos ((lgc_pos' (yN_lt hK n)).mpr h0)]
    · rw [if_neg (show ¬ (yN K n = 0 ∨ n = 8) by omega)]
      rfl
theorem M_openL {K n : Nat} (hK : K < 2 ^ 63) (hn : n ≤ 8) (hs : yS K n = true) (hb : ∀ i, i < n → yS K i = false) (x3 : Int32) : f_MM_open_W25 x3 ((0 : Int32), (0 : Int32), (-2 : Int32), lN (yN K 0)) = some (if yN K n = 0 then .inl (nI n, yX K x3 n) else .inr (-1)) := by
  unfold f_MM_open_W25
  refine loop_fn (fun i => (nI i, nI (brN (yF K) i), yX K x3 i, lN (yN K i))) n _ (fun i hi => ?_) ?_
  · show f_MM_open_L25 x3 (nI i) (nI (brN (yF K) i)) (yX K x3 i) (lN (yN K i)) = _
    obtain ⟨a1, a2, a3, a4⟩ := yS_f (hb i hi)
    have hm := Nat.mod_lt (yN K i) (show 0 < 9 by decide)
    have hbr : brN (yF K) i < 256 := brN_lt (fun j _ => yF_lt K j)
    unfold f_MM_open_L25 f_MM_open_J92
    rw [if_neg (fun z => a1 ((lgc_pos (yN_lt hK i)).mp z)), yN_digit hK, dig_pred a2, if_neg (nI_pos (by omega)), j8, if_neg (fun z => a4 ((nI_eq (by omega) (by decide)).mp z)), M_has (by omega) (by omega), brN_bit]
    have e : anyB (fun j => decide (yF K j = yN K i % 9 - 1)) i = false := a3
    rw [e, gF, lt1_eq, sh1 _ (by omega), fa_or, yN_next hK, ← nI_succ]
    have ex : yX K x3 (i + 1) = if x3 = 10 + nI i then nI (yF K i) else yX K x3 i := rfl
    rw [ex]
    by_cases w : x3 = 10 + nI i
    · rw [if_pos w, if_pos w]
      rfl
    · rw [if_neg w, if_neg w]
      rfl
  · show f_MM_open_L25 x3 (nI n) (nI (brN (yF K) n)) (yX K x3 n) (lN (yN K n)) = _
    have hm := Nat.mod_lt (yN K n) (show 0 < 9 by decide)
    have hbr : brN (yF K) n < 256 := brN_lt (fun j _ => yF_lt K j)
    unfold f_MM_open_L25
    by_cases h0 : yN K n = 0
    · rw [if_pos ((lgc_pos (yN_lt hK n)).mpr h0), if_pos h0]
    · rw [if_neg (fun z => h0 ((lgc_pos (yN_lt hK n)).mp z)), if_neg h0, yN_digit hK]
      by_cases h9 : yN K n % 9 = 0
      · rw [h9, if_pos (by decide)]
      · rw [dig_pred h9, if_neg (nI_pos (by omega)), j8]
        by_cases h8 : n = 8
        · rw [if_pos (by rw [h8])]
        · rw [if_neg (fun z => h8 ((nI_eq (by omega) (by decide)).mp z)), M_has (by omega) (by omega), brN_bit]
          have e : anyB (fun j => decide (yF K j = yN K n % 9 - 1)) n = true := by
            unfold yS at hs
            simp only [Bool.or_eq_true, decide_eq_true_eq] at hs
            rcases hs with ((w | w) | w) | w
            · exact absurd w h0
            · exact absurd w h9
            · exact w
            · exact absurd w h8
          rw [e, gT]
theorem yX_at {K : Nat} {j : Nat} : ∀ {n : Nat}, n ≤ 8 → j < 8 → yX K (nI (10 + j)) n = if j < n then nI (yF K j) else -2 := by
  intro n
  induction n with
  | zero => intro _ _; rfl
  | succ n ih =>
    intro hn hj
    have e : yX K (nI (10 + j)) (n + 1) = if nI (10 + j) = 10 + nI n then nI (yF K n) else yX K (nI (10 + j)) n := rfl
    rw [e, j10, nI_add]
    by_cases w : j = n
    · subst w
      rw [if_pos rfl, if_pos (by omega)]
    · rw [if_neg (fun z => by have := (nI_eq (by omega) (by omega)).mp z; omega), ih (by omega) hj]
      by_cases v : j < n
      · rw [if_pos v, if_pos (by omega)]
      · rw [if_neg v, if_neg (by omega)]
theorem q_open (x1 : Int64) (x3 : Int32) : Ask0 (f_MC_open x1 x3) (f_MM_open x1 x3) := by
  have e10 : (10 : Int32).toInt = 10 := rfl
  have e18 : (18 : Int32).toInt = 18 := rfl
  unfold f_MC_open f_MM_open
  by_cases hx : x1 < 0
  · have g0 : ¬ 0 ≤ lg_cmp x1 0 := by
      rw [lg_cmp_ge, Int64.le_iff_toInt_le]
      rw [Int64.lt_iff_toInt_lt] at hx
      omega
    unfold f_Chain_unpack f_MC_open_J22 f_MC_open_J23
    rw [if_neg g0, if_neg g0, bnd_some, if_pos rfl, if_pos rfl, ite_self, ite_self]
    exact ⟨-1, rfl, rfl⟩
  · obtain ⟨K, hK, rfl⟩ := pk_lOf hx
    obtain ⟨n, hn, hs, hb⟩ := yS_n K
    have e4 : lN K / 4 = lN (yN K 0) := by
      rw [show (4 : Int64) = lN 4 from rfl, pk_lDiv hK (by decide) (by decide)]
      rfl
    have g0 : 0 ≤ lg_cmp (lN K) 0 := by
      rw [lg_cmp_ge, show (0 : Int64) = lN 0 from rfl, pk_lLE (by decide) hK]
      exact Nat.zero_le _
    rw [C_unpack hK hn hs hb, bnd_some, if_pos g0]
    unfold f_MM_open_J25
    rw [e4, M_openL hK hn hs hb x3, bnd_some]
    unfold f_MC_open_J22 f_MC_open_J23
    by_cases ok : yN K n = 0 ∧ n ≠ 0
    · obtain ⟨h0, hn0⟩ := ok
      have hc := yC_chn K n hn
      have cne : yC K n ≠ -1 := fun z => by
        have c := Chn_size hc
        rw [z] at c
        have e0 : f_Chain_size (-1) = nI 15 := rfl
        rw [e0] at c
        have := (nI_eq (by decide) (by omega)).mp c
        omega
      rw [if_pos (show yN K n = 0 ∧ n ≠ 0 from ⟨h0, hn0⟩), if_pos h0, if_neg cne, if_neg cne]
      show Ask0 _ (if nI n = 0 then _ else _)
      rw [if_neg (fun z => hn0 ((nz (by omega)).mp z)), M_inB x3 2 1 (by decide)]
      unfold f_MC_open_J47 f_MM_open_J139
      rw [Chn_size hc]
      by_cases q0 : x3 = 0
      · subst q0
        exact ⟨_, rfl, rfl⟩
      · by_cases q1 : x3 = 1
        · subst q1
          exact ⟨_, rfl, rfl⟩
        · have w2 : inB x3 2 = false := by
            rcases inB_cases x3 2 with w | ⟨j, hj, -, rfl, -⟩
            · exact w
            · rcases (show j = 0 ∨ j = 1 by omega) with rfl | rfl
              · exact absurd rfl q0
              · exact absurd rfl q1
          rw [w2, gF, if_neg q0, if_neg q0, if_neg q0, if_neg q1, if_neg q1, if_neg q1, M_in, Int32.toInt_toInt64]
          have a10 : (10 : Int64).toInt = 10 := rfl
          have a17 : (17 : Int64).toInt = 17 := rfl
          rw [a10, a17]
          by_cases r : 10 ≤ x3.toInt ∧ x3.toInt ≤ 17
          · obtain ⟨j, hj, rfl⟩ : ∃ j, j < 8 ∧ x3 = nI (10 + j) := ⟨x3.toInt.toNat - 10, by omega, by
              apply Int32.toInt_inj.mp
              rw [nI_toInt (by omega)]
              omega⟩
            rw [if_neg (by rw [Int32.lt_iff_toInt_lt]; omega), if_neg (by rw [Int32.le_iff_toInt_le]; omega), decide_eq_true r.1, decide_eq_true r.2, if_neg (show ¬ (1 : Int32) = 0 by decide), yX_at hn hj, j10, pk_sub (by omega), show 10 + j - 10 = j by omega, if_neg q0, if_neg q1]
            by_cases v : j < n
            · rw [if_neg (nI_ge v (by omega)), if_pos v, Chn_mark hc v]
              exact ⟨_, rfl, rfl⟩
            · rw [if_pos ((nI_leI (by omega) (by omega)).mpr (by omega)), if_neg v]
              exact ⟨_, rfl, rfl⟩
          · have b : (decide (10 ≤ x3.toInt) && decide (x3.toInt ≤ 17)) = false := by
              rw [← Bool.not_eq_true]
              simpa using r
            rw [b, gF, if_pos rfl]
            by_cases c1 : x3 < 10
            · rw [if_pos c1]
              exact ⟨_, rfl, rfl⟩
            · rw [if_neg c1, if_pos (by
                rw [Int32.lt_iff_toInt_lt] at c1
                rw [Int32.le_iff_toInt_le]
                omega)]
              exact ⟨_, rfl, rfl⟩
    · rw [if_neg ok, if_pos rfl, if_pos rfl, ite_self, ite_self]
      refine ⟨-1, rfl, ?_⟩
      by_cases h0 : yN K n = 0
      · have hn0 : n = 0 := Classical.byContradiction (fun z => ok ⟨h0, z⟩)
        subst hn0
        rw [if_pos h0]
        rfl
      · rw [if_neg h0]
        rfl
