/-! the reference's sending -/
set_option maxHeartbeats 1000000 in
theorem M_faultG {M : Mem} {R : Nat → Nat} {kd : Int32} {ci pl wd cnt r f t : Nat} (h7 : (7 : Int32) + kd = nI ci) (hci : ci < 302) (hp : f_MM_placeOf kd = nI pl) (hw : f_MM_wideOf kd = nI wd) (hc : M 1 ci = nI cnt) (hcnt : cnt ≤ 16) (hwd : wd ≤ 13) (hpl : pl + wd * cnt ≤ 302) (hw3 : 3 ≤ wd) (hrow : ∀ l i, l < cnt → i < 3 → M 1 (pl + wd * l + i) = nI (R (pl + wd * l + i))) (hsm : ∀ l i, l < cnt → i < 3 → R (pl + wd * l + i) < 100) (hr : r < 100) (hf : f < 100) (ht : t < 100) :
    f_MM_faultOf M kd (nI r) (nI f) (nI t) = some (if fstN (fun l => isW R (pl + wd * l) r f t) cnt < cnt then nI (fstN (fun l => isW R (pl + wd * l) r f t) cnt) else -1) := by
  unfold f_MM_faultOf f_MM_faultOf_J3
  rw [bnd_id]
  unfold f_MM_faultOf_W3
  obtain ⟨x, h1, h2⟩ := loop_inv (body := fun t_1 => f_MM_faultOf_L3 M kd (nI r) (nI f) (nI t) t_1) (fun s => cnt - s.toNatClampNeg) (fun s => ∃ i, i ≤ cnt ∧ s = nI i ∧ ∀ j, j < i → isW R (pl + wd * j) r f t = false) (fun x => x = if fstN (fun l => isW R (pl + wd * l) r f t) cnt < cnt then nI (fstN (fun l => isW R (pl + wd * l) r f t) cnt) else -1) (by
    rintro s ⟨i, hi, rfl, hno⟩
    unfold f_MM_faultOf_L3
    rw [h7, gIn_nI hci (by decide), nI_clamp (by omega), hc, hp, hw]
    by_cases he : cnt ≤ i
    · have : i = cnt := by omega
      subst this
      rw [if_pos ((nI_leI (by omega) (by omega)).mpr (Nat.le_refl _))]
      exact Or.inr ⟨_, rfl, by rw [fstN_no hno, if_neg (Nat.lt_irrefl _)]⟩
    · have hb : pl + wd * i + wd ≤ pl + wd * cnt := by
        have : wd * (i + 1) ≤ wd * cnt := Nat.mul_le_mul_left wd (by omega)
        rw [Nat.mul_add] at this
        omega
      have g0 := hrow i 0 (by omega) (by omega)
      have g1 := hrow i 1 (by omega) (by omega)
      have g2 := hrow i 2 (by omega) (by omega)
      have k0 := hsm i 0 (by omega) (by omega)
      have k1 := hsm i 1 (by omega) (by omega)
      have k2 := hsm i 2 (by omega) (by omega)
      rw [Nat.add_zero] at g0 k0
      rw [if_neg (nI_ge (by omega) (by omega)), pk_mul, nI_add, gIn_nI (by omega) (by decide), nI_clamp (by omega), g0]
      have goon : isW R (pl + wd * i) r f t = false → ∃ t_1, some (Sum.inl (nI i + 1) : Int32 ⊕ Int32) = some (Sum.inl t_1) ∧ (∃ i, i ≤ cnt ∧ t_1 = nI i ∧ ∀ j, j < i → isW R (pl + wd * j) r f t = false) ∧ cnt - t_1.toNatClampNeg < cnt - (nI i).toNatClampNeg := by
        intro hz
        refine ⟨nI i + 1, rfl, ⟨i + 1, by omega, (nI_succ i).symm, fun j hj => ?_⟩, ?_⟩
        · by_cases e : j = i
          · subst e; exact hz
          · exact hno j (by omega)
        · rw [← nI_succ, nI_clamp (by omega), nI_clamp (by omega)]
          omega
      by_cases e0 : R (pl + wd * i) = r
      · rw [if_pos (by rw [e0]), j1, nI_add, gIn_nI (by omega) (by decide), nI_clamp (by omega), g1]
        by_cases e1 : R (pl + wd * i + 1) = f
        · rw [if_pos (by rw [e1]), j2, nI_add, gIn_nI (by omega) (by decide), nI_clamp (by omega), g2]
          by_cases e2 : R (pl + wd * i + 2) = t
          · rw [if_pos (by rw [e2])]
            refine Or.inr ⟨_, rfl, ?_⟩
            have hy : isW R (pl + wd * i) r f t = true := by unfold isW; simp [e0, e1, e2]
            rw [fstN_of (p := fun l => isW R (pl + wd * l) r f t) (i := i) (by omega) hy hno, if_pos (by omega)]
          · rw [if_neg (fun q => e2 ((nI_eq (by omega) (by omega)).mp q)), ← j1]
            exact Or.inl (goon (by unfold isW; simp [e2]))
        · rw [if_neg (fun q => e1 ((nI_eq (by omega) (by omega)).mp q)), ← j1]
          exact Or.inl (goon (by unfold isW; simp [e1]))
      · rw [if_neg (fun q => e0 ((nI_eq (by omega) (by omega)).mp q))]
        exact Or.inl (goon (by unfold isW; simp [e0]))) (0 : Int32) ⟨0, Nat.zero_le _, rfl, fun j hj => absurd hj (Nat.not_lt_zero j)⟩
  rw [h1, h2]
theorem M_omit {M : Mem} {R : Nat → Nat} (hV : PV R) (hM : PM R (M 1)) {r f t : Nat} (hr : r < 100) (hf : f < 100) (ht : t < 100) : f_MM_faultOf M 1 (nI r) (nI f) (nI t) = some (if omI R r f t < R 8 then nI (omI R r f t) else -1) := by
  obtain ⟨v0, v2, v3, v3', v4, v5, v5', v6, v7, v8, v9, vp, vo, vl, do', dl'⟩ := hV
  refine M_faultG (kd := 1) (ci := 8) (pl := 218) (wd := 3) (cnt := R 8) rfl (by decide) rfl rfl (hM.1 8 (by decide)) (by omega) (by decide) (by omega) (by decide) (fun l i hl hi => hM.2.2.1 l i hl hi) (fun l i hl hi => ?_) hr hf ht
  obtain ⟨a1, a2, a3, a4, a5⟩ := vo l hl
  rcases (show i = 0 ∨ i = 1 ∨ i = 2 by omega) with rfl | rfl | rfl
  · rw [Nat.add_zero]; omega
  · omega
  · omega
theorem M_late {M : Mem} {R : Nat → Nat} (hV : PV R) (hM : PM R (M 1)) {r f t : Nat} (hr : r < 100) (hf : f < 100) (ht : t < 100) : f_MM_faultOf M 2 (nI r) (nI f) (nI t) = some (if ltI R r f t < R 9 then nI (ltI R r f t) else -1) := by
  obtain ⟨v0, v2, v3, v3', v4, v5, v5', v6, v7, v8, v9, vp, vo, vl, do', dl'⟩ := hV
  refine M_faultG (kd := 2) (ci := 9) (pl := 254) (wd := 4) (cnt := R 9) rfl (by decide) rfl rfl (hM.1 9 (by decide)) (by omega) (by decide) (by omega) (by decide) (fun l i hl hi => hM.2.2.2 l i hl (by omega)) (fun l i hl hi => ?_) hr hf ht
  obtain ⟨⟨a1, a2, a3, a4, a5⟩, a6⟩ := vl l hl
  rcases (show i = 0 ∨ i = 1 ∨ i = 2 by omega) with rfl | rfl | rfl
  · rw [Nat.add_zero]; omega
  · omega
  · omega
def SM (R x : Nat → Nat) (M : Mem) : Prop := PM R (M 1) ∧ M 0 28 = cmI (x 0) ∧ (x 0 ≠ 0 → M 0 29 = nI (x 1) ∧ M 0 30 = nI (x 2) ∧ M 0 31 = nI (x 3)) ∧ x 0 < 100 ∧ x 1 < 100 ∧ x 2 < 100 ∧ x 3 < 100
/-- what the reference's run leaves as it is -/
def FrN (M M' : Mem) : Prop := (∀ a, a ≠ 0 → (a < 8 ∨ 19 < a) → M' a = M a) ∧ ∀ b, b ≠ 21 → b ≠ 25 → b ≠ 26 → M' 0 b = M 0 b
theorem FrN.rf {M : Mem} : FrN M M := ⟨fun _ _ _ => rfl, fun _ _ _ _ => rfl⟩
theorem FrN.tr {M M' M'' : Mem} (h : FrN M M') (h' : FrN M' M'') : FrN M M'' := ⟨fun a h1 h2 => (h'.1 a h1 h2).trans (h.1 a h1 h2), fun b h1 h2 h3 => (h'.2 b h1 h2 h3).trans (h.2 b h1 h2 h3)⟩
theorem FrN.up {M M' : Mem} (h : FrN M M') {a i : Nat} (x : Int32) (ha : (8 ≤ a ∧ a ≤ 19) ∨ (a = 0 ∧ (i = 21 ∨ i = 25 ∨ i = 26))) : FrN M (upM M' a i x) :=
  ⟨fun b h1 h2 => (upM_row (by omega)).trans (h.1 b h1 h2), fun b h1 h2 h3 => (upM_ne (by omega)).trans (h.2 b h1 h2 h3)⟩
theorem SM.frN {R x : Nat → Nat} {M M' : Mem} (h : SM R x M) (hf : FrN M M') : SM R x M' := by
  unfold SM at h ⊢
  rw [hf.1 1 (by decide) (by decide), hf.2 28 (by decide) (by decide) (by decide), hf.2 29 (by decide) (by decide) (by decide), hf.2 30 (by decide) (by decide) (by decide), hf.2 31 (by decide) (by decide) (by decide)]
  exact h
def FrM (M M' : Mem) : Prop := (∀ a, a ≠ 0 → (a < 8 ∨ 19 < a) → M' a = M a) ∧ ∀ b, b ≠ 21 → b ≠ 25 → M' 0 b = M 0 b
theorem FrM.rf {M : Mem} : FrM M M := ⟨fun _ _ _ => rfl, fun _ _ _ => rfl⟩
theorem FrM.tr {M M' M'' : Mem} (h : FrM M M') (h' : FrM M' M'') : FrM M M'' := ⟨fun a h1 h2 => (h'.1 a h1 h2).trans (h.1 a h1 h2), fun b h1 h2 => (h'.2 b h1 h2).trans (h.2 b h1 h2)⟩
theorem FrM.up {M M' : Mem} (h : FrM M M') {a i : Nat} (x : Int32) (ha : (8 ≤ a ∧ a ≤ 19) ∨ (a = 0 ∧ (i = 21 ∨ i = 25))) : FrM M (upM M' a i x) :=
  ⟨fun b h1 h2 => (upM_row (by omega)).trans (h.1 b h1 h2), fun b h1 h2 => (upM_ne (by omega)).trans (h.2 b h1 h2)⟩
theorem SM.fr {R x : Nat → Nat} {M M' : Mem} (h : SM R x M) (hf : FrM M M') : SM R x M' := by
  unfold SM at h ⊢
  rw [hf.1 1 (by decide) (by decide), hf.2 28 (by decide) (by decide), hf.2 29 (by decide) (by decide), hf.2 30 (by decide) (by decide), hf.2 31 (by decide) (by decide)]
  exact h
theorem FrM.N {M M' : Mem} (h : FrM M M') : FrN M M' := ⟨h.1, fun b h1 h2 _ => h.2 b h1 h2⟩
theorem pv_lie {R : Nat → Nat} (hV : PV R) : R 6 < 256 := by
  obtain ⟨v0, v2, v3, v3', v4, v5, v5', v6, -⟩ := hV
  have : 2 ^ R 0 ≤ 2 ^ 8 := Nat.pow_le_pow_right (by decide) (by omega)
  omega
theorem pv_n {R : Nat → Nat} (hV : PV R) : R 0 ≤ 8 := by
  obtain ⟨v0, -⟩ := hV
  omega
theorem M_has {L p : Nat} (hL : L < 2 ^ 31) (hp : p < 32) : f_MM_has (nI L) (nI p) = L.testBit p := by
  unfold f_MM_has
  rw [bit_at hL hp]
  cases L.testBit p <;> rfl
theorem M_liar {R x : Nat → Nat} {M : Mem} (hV : PV R) (hM : PM R (M 1)) {p : Nat} (hp : p < 32) : f_MM_isLiar M (nI p) = lie R p := by
  have := pv_lie hV
  unfold f_MM_isLiar
  rw [hM.1 6 (by decide), M_has (by omega) hp]
  rfl
theorem mcell_of (p v : Nat) : f_MM_cell (nI p) (nI v) = nI (4 * p + v) := by
  show (4 : Int32) * nI p + nI v = _
  rw [j4, pk_mul, nI_add]
theorem miI_nI {a b : Nat} (ha : a < 2 ^ 31) (hb : b < 2 ^ 31) : miI (nI a) (nI b) = nI (min a b) := by
  unfold miI
  by_cases h : b < a
  · rw [if_pos (nI_lt h ha), Nat.min_eq_right (by omega)]
  · rw [if_neg (nI_nlt (by omega) hb), Nat.min_eq_left (by omega)]
theorem maI_nI {a b : Nat} (ha : a < 2 ^ 31) (hb : b < 2 ^ 31) : maI (nI a) (nI b) = nI (max a b) := by
  unfold maI
  by_cases h : a < b
  · rw [if_pos (nI_lt h hb), Nat.max_eq_right (by omega)]
  · rw [if_neg (nI_nlt (by omega) ha), Nat.max_eq_left (by omega)]
theorem M_marks {M : Mem} {m L : Nat} (hm : m ≤ 8) (hL : L < 260) : ∃ M', f_MM_sends_W59 (nI m) (nI L) ((0 : Int32), M) = some M' ∧ (∀ a, a ≠ 16 → M' a = M a) ∧ (∀ j, (∀ i, i < m → j ≠ 8 * L + i) → M' 16 j = M 16 j) ∧ ∀ i, i < m → M' 16 (8 * L + i) = M 8 i := by
  unfold f_MM_sends_W59
  refine loop_enc (fun i s => (nI i, s)) m (fun i N => (∀ a, a ≠ 16 → N a = M a) ∧ (∀ j, (∀ e, e < i → j ≠ 8 * L + e) → N 16 j = M 16 j) ∧ ∀ e, e < i → N 16 (8 * L + e) = M 8 e) _ ?_ ?_ 0 M (Nat.zero_le _) ⟨fun _ _ => rfl, fun _ _ => rfl, fun e he => absurd he (Nat.not_lt_zero e)⟩
  · rintro i N hi ⟨h1, h2, h3⟩
    refine Or.inl ⟨upM N 16 (8 * L + i) (M 8 i), ?_, fun a ha => ?_, fun j hj => ?_, fun e he => ?_⟩
    · show f_MM_sends_L59 (nI m) (nI L) (nI i) N = _
      unfold f_MM_sends_L59
      rw [if_neg (nI_ge (by omega) (by omega)), gIn_nI (by omega) (by decide), j8, pk_mul, nI_add, gIn_nI (by omega) (by decide), nI_clamp (by omega), nI_clamp (by omega), lt1_eq, h1 8 (by decide), nI_succ]
    · exact (upM_row ha).trans (h1 a ha)
    · exact (upM_ne (fun _ => hj i (by omega))).trans (h2 j (fun e he => hj e (by omega)))
    · by_cases q : e = i
      · subst q; exact upM_eq
      · exact (upM_ne (by omega)).trans (h3 e (by omega))
  · rintro N ⟨h1, h2, h3⟩
    refine ⟨N, ?_, h1, h2, h3⟩
    show f_MM_sends_L59 (nI m) (nI L) (nI m) N = _
    unfold f_MM_sends_L59
    rw [if_pos ((nI_leI (by omega) (by omega)).mpr (Nat.le_refl _))]
theorem M_use {R x : Nat → Nat} {M : Mem} (hV : PV R) (hM : PM R (M 1)) {t v m L cm : Nat} {mk U : Nat → Nat} (hm : m ≤ 8) (hL : L < 260) (ht : t < 8) (hv : v < 4) (hcm : cm ≤ 8) (h14 : M 14 L = cmI cm) (h8 : ∀ i, i < m → M 8 i = nI (mk i) ∧ mk i < 8) (hU : ∀ c, c < 32 → M 19 c = nI (U c) ∧ U c ≤ 1000) : ∃ M', f_MM_sends_W235 (nI t) (nI v) (nI m) (nI L) ((0 : Int32), M) = some M' ∧ (∀ a, a ≠ 19 → M' a = M a) ∧ ∀ c, c < 32 → M' 19 c = nI (if (lie R t && decide (cm ≠ 0) && anyB (fun i => c == 4 * mk i + v) m) = true then min (U c) (cm + 1) else U c) := by
  unfold f_MM_sends_W235
  by_cases hq : lie R t = true ∧ cm ≠ 0
  · obtain ⟨hq1, hq2⟩ := hq
    refine loop_enc (fun i s => (nI i, s)) m (fun i N => (∀ a, a ≠ 19 → N a = M a) ∧ ∀ c, c < 32 → N 19 c = nI (if anyB (fun i => c == 4 * mk i + v) i = true then min (U c) (cm + 1) else U c)) _ ?_ ?_ 0 M (Nat.zero_le _) ⟨fun _ _ => rfl, fun c hc => (hU c hc).1⟩
    · rintro i N hi ⟨h1, h2⟩
      have hN : PM R (N 1) := by rw [h1 1 (by decide)]; exact hM
      obtain ⟨g1, g2⟩ := h8 i (by omega)
      have hcl : 4 * mk i + v < 32 := by omega
      have e2 := h2 _ hcl
      have hUb := (hU _ hcl).2
      have ecm : cmI cm + 1 = nI (cm + 1) := by unfold cmI; rw [if_neg hq2, nI_succ]
      refine Or.inl ⟨upM N 19 (4 * mk i + v) (nI (min (if anyB (fun i_1 => 4 * mk i + v == 4 * mk i_1 + v) i = true then min (U (4 * mk i + v)) (cm + 1) else U (4 * mk i + v)) (cm + 1))), ?_, fun a ha => (upM_row ha).trans (h1 a ha), fun c hc => ?_⟩
      · show f_MM_sends_L235 (nI t) (nI v) (nI m) (nI L) (nI i) N = _
        unfold f_MM_sends_L235
        rw [if_neg (nI_ge (by omega) (by omega)), gIn_nI hL (by decide), nI_clamp (by omega), h1 14 (by decide), h14, if_neg (by unfold cmI; rw [if_neg hq2]; exact nI_neg1 (by omega)), M_liar (x := x) hV hN (by omega), hq1, if_neg (by decide), gIn_nI (by omega) (by decide), nI_clamp (by omega), h1 8 (by decide), g1, mcell_of, gIn_nI hcl (by decide), nI_clamp (by omega), lt1_eq, e2, ecm, miI_nI (by split <;> omega) (by omega), nI_succ]
      · by_cases q : c = 4 * mk i + v
        · subst q
          rw [upM_eq]
          congr 1
          have : anyB (fun i_1 => 4 * mk i + v == 4 * mk i_1 + v) (i + 1) = true := anyB_iff.mpr ⟨i, by omega, by simp⟩
          rw [if_pos this]
          split <;> omega
        · rw [upM_ne (fun _ => q), h2 c hc]
          congr 1
          have : anyB (fun i_1 => c == 4 * mk i_1 + v) (i + 1) = anyB (fun i_1 => c == 4 * mk i_1 + v) i := by
            show (anyB _ i || (c == 4 * mk i + v)) = _
            rw [show (c == 4 * mk i + v) = false by simpa using q, Bool.or_false]
          rw [this]
    · rintro N ⟨h1, h2⟩
      refine ⟨N, ?_, h1, fun c hc => ?_⟩
      · show f_MM_sends_L235 (nI t) (nI v) (nI m) (nI L) (nI m) N = _
        unfold f_MM_sends_L235
        rw [if_pos ((nI_leI (by omega) (by omega)).mpr (Nat.le_refl _))]
      · rw [h2 c hc, hq1]
        simp [hq2]
  · refine ⟨M, ?_, fun _ _ => rfl, fun c hc => ?_⟩
    · refine loop_inr ?_
      show f_MM_sends_L235 (nI t) (nI v) (nI m) (nI L) 0 M = _
      unfold f_MM_sends_L235
      by_cases he : m ≤ 0
      · rw [j0, if_pos ((nI_leI (by omega) (by omega)).mpr he)]
      · rw [j0, if_neg (nI_ge (by omega) (by omega)), gIn_nI hL (by decide), nI_clamp (by omega), h14]
        by_cases hz : cm = 0
        · rw [if_pos (by unfold cmI; rw [if_pos hz])]
        · rw [if_neg (by unfold cmI; rw [if_neg hz]; exact nI_neg1 (by omega)), M_liar (x := x) hV hM (by omega), show lie R t = false by
            cases e : lie R t with
            | false => rfl
            | true => exact absurd ⟨e, hz⟩ hq]
          rfl
    · rw [(hU c hc).1, if_neg]
      intro q
      simp only [Bool.and_eq_true, decide_eq_true_eq] at q
      exact hq q.1
