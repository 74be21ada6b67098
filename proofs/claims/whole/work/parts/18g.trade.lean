/-! trade, in the reference -/
theorem M_tr1 {M : Mem} {a b cnt : Nat} {f t : Nat → Nat} (ha : a < 8) (hb : b < 8) (hc : cnt ≤ 12) (h8 : M 1 8 = nI cnt) (hf : ∀ l, l < cnt → f l < 8 ∧ t l < 8 ∧ M 1 (218 + 3 * l + 1) = nI (f l) ∧ M 1 (218 + 3 * l + 2) = nI (t l)) : ∃ M', f_MM_trade_W95 (nI a) (nI b) (nI 1) ((0 : Int32), M) = some M' ∧ (∀ c, c ≠ 1 → M' c = M c) ∧ (∀ j, (j < 218 ∨ 218 + 3 * cnt ≤ j) → M' 1 j = M 1 j) ∧ ∀ l, l < cnt → M' 1 (218 + 3 * l) = M 1 (218 + 3 * l) ∧ M' 1 (218 + 3 * l + 1) = nI (swN (f l) a b) ∧ M' 1 (218 + 3 * l + 2) = nI (swN (t l) a b) := by
  unfold f_MM_trade_W95
  have ep : f_MM_placeOf (nI 1) = nI 218 := rfl
  have ew : f_MM_wideOf (nI 1) = nI 3 := rfl
  have g302 : ∀ {α : Type} (a : Option α), gIn ((7 : Int32) + nI 1) 302 a = a := fun a => gIn_nI (j := 8) (by decide) (by decide)
  have c8 : ((7 : Int32) + nI 1).toNatClampNeg = 8 := rfl
  suffices hh : ∃ r, loop (fun t => f_MM_trade_L95 (nI a) (nI b) (nI 1) t.1 t.2) ((fun (i : Nat) (s : Mem) => (nI i, s)) 0 M) = some r ∧ (∀ c, c ≠ 1 → r c = M c) ∧ (∀ j, (j < 218 ∨ 218 + 3 * cnt ≤ j) → r 1 j = M 1 j) ∧ ∀ l, l < cnt → r 1 (218 + 3 * l) = M 1 (218 + 3 * l) ∧ r 1 (218 + 3 * l + 1) = nI (swN (f l) a b) ∧ r 1 (218 + 3 * l + 2) = nI (swN (t l) a b) from hh
  refine loop_enc (fun i s => (nI i, s)) cnt (fun i N => (∀ c, c ≠ 1 → N c = M c) ∧ (∀ l, l < i → N 1 (218 + 3 * l) = M 1 (218 + 3 * l) ∧ N 1 (218 + 3 * l + 1) = nI (swN (f l) a b) ∧ N 1 (218 + 3 * l + 2) = nI (swN (t l) a b)) ∧ ∀ j, (j < 218 ∨ 218 + 3 * i ≤ j) → N 1 j = M 1 j) _ ?_ ?_ 0 M (Nat.zero_le _) ⟨fun _ _ => rfl, fun l hl => absurd hl (Nat.not_lt_zero l), fun _ _ => rfl⟩
  · rintro i N hi ⟨g1, g2, g3⟩
    obtain ⟨f1, f2, f3, f4⟩ := hf i hi
    have N0 : N 1 8 = nI cnt := (g3 _ (by omega)).trans h8
    have N1 : N 1 (218 + 3 * i + 1) = nI (f i) := (g3 _ (by omega)).trans f3
    have N2 : ∀ x, upM N 1 (218 + 3 * i + 1) x 1 (218 + 3 * i + 2) = nI (t i) := fun x => (upM_ne (by omega)).trans ((g3 _ (by omega)).trans f4)
    left
    refine ⟨upM (upM N 1 (218 + 3 * i + 1) (nI (swN (f i) a b))) 1 (218 + 3 * i + 2) (nI (swN (t i) a b)), ?_, fun c hc => (upM_row hc).trans ((upM_row hc).trans (g1 c hc)), fun l hl => ?_, fun j hj => (upM_ne (by omega)).trans ((upM_ne (by omega)).trans (g3 j (by omega)))⟩
    · show f_MM_trade_L95 (nI a) (nI b) (nI 1) (nI i) N = _
      have mk : ∀ X : Mem, f_MM_trade_J175 X (nI a) (nI b) (nI 1) (nI i) (nI (218 + 3 * i)) 0 = some (.inl (nI (i + 1), X)) := fun X => by
        unfold f_MM_trade_J175 f_MM_trade_W175
        rw [loop_inr (r := X) (by
          show f_MM_trade_L175 (nI a) (nI b) (nI 1) (nI (218 + 3 * i)) 0 X = _
          unfold f_MM_trade_L175
          rw [if_neg (by decide), if_neg (show ¬ nI 1 = 0 by decide)]), bnd_some, ← nI_succ]
      unfold f_MM_trade_L95
      rw [g302, c8, N0, if_neg (nI_ge hi (by omega)), ep, ew, pk_mul, nI_add, j1, nI_add, gIn_nI (by omega) (by decide), lt1_eq, nI_clamp (by omega), N1, M_sw (by omega) (by omega) (by omega), j2, nI_add, gIn_nI (by omega) (by decide), lt1_eq, nI_clamp (by omega), N2, M_sw (by omega) (by omega) (by omega), mk]
    · by_cases e : l = i
      · subst e
        exact ⟨(upM_ne (by omega)).trans ((upM_ne (by omega)).trans (g3 _ (by omega))), (upM_ne (by omega)).trans upM_eq, upM_eq⟩
      · obtain ⟨b1, b2, b3⟩ := g2 l (by omega)
        exact ⟨(upM_ne (by omega)).trans ((upM_ne (by omega)).trans b1), (upM_ne (by omega)).trans ((upM_ne (by omega)).trans b2), (upM_ne (by omega)).trans ((upM_ne (by omega)).trans b3)⟩
  · rintro N ⟨g1, g2, g3⟩
    have N0 : N 1 8 = nI cnt := (g3 _ (by omega)).trans h8
    refine ⟨N, ?_, g1, fun j hj => g3 j hj, g2⟩
    show f_MM_trade_L95 (nI a) (nI b) (nI 1) (nI cnt) N = _
    unfold f_MM_trade_L95
    rw [g302, c8, N0, if_pos ((nI_leI (by omega) (by omega)).mpr (Nat.le_refl _))]
theorem M_tr2 {M : Mem} {a b cnt : Nat} {f t : Nat → Nat} (ha : a < 8) (hb : b < 8) (hc : cnt ≤ 12) (h8 : M 1 9 = nI cnt) (hf : ∀ l, l < cnt → f l < 8 ∧ t l < 8 ∧ M 1 (254 + 4 * l + 1) = nI (f l) ∧ M 1 (254 + 4 * l + 2) = nI (t l)) : ∃ M', f_MM_trade_W95 (nI a) (nI b) (nI 2) ((0 : Int32), M) = some M' ∧ (∀ c, c ≠ 1 → M' c = M c) ∧ (∀ j, (j < 254 ∨ 254 + 4 * cnt ≤ j) → M' 1 j = M 1 j) ∧ ∀ l, l < cnt → M' 1 (254 + 4 * l) = M 1 (254 + 4 * l) ∧ M' 1 (254 + 4 * l + 1) = nI (swN (f l) a b) ∧ M' 1 (254 + 4 * l + 2) = nI (swN (t l) a b) ∧ M' 1 (254 + 4 * l + 3) = M 1 (254 + 4 * l + 3) := by
  unfold f_MM_trade_W95
  have ep : f_MM_placeOf (nI 2) = nI 254 := rfl
  have ew : f_MM_wideOf (nI 2) = nI 4 := rfl
  have g302 : ∀ {α : Type} (a : Option α), gIn ((7 : Int32) + nI 2) 302 a = a := fun a => gIn_nI (j := 9) (by decide) (by decide)
  have c8 : ((7 : Int32) + nI 2).toNatClampNeg = 9 := rfl
  suffices hh : ∃ r, loop (fun t => f_MM_trade_L95 (nI a) (nI b) (nI 2) t.1 t.2) ((fun (i : Nat) (s : Mem) => (nI i, s)) 0 M) = some r ∧ (∀ c, c ≠ 1 → r c = M c) ∧ (∀ j, (j < 254 ∨ 254 + 4 * cnt ≤ j) → r 1 j = M 1 j) ∧ ∀ l, l < cnt → r 1 (254 + 4 * l) = M 1 (254 + 4 * l) ∧ r 1 (254 + 4 * l + 1) = nI (swN (f l) a b) ∧ r 1 (254 + 4 * l + 2) = nI (swN (t l) a b) ∧ r 1 (254 + 4 * l + 3) = M 1 (254 + 4 * l + 3) from hh
  refine loop_enc (fun i s => (nI i, s)) cnt (fun i N => (∀ c, c ≠ 1 → N c = M c) ∧ (∀ l, l < i → N 1 (254 + 4 * l) = M 1 (254 + 4 * l) ∧ N 1 (254 + 4 * l + 1) = nI (swN (f l) a b) ∧ N 1 (254 + 4 * l + 2) = nI (swN (t l) a b) ∧ N 1 (254 + 4 * l + 3) = M 1 (254 + 4 * l + 3)) ∧ ∀ j, (j < 254 ∨ 254 + 4 * i ≤ j) → N 1 j = M 1 j) _ ?_ ?_ 0 M (Nat.zero_le _) ⟨fun _ _ => rfl, fun l hl => absurd hl (Nat.not_lt_zero l), fun _ _ => rfl⟩
  · rintro i N hi ⟨g1, g2, g3⟩
    obtain ⟨f1, f2, f3, f4⟩ := hf i hi
    have N0 : N 1 9 = nI cnt := (g3 _ (by omega)).trans h8
    have N1 : N 1 (254 + 4 * i + 1) = nI (f i) := (g3 _ (by omega)).trans f3
    have N2 : ∀ x, upM N 1 (254 + 4 * i + 1) x 1 (254 + 4 * i + 2) = nI (t i) := fun x => (upM_ne (by omega)).trans ((g3 _ (by omega)).trans f4)
    left
    refine ⟨upM (upM N 1 (254 + 4 * i + 1) (nI (swN (f i) a b))) 1 (254 + 4 * i + 2) (nI (swN (t i) a b)), ?_, fun c hc => (upM_row hc).trans ((upM_row hc).trans (g1 c hc)), fun l hl => ?_, fun j hj => (upM_ne (by omega)).trans ((upM_ne (by omega)).trans (g3 j (by omega)))⟩
    · show f_MM_trade_L95 (nI a) (nI b) (nI 2) (nI i) N = _
      have mk : ∀ X : Mem, f_MM_trade_J175 X (nI a) (nI b) (nI 2) (nI i) (nI (254 + 4 * i)) 0 = some (.inl (nI (i + 1), X)) := fun X => by
        unfold f_MM_trade_J175 f_MM_trade_W175
        rw [loop_inr (r := X) (by
          show f_MM_trade_L175 (nI a) (nI b) (nI 2) (nI (254 + 4 * i)) 0 X = _
          unfold f_MM_trade_L175
          rw [if_neg (by decide), if_neg (show ¬ nI 2 = 0 by decide)]), bnd_some, ← nI_succ]
      unfold f_MM_trade_L95
      rw [g302, c8, N0, if_neg (nI_ge hi (by omega)), ep, ew, pk_mul, nI_add, j1, nI_add, gIn_nI (by omega) (by decide), lt1_eq, nI_clamp (by omega), N1, M_sw (by omega) (by omega) (by omega), j2, nI_add, gIn_nI (by omega) (by decide), lt1_eq, nI_clamp (by omega), N2, M_sw (by omega) (by omega) (by omega), mk]
    · by_cases e : l = i
      · subst e
        exact ⟨(upM_ne (by omega)).trans ((upM_ne (by omega)).trans (g3 _ (by omega))), (upM_ne (by omega)).trans upM_eq, upM_eq, (upM_ne (by omega)).trans ((upM_ne (by omega)).trans (g3 _ (by omega)))⟩
      · obtain ⟨b1, b2, b3, b4⟩ := g2 l (by omega)
        exact ⟨(upM_ne (by omega)).trans ((upM_ne (by omega)).trans b1), (upM_ne (by omega)).trans ((upM_ne (by omega)).trans b2), (upM_ne (by omega)).trans ((upM_ne (by omega)).trans b3), (upM_ne (by omega)).trans ((upM_ne (by omega)).trans b4)⟩
  · rintro N ⟨g1, g2, g3⟩
    have N0 : N 1 9 = nI cnt := (g3 _ (by omega)).trans h8
    refine ⟨N, ?_, g1, fun j hj => g3 j hj, g2⟩
    show f_MM_trade_L95 (nI a) (nI b) (nI 2) (nI cnt) N = _
    unfold f_MM_trade_L95
    rw [g302, c8, N0, if_pos ((nI_leI (by omega) (by omega)).mpr (Nat.le_refl _))]
/-- the marks of one letter -/
theorem M_trM {M : Mem} {a b q m : Nat} {mk : Nat → Nat} (ha : a < 8) (hb : b < 8) (hm : m ≤ 8) (hq : q + 13 ≤ 302) (h4 : M 1 (q + 4) = nI m) (h5 : ∀ i, i < m → mk i < 8 ∧ M 1 (q + 5 + i) = nI (mk i)) : ∃ M', f_MM_trade_W175 (nI a) (nI b) (nI 0) (nI q) ((0 : Int32), M) = some M' ∧ (∀ c, c ≠ 1 → M' c = M c) ∧ (∀ j, (j < q + 5 ∨ q + 13 ≤ j) → M' 1 j = M 1 j) ∧ ∀ i, i < m → M' 1 (q + 5 + i) = nI (swN (mk i) a b) := by
  unfold f_MM_trade_W175
  suffices hh : ∃ r, loop (fun t => f_MM_trade_L175 (nI a) (nI b) (nI 0) (nI q) t.1 t.2) ((fun (i : Nat) (s : Mem) => (nI i, s)) 0 M) = some r ∧ (∀ c, c ≠ 1 → r c = M c) ∧ (∀ j, (j < q + 5 ∨ q + 13 ≤ j) → r 1 j = M 1 j) ∧ ∀ i, i < m → r 1 (q + 5 + i) = nI (swN (mk i) a b) from hh
  refine loop_enc (fun i s => (nI i, s)) 8 (fun i N => (∀ c, c ≠ 1 → N c = M c) ∧ (∀ j, (j < q + 5 ∨ q + 5 + i ≤ j) → N 1 j = M 1 j) ∧ ∀ k, k < i → k < m → N 1 (q + 5 + k) = nI (swN (mk k) a b)) _ ?_ ?_ 0 M (Nat.zero_le _) ⟨fun _ _ => rfl, fun _ _ => rfl, fun k hk => absurd hk (Nat.not_lt_zero k)⟩
  · rintro i N hi ⟨g1, g2, g3⟩
    have N4 : N 1 (q + 4) = nI m := (g2 _ (by omega)).trans h4
    have wr : ∀ y : Int32, f_MM_trade_J233 N (nI a) (nI b) (nI 0) (nI q) (nI i) y (nI q + 5 + nI i) = some (.inl (nI (i + 1), upM N 1 (q + 5 + i) y)) := fun y => by
      unfold f_MM_trade_J233
      rw [j5, nI_add, nI_add, gIn_nI (by omega) (by decide), lt1_eq, nI_clamp (by omega), ← nI_succ]
    have fin : ∀ y : Int32, (i < m → y = nI (swN (mk i) a b)) → (∀ c, c ≠ 1 → upM N 1 (q + 5 + i) y c = M c) ∧ (∀ j, (j < q + 5 ∨ q + 5 + (i + 1) ≤ j) → upM N 1 (q + 5 + i) y 1 j = M 1 j) ∧ ∀ k, k < i + 1 → k < m → upM N 1 (q + 5 + i) y 1 (q + 5 + k) = nI (swN (mk k) a b) := fun y hy => by
      refine ⟨fun c hc => (upM_row hc).trans (g1 c hc), fun j hj => (upM_ne (by omega)).trans (g2 j (by omega)), fun k hk hkm => ?_⟩
      by_cases e : k = i
      · subst e
        rw [upM_eq]
        exact hy hkm
      · exact (upM_ne (by omega)).trans (g3 k (by omega) hkm)
    left
    by_cases w : m ≤ i
    · refine ⟨upM N 1 (q + 5 + i) 0, ?_, fin 0 (fun z => by omega)⟩
      show f_MM_trade_L175 (nI a) (nI b) (nI 0) (nI q) (nI i) N = _
      unfold f_MM_trade_L175
      rw [j8, if_neg (nI_ge hi (by decide)), if_pos (show nI 0 = (0 : Int32) from rfl), j4, nI_add, gIn_nI (by omega) (by decide), nI_clamp (show q + 4 < 2 ^ 31 by omega), N4, if_pos ((nI_leI (by omega) (by omega)).mpr w), wr]
    · obtain ⟨k1, k2⟩ := h5 i (by omega)
      have N5 : N 1 (q + 5 + i) = nI (mk i) := (g2 _ (by omega)).trans k2
      refine ⟨upM N 1 (q + 5 + i) (nI (swN (mk i) a b)), ?_, fin _ (fun _ => rfl)⟩
      show f_MM_trade_L175 (nI a) (nI b) (nI 0) (nI q) (nI i) N = _
      unfold f_MM_trade_L175
      have c5 : (nI q + 5 + nI i).toNatClampNeg = q + 5 + i := by rw [j5, nI_add, nI_add, nI_clamp (by omega)]
      have g5 : ∀ {α : Type} (a : Option α), gIn (nI q + 5 + nI i) 302 a = a := fun a => by rw [j5, nI_add, nI_add]; exact gIn_nI (by omega) (by decide)
      rw [j8, if_neg (nI_ge hi (by decide)), if_pos (show nI 0 = (0 : Int32) from rfl), j4, nI_add, gIn_nI (by omega) (by decide), nI_clamp (show q + 4 < 2 ^ 31 by omega), N4, if_neg (nI_ge (by omega) (by omega)), g5, c5, N5, M_sw (by omega) (by omega) (by omega), wr]
  · rintro N ⟨g1, g2, g3⟩
    refine ⟨N, ?_, g1, fun j hj => g2 j (by omega), fun i hi => g3 i (by omega) hi⟩
    show f_MM_trade_L175 (nI a) (nI b) (nI 0) (nI q) (nI 8) N = _
    unfold f_MM_trade_L175
    rw [if_pos (show (8 : Int32) ≤ nI 8 by decide)]
theorem M_tr0 {R : Nat → Nat} {M : Mem} {a b : Nat} (hV : PV R) (ha : a < 8) (hb : b < 8) (h7 : M 1 7 = nI (R 7)) (hl : ∀ l i, l < R 7 → i < 5 + R (10 + 13 * l + 4) → M 1 (10 + 13 * l + i) = nI (R (10 + 13 * l + i))) : ∃ M', f_MM_trade_W95 (nI a) (nI b) (nI 0) ((0 : Int32), M) = some M' ∧ (∀ c, c ≠ 1 → M' c = M c) ∧ (∀ j, (j < 10 ∨ 10 + 13 * R 7 ≤ j) → M' 1 j = M 1 j) ∧ ∀ l i, l < R 7 → i < 5 + R (10 + 13 * l + 4) → M' 1 (10 + 13 * l + i) = nI (swR R a b (10 + 13 * l + i)) := by
  have hn := pv_n hV
  have v7 := hV.2.2.2.2.2.2.2.2.1
  have va := hV.2.2.2.2.2.2.2.2.2.2.2.1
  unfold f_MM_trade_W95
  have ep : f_MM_placeOf (nI 0) = nI 10 := rfl
  have ew : f_MM_wideOf (nI 0) = nI 13 := rfl
  have g302 : ∀ {α : Type} (a : Option α), gIn ((7 : Int32) + nI 0) 302 a = a := fun a => gIn_nI (j := 7) (by decide) (by decide)
  have c8 : ((7 : Int32) + nI 0).toNatClampNeg = 7 := rfl
  suffices hh : ∃ r, loop (fun t => f_MM_trade_L95 (nI a) (nI b) (nI 0) t.1 t.2) ((fun (i : Nat) (s : Mem) => (nI i, s)) 0 M) = some r ∧ (∀ c, c ≠ 1 → r c = M c) ∧ (∀ j, (j < 10 ∨ 10 + 13 * R 7 ≤ j) → r 1 j = M 1 j) ∧ ∀ l i, l < R 7 → i < 5 + R (10 + 13 * l + 4) → r 1 (10 + 13 * l + i) = nI (swR R a b (10 + 13 * l + i)) from hh
  refine loop_enc (fun i s => (nI i, s)) (R 7) (fun l N => (∀ c, c ≠ 1 → N c = M c) ∧ (∀ l' i, l' < l → i < 5 + R (10 + 13 * l' + 4) → N 1 (10 + 13 * l' + i) = nI (swR R a b (10 + 13 * l' + i))) ∧ ∀ j, (j < 10 ∨ 10 + 13 * l ≤ j) → N 1 j = M 1 j) _ ?_ ?_ 0 M (Nat.zero_le _) ⟨fun _ _ => rfl, fun l i hl => absurd hl (Nat.not_lt_zero l), fun _ _ => rfl⟩
  · rintro l N hi ⟨g1, g2, g3⟩
    obtain ⟨⟨w1, w2, w3, w4, w5⟩, w6, w7, w8, w9, -⟩ := va l hi
    have N0 : N 1 7 = nI (R 7) := (g3 _ (by omega)).trans h7
    have N1 : N 1 (10 + 13 * l + 1) = nI (R (10 + 13 * l + 1)) := (g3 _ (by omega)).trans (hl l 1 hi (by omega))
    have N2 : ∀ x, upM N 1 (10 + 13 * l + 1) x 1 (10 + 13 * l + 2) = nI (R (10 + 13 * l + 2)) := fun x => (upM_ne (by omega)).trans ((g3 _ (by omega)).trans (hl l 2 hi (by omega)))
    obtain ⟨X, hX⟩ : ∃ X, X = upM (upM N 1 (10 + 13 * l + 1) (nI (swN (R (10 + 13 * l + 1)) a b))) 1 (10 + 13 * l + 2) (nI (swN (R (10 + 13 * l + 2)) a b)) := ⟨_, rfl⟩
    have Xo : ∀ j, j ≠ 10 + 13 * l + 1 → j ≠ 10 + 13 * l + 2 → X 1 j = N 1 j := fun j e1 e2 => by rw [hX, upM_ne (fun _ => e2), upM_ne (fun _ => e1)]
    have Xr : ∀ c, c ≠ 1 → X c = N c := fun c hc => by rw [hX, upM_row hc, upM_row hc]
    obtain ⟨Y, y1, y2, y3, y4⟩ := M_trM (M := X) (a := a) (b := b) (q := 10 + 13 * l) (m := R (10 + 13 * l + 4)) (mk := fun i => R (10 + 13 * l + 5 + i)) ha hb w8 (by omega) ((Xo _ (by omega) (by omega)).trans ((g3 _ (by omega)).trans (hl l 4 hi (by omega)))) (fun i hi' => ⟨by have := w9 i hi'; show R (10 + 13 * l + 5 + i) < 8; omega, by
      rw [Xo _ (by omega) (by omega), g3 _ (by omega), Nat.add_assoc (10 + 13 * l), hl l (5 + i) hi (by omega)]⟩)
    left
    refine ⟨Y, ?_, fun c hc => (y2 c hc).trans ((Xr c hc).trans (g1 c hc)), fun l' i hl' hi' => ?_, fun j hj => (y3 j (by omega)).trans ((Xo j (by omega) (by omega)).trans (g3 j (by omega)))⟩
    · show f_MM_trade_L95 (nI a) (nI b) (nI 0) (nI l) N = _
      unfold f_MM_trade_L95
      rw [g302, c8, N0, if_neg (nI_ge hi (by omega)), ep, ew, pk_mul, nI_add, j1, nI_add, gIn_nI (by omega) (by decide), lt1_eq, nI_clamp (by omega), N1, M_sw (by omega) (by omega) (by omega), j2, nI_add, gIn_nI (by omega) (by decide), lt1_eq, nI_clamp (by omega), N2, M_sw (by omega) (by omega) (by omega), ← hX]
      unfold f_MM_trade_J175
      rw [y1, bnd_some, ← nI_succ]
    · by_cases e : l' = l
      · subst e
        rw [swR_pl (by omega) (by omega)]
        by_cases e5 : 5 ≤ i
        · have := y4 (i - 5) (by omega)
          rw [show 10 + 13 * l' + 5 + (i - 5) = 10 + 13 * l' + i by omega] at this
          rw [this, if_pos (by omega)]
        · rw [y3 _ (by omega)]
          by_cases e1 : i = 1
          · subst e1
            rw [if_pos (by omega), hX, upM_ne (by omega), upM_eq]
          · by_cases e2 : i = 2
            · subst e2
              rw [if_pos (by omega), hX, upM_eq]
            · rw [if_neg (by omega), Xo _ (by omega) (by omega), g3 _ (by omega)]
              exact hl l' i hi hi'
      · have w8' := (va l' (by omega)).2.2.2.1
        rw [y3 _ (by omega), Xo _ (by omega) (by omega)]
        exact g2 l' i (by omega) hi'
  · rintro N ⟨g1, g2, g3⟩
    have N0 : N 1 7 = nI (R 7) := (g3 _ (by omega)).trans h7
    refine ⟨N, ?_, g1, fun j hj => g3 j hj, g2⟩
    show f_MM_trade_L95 (nI a) (nI b) (nI 0) (nI (R 7)) N = _
    unfold f_MM_trade_L95
    rw [g302, c8, N0, if_pos ((nI_leI (by omega) (by omega)).mpr (Nat.le_refl _))]
def acL (R : Nat → Nat) (a b : Nat) : Nat → Nat
  | 0 => 0
  | i + 1 => acL R a b i ||| (if lie R i = true then 2 ^ swN i a b else 0)
theorem acL_bit (R : Nat → Nat) (a b p : Nat) : ∀ n, (acL R a b n).testBit p = anyB (fun x => lie R x && decide (swN x a b = p)) n := by
  intro n
  induction n with
  | zero => exact Nat.zero_testBit p
  | succ n ih =>
    show (acL R a b n ||| (if lie R n = true then 2 ^ swN n a b else 0)).testBit p = (anyB (fun x => lie R x && decide (swN x a b = p)) n || (lie R n && decide (swN n a b = p)))
    rw [Nat.testBit_or, ih]
    cases lie R n
    · simp
    · simp [Nat.testBit_two_pow]
theorem acL_8 {R : Nat → Nat} {a b : Nat} (hV : PV R) (ha : a < R 0) (hb : b < R 0) : acL R a b 8 = swL R a b := by
  have hn := pv_n hV
  have v6 := hV.2.2.2.2.2.2.2.1
  refine Nat.eq_of_testBit_eq (fun p => ?_)
  rw [acL_bit, swL_bit hV ha hb]
  cases e : lie R (swN p a b)
  · refine anyB_f.mpr (fun x hx => ?_)
    by_cases w : swN x a b = p
    · rw [← w, swN_sw] at e
      rw [e]; rfl
    · rw [decide_eq_false w, Bool.and_false]
  · refine anyB_iff.mpr ⟨swN p a b, ?_, ?_⟩
    · refine Nat.lt_of_not_le (fun q => ?_)
      unfold lie at e
      rw [Nat.testBit_lt_two_pow (Nat.lt_of_lt_of_le v6 (Nat.pow_le_pow_right (by decide) (by omega)))] at e
      cases e
    · rw [e, swN_sw]; simp
theorem M_trL {R : Nat → Nat} {M : Mem} {a b : Nat} (hV : PV R) (h6 : M 1 6 = nI (R 6)) (ha : a < R 0) (hb : b < R 0) : f_MM_trade_W37 M (nI a) (nI b) ((0 : Int32), (0 : Int32)) = some (nI (swL R a b)) := by
  have hn := pv_n hV
  have hl := pv_lie hV
  rw [← acL_8 hV ha hb]
  unfold f_MM_trade_W37
  refine loop_fn (fun i => (nI (acL R a b i), nI i)) 8 _ (fun i hi => ?_) ?_
  · show f_MM_trade_L37 M (nI a) (nI b) (nI (acL R a b i)) (nI i) = _
    have sl := swN_lt (x := i) (n := 8) hi (show a < 8 by omega) (show b < 8 by omega)
    unfold f_MM_trade_L37 f_MM_trade_J67 f_MM_isLiar
    rw [j8, if_neg (nI_ge hi (by decide)), h6, M_has (by omega) (by omega), M_sw (by omega) (by omega) (by omega), sh1 _ (by omega), ← nI_succ]
    have ea : acL R a b (i + 1) = acL R a b i ||| (if lie R i = true then 2 ^ swN i a b else 0) := rfl
    rw [ea, show (R 6).testBit i = lie R i from rfl]
    cases lie R i
    · rw [gF, show (0 : Int32) = nI 0 from rfl, fa_or]; rfl
    · rw [gT, fa_or]; rfl
  · show f_MM_trade_L37 M (nI a) (nI b) (nI (acL R a b 8)) (nI 8) = _
    unfold f_MM_trade_L37
    rw [if_pos (by decide)]
theorem M_trade {R : Nat → Nat} {M : Mem} {a b : Nat} (hV : PV R) (hM : PM R (M 1)) (ha : a < R 0) (hb : b < R 0) : ∃ M', f_MM_trade_J37 (upM M 1 1 (f_MM_traded (M 1 1) (nI a) (nI b))) (nI a) (nI b) 0 0 = some (nI (R 0), M') ∧ (∀ c, c ≠ 1 → M' c = M c) ∧ PM (swR R a b) (M' 1) := by
  have hn := pv_n hV
  have v7 := hV.2.2.2.2.2.2.2.2.1
  have v8 := hV.2.2.2.2.2.2.2.2.2.1
  have v9 := hV.2.2.2.2.2.2.2.2.2.2.1
  have va := hV.2.2.2.2.2.2.2.2.2.2.2.1
  have vb := hV.2.2.2.2.2.2.2.2.2.2.2.2.1
  have vc := hV.2.2.2.2.2.2.2.2.2.2.2.2.2.1
  have v0 := hV.1
  have h11 : M 1 1 = nI (R 1) := hM.1 1 (by decide)
  rw [h11, M_sw (by omega) (by omega) (by omega)]
  unfold f_MM_trade_J37
  rw [M_trL hV (by rw [upM_ne (by omega)]; exact hM.1 6 (by decide)) ha hb, bnd_some, lt1_eq]
  obtain ⟨A, hA⟩ : ∃ A, A = upM (upM M 1 1 (nI (swN (R 1) a b))) 1 6 (nI (swL R a b)) := ⟨_, rfl⟩
  rw [← hA]
  have Ao : ∀ j, j ≠ 1 → j ≠ 6 → A 1 j = M 1 j := fun j e1 e6 => by rw [hA, upM_ne (fun _ => e6), upM_ne (fun _ => e1)]
  have Ar : ∀ c, c ≠ 1 → A c = M c := fun c hc => by rw [hA, upM_row hc, upM_row hc]
  obtain ⟨B, b1, b2, b3, b4⟩ := M_tr0 (M := A) (a := a) (b := b) hV (by omega) (by omega) ((Ao 7 (by decide) (by decide)).trans (hM.1 7 (by decide))) (fun l i hl hi => (Ao _ (by omega) (by omega)).trans (hM.2.1 l i hl hi))
  obtain ⟨C, c1, c2, c3, c4⟩ := M_tr1 (M := B) (a := a) (b := b) (cnt := R 8) (f := fun l => R (218 + 3 * l + 1)) (t := fun l => R (218 + 3 * l + 2)) (by omega) (by omega) v8 ((b3 8 (by omega)).trans ((Ao 8 (by decide) (by decide)).trans (hM.1 8 (by decide)))) (fun l hl => by
    have w3 := (vb l hl).2.2.1
    have w4 := (vb l hl).2.2.2.1
    exact ⟨by show R (218 + 3 * l + 1) < 8; omega, by show R (218 + 3 * l + 2) < 8; omega, by rw [b3 _ (by omega), Ao _ (by omega) (by omega)]; exact hM.2.2.1 l 1 hl (by decide), by rw [b3 _ (by omega), Ao _ (by omega) (by omega)]; exact hM.2.2.1 l 2 hl (by decide)⟩)
  obtain ⟨D, d1, d2, d3, d4⟩ := M_tr2 (M := C) (a := a) (b := b) (cnt := R 9) (f := fun l => R (254 + 4 * l + 1)) (t := fun l => R (254 + 4 * l + 2)) (by omega) (by omega) v9 ((c3 9 (by omega)).trans ((b3 9 (by omega)).trans ((Ao 9 (by decide) (by decide)).trans (hM.1 9 (by decide))))) (fun l hl => by
    have w3 := (vc l hl).1.2.2.1
    have w4 := (vc l hl).1.2.2.2.1
    exact ⟨by show R (254 + 4 * l + 1) < 8; omega, by show R (254 + 4 * l + 2) < 8; omega, by rw [c3 _ (by omega), b3 _ (by omega), Ao _ (by omega) (by omega)]; exact hM.2.2.2 l 1 hl (by decide), by rw [c3 _ (by omega), b3 _ (by omega), Ao _ (by omega) (by omega)]; exact hM.2.2.2 l 2 hl (by decide)⟩)
  have Dlo : ∀ j, j < 10 → D 1 j = A 1 j := fun j hj => by rw [d3 j (by omega), c3 j (by omega), b3 j (by omega)]
  refine ⟨D, ?_, fun c hc => by rw [d2 c hc, c2 c hc, b2 c hc, Ar c hc], fun i hi => ?_, fun l i hl hi => ?_, fun l i hl hi => ?_, fun l i hl hi => ?_⟩
  · unfold f_MM_trade_J86
    rw [bnd_id]
    unfold f_MM_trade_W86
    have s0 : f_MM_trade_L86 (nI a) (nI b) 0 A = some (.inl (1, B)) := by
      unfold f_MM_trade_L86 f_MM_trade_J95
      rw [if_neg (by decide)]
      rw [show f_MM_trade_W95 (nI a) (nI b) 0 (0, A) = some B from b1]
      rfl
    have s1 : f_MM_trade_L86 (nI a) (nI b) 1 B = some (.inl (2, C)) := by
      unfold f_MM_trade_L86 f_MM_trade_J95
      rw [if_neg (by decide)]
      rw [show f_MM_trade_W95 (nI a) (nI b) 1 (0, B) = some C from c1]
      rfl
    have s2 : f_MM_trade_L86 (nI a) (nI b) 2 C = some (.inl (3, D)) := by
      unfold f_MM_trade_L86 f_MM_trade_J95
      rw [if_neg (by decide)]
      rw [show f_MM_trade_W95 (nI a) (nI b) 2 (0, C) = some D from d1]
      rfl
    have s3 : f_MM_trade_L86 (nI a) (nI b) 3 D = some (.inr (nI (R 0), D)) := by
      unfold f_MM_trade_L86
      rw [if_pos (by decide), Dlo 0 (by decide), Ao 0 (by decide) (by decide), hM.1 0 (by decide)]
    rw [loop_inl (t := (1, B)) s0, loop_inl (t := (2, C)) s1, loop_inl (t := (3, D)) s2, loop_inr s3]
  · rw [Dlo i hi]
    by_cases e1 : i = 1
    · subst e1; rw [swR_1, hA, upM_ne (by omega), upM_eq]
    · by_cases e6 : i = 6
      · subst e6; rw [swR_6, hA, upM_eq]
      · rw [Ao i e1 e6, swR_lo hi e1 e6]; exact hM.1 i hi
  · rw [swR_lo (by decide) (by decide) (by decide)] at hl
    rw [show swR R a b (10 + 13 * l + 4) = R (10 + 13 * l + 4) from swR_pl (i := 4) (by omega) (by decide)] at hi
    have w8 := (va l hl).2.2.2.1
    rw [d3 _ (by omega), c3 _ (by omega)]
    exact b4 l i hl hi
  · rw [swR_lo (by decide) (by decide) (by decide)] at hl
    obtain ⟨q0, q1, q2⟩ := c4 l hl
    rw [d3 _ (by omega), swR_om (by omega) hi]
    rcases (show i = 0 ∨ i = 1 ∨ i = 2 by omega) with rfl | rfl | rfl
    · rw [if_pos rfl]
      show C 1 (218 + 3 * l) = _
      rw [q0, b3 _ (by omega), Ao _ (by omega) (by omega)]
      exact hM.2.2.1 l 0 hl (by decide)
    · exact q1
    · exact q2
  · rw [swR_lo (by decide) (by decide) (by decide)] at hl
    obtain ⟨q0, q1, q2, q3⟩ := d4 l hl
    rw [swR_lt hi]
    rcases (show i = 0 ∨ i = 1 ∨ i = 2 ∨ i = 3 by omega) with rfl | rfl | rfl | rfl
    · rw [if_neg (by decide)]
      show D 1 (254 + 4 * l) = _
      rw [q0, c3 _ (by omega), b3 _ (by omega), Ao _ (by omega) (by omega)]
      exact hM.2.2.2 l 0 hl (by decide)
    · exact q1
    · exact q2
    · rw [if_neg (by decide), q3, c3 _ (by omega), b3 _ (by omega), Ao _ (by omega) (by omega)]
      exact hM.2.2.2 l 3 hl (by decide)
theorem a_trade {Mc Mm : Mem} (h : Rel Mc Mm) (x1 x2 : Int32) : Act (f_MC_trade Mc x1 x2) (f_MM_trade Mm x1 x2) := by
  have hrel := h
  obtain ⟨⟨R, hP0⟩, -⟩ := h
  have hP0' := hP0
  obtain ⟨hV, hP, hM, hC, h28, hk⟩ := hP0'
  have hn := pv_n hV
  unfold f_MC_trade f_MM_trade
  rw [M_unlike hV hM, C_party hP.1 hn, C_party hP.1 hn]
  rcases inB_cases x1 (R 0) with w1 | ⟨a, ha, -, rfl, w1⟩
  · rw [w1]
    exact Act.no hrel rfl rfl
  · rcases inB_cases x2 (R 0) with w2 | ⟨b, hb, -, rfl, w2⟩
    · rw [w1, w2]
      exact Act.no hrel rfl rfl
    · rw [w1, w2, gT, gT, Bool.true_and, Bool.true_and]
      by_cases e : nI a = nI b
      · rw [if_pos e, decide_eq_false (fun z => z e)]
        exact Act.no hrel rfl rfl
      · rw [if_neg e, decide_eq_true e, gT]
        obtain ⟨Mc1, Mm1, r1, r2, r3, r4, r5, r6⟩ := act_fin8 (R' := swR R a b) hrel hP0
        have hPc : PC R Mc1 0 := hP.cg (fun a _ q => r3 a (by omega))
        have hM1 : PM R (Mm1 1) := by rw [r4 1 (by decide) (by decide)]; exact hM
        obtain ⟨Mc2, p1, p2, p3⟩ := C_swap hV hPc ha hb
        obtain ⟨Mm2, m1, m2, m3⟩ := M_trade hV hM1 ha hb
        obtain ⟨Mc3, q1, q2, q3⟩ := r6 Mc2 Mm2 p2 (fun a h1 _ => m2 a h1) (swR_PV hV ha hb) p3 m3
        refine ⟨nI (R 0), Mc3, Mm2, ?_, ?_, q2⟩
        · rw [r1, bnd_some, p1, bnd_some, q1, bnd_some, q3 0 (by omega), p3.1, swR_lo (by decide) (by decide) (by decide)]
        · rw [r2, bnd_some, lt1_eq, m1]
