/-! the reference's sending, whole -/
set_option maxHeartbeats 1000000 in
theorem M_comes {R x : Nat → Nat} {E : Mem} (hV : PV R) (hS : SM R x E) {r f t : Nat} (hr : 1 ≤ r) (hr8 : r ≤ 8) (hf : f < 8) (ht : t < 8) (x4 x5 : Int32) (L : Nat) (hL : L < 260) :
    (bnd (f_MM_faultOf E (2 : Int32) (nI r) (nI f) (nI t)) (fun y15 => if (E 0 28) = nI r then if (E 0 29) = nI f then if (E 0 30) = nI t then f_MM_sends_J131 E (nI r) (nI f) (nI t) x4 x5 (nI L) y15 (1 : Int32) else f_MM_sends_J130 E (nI r) (nI f) (nI t) x4 x5 (nI L) y15 else f_MM_sends_J130 E (nI r) (nI f) (nI t) x4 x5 (nI L) y15 else f_MM_sends_J130 E (nI r) (nI f) (nI t) x4 x5 (nI L) y15)) = f_MM_sends_J221 E (nI t) x4 x5 (nI L) (cmI (cmN R (dlM R x) r f t)) (nI L) := by
  obtain ⟨hM, hx0, hx, b0, b1, b2, b3⟩ := hS
  have hom := M_omit (M := E) hV hM (r := r) (f := f) (t := t) (by omega) (by omega) (by omega)
  have hlt := M_late (M := E) hV hM (r := r) (f := f) (t := t) (by omega) (by omega) (by omega)
  have hV' := hV
  obtain ⟨v0, v2, v3, v3', v4, v5, v5', v6, v7, v8, v9, vp, vo, vl, do', dl'⟩ := hV
  have hR3 : E 1 3 = nI (R 3) := hM.1 3 (by decide)
  -- with the omit known
  have J171 : ∀ (fl : Int32) (d : Nat), d < 100 → f_MM_sends_J171 E (nI r) (nI f) (nI t) x4 x5 (nI L) fl (nI d) (nI r) = f_MM_sends_J221 E (nI t) x4 x5 (nI L) (if omI R r f t < R 8 ∨ (fl ≠ 0 ∧ E 0 31 = 0) ∨ R 3 < r + d then -1 else nI (r + d)) (nI L) := by
    intro fl d hd
    unfold f_MM_sends_J171
    rw [hom, bnd_some]
    by_cases ho : omI R r f t < R 8
    · rw [if_pos ho, if_neg (nI_neg1 (by omega)), if_pos (Or.inl ho)]
      rfl
    · rw [if_neg ho, if_pos rfl]
      have J204 : f_MM_sends_J204 E (nI t) x4 x5 (nI L) (nI r + nI d) (nI L) = f_MM_sends_J221 E (nI t) x4 x5 (nI L) (if R 3 < r + d then -1 else nI (r + d)) (nI L) := by
        unfold f_MM_sends_J204
        rw [nI_add, hR3]
        by_cases h9 : R 3 < r + d
        · rw [if_neg (fun q => absurd ((nI_leI (by omega) (by omega)).mp q) (by omega)), if_pos h9]
          rfl
        · rw [if_pos ((nI_leI (by omega) (by omega)).mpr (by omega)), if_neg h9]
      by_cases hfl : fl = 0
      · rw [if_pos hfl, J204]
        congr 1
        by_cases h9 : R 3 < r + d
        · rw [if_pos h9, if_pos (Or.inr (Or.inr h9))]
        · rw [if_neg h9, if_neg (fun z => z.elim ho (fun z => z.elim (fun q => q.1 hfl) h9))]
      · rw [if_neg hfl]
        by_cases h31 : E 0 31 = 0
        · rw [if_pos h31, if_pos (Or.inr (Or.inl ⟨hfl, h31⟩))]
          rfl
        · rw [if_neg h31, J204]
          congr 1
          by_cases h9 : R 3 < r + d
          · rw [if_pos h9, if_pos (Or.inr (Or.inr h9))]
          · rw [if_neg h9, if_neg (fun z => z.elim ho (fun z => z.elim (fun q => h31 q.2) h9))]
  have J131n : ∀ y : Int32, y = (if ltI R r f t < R 9 then nI (ltI R r f t) else -1) → f_MM_sends_J131 E (nI r) (nI f) (nI t) x4 x5 (nI L) y (0 : Int32) = f_MM_sends_J221 E (nI t) x4 x5 (nI L) (if omI R r f t < R 8 ∨ R 3 < r + (if ltI R r f t < R 9 then R (254 + 4 * ltI R r f t + 3) else 0) then -1 else nI (r + (if ltI R r f t < R 9 then R (254 + 4 * ltI R r f t + 3) else 0))) (nI L) := by
    intro y hy
    unfold f_MM_sends_J131
    rw [if_pos rfl, hy]
    have fin : ∀ d, d < 100 → f_MM_sends_J171 E (nI r) (nI f) (nI t) x4 x5 (nI L) 0 (nI d) (nI r) = f_MM_sends_J221 E (nI t) x4 x5 (nI L) (if omI R r f t < R 8 ∨ R 3 < r + d then -1 else nI (r + d)) (nI L) := by
      intro d hd
      rw [J171 0 d hd]
      congr 1
      by_cases h9 : omI R r f t < R 8 ∨ R 3 < r + d
      · rw [if_pos h9, if_pos (h9.elim Or.inl (fun q => Or.inr (Or.inr q)))]
      · rw [if_neg h9, if_neg (fun z => h9 (z.elim Or.inl (fun z => z.elim (fun q => absurd rfl q.1) Or.inr)))]
    by_cases hl : ltI R r f t < R 9
    · have hby := vl _ hl
      have hrow := hM.2.2.2 (ltI R r f t) 3 hl (by decide)
      rw [if_pos hl, if_neg (nI_neg1 (by omega)), j254, j4, pk_mul, nI_add, j3, nI_add, gIn_nI (by omega) (by decide), nI_clamp (by omega), hrow, fin _ (by omega), if_pos hl]
    · rw [if_neg hl, if_pos rfl, if_neg hl]
      exact fin 0 (by decide)
  rw [hlt, bnd_some]
  by_cases hex : x 0 = r ∧ x 1 = f ∧ x 2 = t
  · obtain ⟨e0, e1, e2⟩ := hex
    obtain ⟨g1, g2, g3⟩ := hx (by omega)
    have e28 : E 0 28 = nI r := by rw [hx0]; unfold cmI; rw [if_neg (by omega), e0]
    rw [if_pos e28, if_pos (by rw [g1, e1]), if_pos (by rw [g2, e2])]
    unfold f_MM_sends_J131
    rw [if_neg (by decide), g3, J171 1 (x 3) b3]
    congr 1
    rw [cmI_cmN hr]
    unfold dlM
    by_cases ho : omI R r f t < R 8
    · rw [if_pos (Or.inl ho), if_pos ho, if_pos (by omega)]
    · rw [if_neg ho, if_pos (show x 0 = r ∧ x 1 = f ∧ x 2 = t from ⟨e0, e1, e2⟩), g3]
      by_cases h3 : x 3 = 0
      · rw [if_pos h3, if_pos (Or.inr (Or.inl ⟨by decide, by rw [h3]; rfl⟩)), if_pos (by omega)]
      · rw [if_neg h3]
        by_cases h9 : R 3 < r + x 3
        · rw [if_pos h9, if_pos (Or.inr (Or.inr h9))]
        · rw [if_neg h9, if_neg (fun z => z.elim ho (fun z => z.elim (fun q => h3 ((nI_eq (by omega) (by omega)).mp q.2)) h9))]
  · have hn : (if (E 0 28) = nI r then if (E 0 29) = nI f then if (E 0 30) = nI t then f_MM_sends_J131 E (nI r) (nI f) (nI t) x4 x5 (nI L) (if ltI R r f t < R 9 then nI (ltI R r f t) else -1) (1 : Int32) else f_MM_sends_J130 E (nI r) (nI f) (nI t) x4 x5 (nI L) (if ltI R r f t < R 9 then nI (ltI R r f t) else -1) else f_MM_sends_J130 E (nI r) (nI f) (nI t) x4 x5 (nI L) (if ltI R r f t < R 9 then nI (ltI R r f t) else -1) else f_MM_sends_J130 E (nI r) (nI f) (nI t) x4 x5 (nI L) (if ltI R r f t < R 9 then nI (ltI R r f t) else -1)) = f_MM_sends_J130 E (nI r) (nI f) (nI t) x4 x5 (nI L) (if ltI R r f t < R 9 then nI (ltI R r f t) else -1) := by
      by_cases q0 : E 0 28 = nI r
      · rw [if_pos q0]
        have hx00 : x 0 ≠ 0 := by
          intro z
          rw [hx0, z] at q0
          exact nI_neg1 (by omega) q0.symm
        have e0 : x 0 = r := by
          rw [hx0] at q0
          unfold cmI at q0
          rw [if_neg hx00] at q0
          exact (nI_eq (by omega) (by omega)).mp q0
        obtain ⟨g1, g2, g3⟩ := hx hx00
        by_cases q1 : E 0 29 = nI f
        · rw [if_pos q1]
          have e1 : x 1 = f := by rw [g1] at q1; exact (nI_eq (by omega) (by omega)).mp q1
          by_cases q2 : E 0 30 = nI t
          · have e2 : x 2 = t := by rw [g2] at q2; exact (nI_eq (by omega) (by omega)).mp q2
            exact absurd ⟨e0, e1, e2⟩ hex
          · rw [if_neg q2]
        · rw [if_neg q1]
      · rw [if_neg q0]
    rw [hn]
    unfold f_MM_sends_J130
    rw [J131n _ rfl]
    congr 1
    rw [cmI_cmN hr]
    unfold dlM
    by_cases ho : omI R r f t < R 8
    · rw [if_pos (Or.inl ho), if_pos ho, if_pos (by omega)]
    · rw [if_neg ho, if_neg hex]
      by_cases h9 : R 3 < r + (if ltI R r f t < R 9 then R (254 + 4 * ltI R r f t + 3) else 0)
      · rw [if_pos h9, if_pos (Or.inr h9)]
      · rw [if_neg h9, if_neg (fun z => z.elim ho h9)]

set_option maxHeartbeats 1000000 in
theorem M_sends {R x : Nat → Nat} {Q : Tab} {M : Mem} (hV : PV R) (hS : SM R x M) (hQ : RM Q M) (hU : ∀ c, c < 32 → Q 3 c ≤ 1000) (h4 : ∀ i, i < Q 0 0 → Q (5 + i) 4 ≤ 8) (hL : Q 0 0 < 260) {r f t v m : Nat} {mk : Nat → Nat} (hr : 1 ≤ r) (hr8 : r ≤ 8) (hf : f < 8) (ht : t < 8) (hv : v < 4) (hm : m ≤ 8) (h8 : ∀ i, i < m → M 8 i = nI (mk i) ∧ mk i < 8) : ∃ M', f_MM_sends M (nI r) (nI f) (nI t) (nI v) (nI m) = some M' ∧ RM (sSend R (dlM R x) (lrec r f t v m mk) Q) M' ∧ FrM M M' ∧ M' 8 = M 8 := by
  obtain ⟨q1, q2, q3, q4⟩ := hQ
  have e1 : (nI (Q 0 0)).toNatClampNeg = Q 0 0 := nI_clamp (by omega)
  obtain ⟨A, hA⟩ : ∃ A, A = upM (upM (upM (upM (upM (upM M 9 (Q 0 0) (nI r)) 10 (Q 0 0) (nI f)) 11 (Q 0 0) (nI t)) 12 (Q 0 0) (nI v)) 13 (Q 0 0) (nI m)) 15 (Q 0 0) 0 := ⟨_, rfl⟩
  obtain ⟨E, g1, g2, g3, g4⟩ := M_marks (M := A) hm hL
  have frA : FrM M A := by
    rw [hA]
    exact ((((((FrM.rf.up _ (by omega)).up _ (by omega)).up _ (by omega)).up _ (by omega)).up _ (by omega)).up _ (by omega))
  have frE : FrM M E := frA.tr ⟨fun a h1 h2 => g2 a (by omega), fun b _ _ => by rw [g2 0 (by decide)]⟩
  have hSE := hS.fr frE
  obtain ⟨cm, hcm⟩ : ∃ cm, cm = cmN R (dlM R x) r f t := ⟨_, rfl⟩
  have hcm8 : cm ≤ 8 := by
    by_cases z : cm = 0
    · omega
    · rw [hcm] at z ⊢
      have := (cmN_ge z).2
      have := hV.2.2.2.1
      omega
  have E8 : E 8 = M 8 := by rw [g2 8 (by decide), hA]; simp (disch := omega) only [upM_row]
  have E0 : E 0 21 = nI (Q 0 0) := by rw [g2 0 (by decide), hA]; simp (disch := omega) only [upM_row]; exact q1
  obtain ⟨B, hB⟩ : ∃ B, B = upM (upM E 14 (Q 0 0) (cmI cm)) 0 21 (nI (Q 0 0 + 1)) := ⟨_, rfl⟩
  have B1 : PM R (B 1) := by rw [hB]; simp (disch := omega) only [upM_row]; exact hSE.1
  have rowB : ∀ a, a ≠ 14 → a ≠ 0 → B a = E a := fun a h1 h2 => by rw [hB]; simp (disch := omega) only [upM_row]
  obtain ⟨C, c1, c2, c3⟩ := M_use (x := x) (M := B) hV B1 (t := t) (v := v) (m := m) (L := Q 0 0) (cm := cm) (mk := mk) (U := Q 3) hm hL ht hv hcm8 (by rw [hB]; simp (disch := omega) only [upM_row, upM_eq]) (fun i hi => by rw [rowB 8 (by decide) (by decide), E8]; exact h8 i hi) (fun c hc => ⟨by rw [rowB 19 (by decide) (by decide), g2 19 (by decide), hA]; simp (disch := omega) only [upM_row]; exact (q4 c hc).2.2, hU c hc⟩)
  refine ⟨C, ?_, ⟨?_, ?_, ?_, ?_⟩, ?_, ?_⟩
  · unfold f_MM_sends
    rw [q1, gIn_nI hL (by decide)]
    simp only [lt1_eq, e1]
    rw [← hA]
    unfold f_MM_sends_J59
    rw [g1, bnd_some, M_comes hV hSE hr hr8 hf ht _ _ _ hL, ← hcm]
    unfold f_MM_sends_J221
    rw [gIn_nI hL (by decide)]
    simp (disch := omega) only [lt1_eq, e1, upM_row]
    rw [E0, ← nI_succ, ← hB]
    unfold f_MM_sends_J235
    rw [bnd_id]
    exact c1
  · rw [c2 0 (by decide), hB, upM_eq]
    rfl
  · rw [c2 0 (by decide), hB, upM_ne (by omega), upM_row (by omega), g2 0 (by decide), hA]
    simp (disch := omega) only [upM_row]
    exact q2
  · intro i hi
    rw [sSend_L] at hi
    have hrow : ∀ a, a ≠ 19 → a ≠ 14 → a ≠ 0 → a ≠ 16 → C a = A a := fun a h1 h2 h3 h4 => by rw [c2 a h1, rowB a h2 h3, g2 a h4]
    have h14 : C 14 i = if i = Q 0 0 then cmI cm else M 14 i := by
      rw [c2 14 (by decide), hB, upM_row (by omega), upM_get, g2 14 (by decide), hA]
      simp (disch := omega) only [upM_row, true_and]
    unfold RMl
    rw [hrow 9 (by decide) (by decide) (by decide) (by decide), hrow 10 (by decide) (by decide) (by decide) (by decide), hrow 11 (by decide) (by decide) (by decide) (by decide), hrow 12 (by decide) (by decide) (by decide) (by decide), hrow 13 (by decide) (by decide) (by decide) (by decide), hrow 15 (by decide) (by decide) (by decide) (by decide), h14, c2 16 (by decide), rowB 16 (by decide) (by decide), hA]
    by_cases e : i = Q 0 0
    · subst e
      simp (disch := omega) only [sSend_new, sSend_4, ↓reduceIte, upM_row, upM_eq]
      refine ⟨rfl, rfl, rfl, rfl, rfl, by rw [hcm]; rfl, rfl, fun j hj => ?_⟩
      have hj' : j < m := hj
      rw [g4 j hj', hA, if_neg (by omega), lrec_6]
      simp (disch := omega) only [upM_row]
      exact (h8 j hj').1
    · obtain ⟨k1, k2, k3, k4, k5, k6, k7, k8⟩ := q3 i (by omega)
      simp (disch := omega) only [sSend_old R (dlM R x) _ Q _ e, sSend_4, if_neg e, upM_row, upM_ne]
      refine ⟨k1, k2, k3, k4, k5, k6, k7, fun j hj => ?_⟩
      rw [g3 (8 * i + j) (fun e' he' => ?_), hA]
      · simp (disch := omega) only [upM_row]
        exact k8 j hj
      · have := h4 i (by omega)
        omega
  · intro c hc
    obtain ⟨k1, k2, k3⟩ := q4 c hc
    rw [sSend_1, sSend_2, sSend_3, c3 c hc, c2 17 (by decide), c2 18 (by decide), rowB 17 (by decide) (by decide), rowB 18 (by decide) (by decide), g2 17 (by decide), g2 18 (by decide), hA]
    simp (disch := omega) only [upM_row]
    refine ⟨k1, k2, ?_⟩
    rw [hcm]
    simp only [lrec_6]
    rfl
  · exact frE.tr ⟨fun a h1 h2 => by rw [c2 a (by omega), rowB a (by omega) h1], fun b h1 h2 => by rw [c2 0 (by decide), hB, upM_ne (by omega), upM_row (by omega)]⟩
  · rw [c2 8 (by decide), rowB 8 (by decide) (by decide), E8]
