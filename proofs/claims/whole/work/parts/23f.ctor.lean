/-! the class's constructor -/
abbrev mc0 : List Value := [.null, .null, .null, .null, .null, .null, .int 0, .int 0]
abbrev mcFs (p0 qt n1 n2 qp qs : Nat) : List Value := [.ref p0, .ref qt, .ref n1, .ref n2, .ref qp, .ref qs, .int 0, .int 0]
abbrev rowE (cP : ClassId) (n : Nat) (f : Nat → Option Nat) : va_E := .inl (cP, n, .inr (.inr (.inr (.inr f))))
abbrev baseW (h0 p0 : Nat) (a0 : Nat → Nat) (qt qc p1 : Nat) (a1 : Nat → Nat) (n1 : Nat) (r1 : Nat → Nat) (n2 : Nat) (r2 : Nat → Nat) (qp qs : Nat) (cI cC cP : ClassId) (f g : Nat → Option Nat) : va_W := (((((([(h0, .inr (3, mcFs p0 qt n1 n2 qp qs))] ++ playW a0 cI p0 setRow) ++ tapeW qc cC a1 cI qt p1) ++ runW r1 cI n1 p0) ++ runW r2 cI n2 p0) ++ [(qp, rowE cP 10 f)]) ++ [(qs, rowE cP 2 g)])
def iM : Mem := fun k => if k < 112 then (if k % 8 = 1 then setRow else z0) else if k = 139 then (fun i => nI (2 + i)) else if k = 140 then (fun i => nI (12 + i)) else z0
def adW (h0 p0 : Nat) (a0 : Nat → Nat) (qt qc p1 : Nat) (a1 : Nat → Nat) (n1 : Nat) (r1 : Nat → Nat) (n2 : Nat) (r2 : Nat → Nat) (qp qs : Nat) (b : Nat → Nat) : Nat → Nat := fun k => if k < 8 then (if k = 0 then p0 else a0 k) else if k < 16 then (if k = 8 then p1 else a1 (k - 8)) else if k < 112 then b (k - 16) else if k < 124 then (if k = 112 then n1 else r1 (k - 112)) else if k < 136 then (if k = 124 then n2 else r2 (k - 124)) else if k = 136 then qt else if k = 137 then qc else if k = 138 then h0 else if k = 139 then qp else qs
def caW (cI cC cP : ClassId) : Nat → ClassId := fun i => if i = 0 then cI else if i = 1 then cC else cP
def giW (k : Nat) : Nat := if k < 8 then 1 + k else if k < 16 then 3 + k else if k < 112 then 29 + k else if k < 136 then k - 93 else if k = 136 then 9 else if k = 137 then 10 else if k = 138 then 0 else if k = 139 then 43 else 44
abbrev zC (dC : Nat → ClassId) (dI : Nat → Nat → Nat) (adK adV : Nat → Nat) (ad : Nat → Nat) (ca : Nat → ClassId) : WD := (141, cCg ad ca, ad, (dC, dI), [(ca 0, .int), (ca 1, .char), (ca 2, .object "MarkedChains$Play")], adK, adV)
theorem giW_inj : ∀ i, i < 141 → ∀ j, j < 141 → giW i = giW j → i = j := by decide +kernel
theorem adW_b (h0 p0 : Nat) (a0 : Nat → Nat) (qt qc p1 : Nat) (a1 : Nat → Nat) (n1 : Nat) (r1 : Nat → Nat) (n2 : Nat) (r2 : Nat → Nat) (qp qs : Nat) (b : Nat → Nat) (k : Nat) (h1 : 16 ≤ k) (h2 : k < 112) : adW h0 p0 a0 qt qc p1 a1 n1 r1 n2 r2 qp qs b k = b (k - 16) := by
  unfold adW
  rw [if_neg (by omega), if_neg (by omega), if_pos h2]
set_option maxHeartbeats 4000000 in
set_option maxRecDepth 100000 in
theorem asm_at (h0 p0 : Nat) (a0 : Nat → Nat) (qt qc p1 : Nat) (a1 : Nat → Nat) (n1 : Nat) (r1 : Nat → Nat) (n2 : Nat) (r2 : Nat → Nat) (qp qs : Nat) (cI cC cP : ClassId) (b : Nat → Nat) (k : Nat) (hk : k < 141) : (baseW h0 p0 a0 qt qc p1 a1 n1 r1 n2 r2 qp qs cI cC cP (plsR (adW h0 p0 a0 qt qc p1 a1 n1 r1 n2 r2 qp qs b) (iM 139)) (plsR (adW h0 p0 a0 qt qc p1 a1 n1 r1 n2 r2 qp qs b) (iM 140)) ++ plW b cI 96)[giW k]? = some (adW h0 p0 a0 qt qc p1 a1 n1 r1 n2 r2 qp qs b k, cCg (adW h0 p0 a0 qt qc p1 a1 n1 r1 n2 r2 qp qs b) (caW cI cC cP) k (iM k)) := by
  by_cases hm : 16 ≤ k ∧ k < 112
  · have e1 : giW k = 45 + (k - 16) := by
      unfold giW
      rw [if_neg (by omega), if_neg (by omega), if_pos hm.2]
      omega
    rw [e1, List.getElem?_append_right (by show 45 ≤ _; omega)]
    show (plW b cI 96)[45 + (k - 16) - 45]? = _
    rw [Nat.add_sub_cancel_left, plW_at (by omega), adW_b _ _ _ _ _ _ _ _ _ _ _ _ _ _ k hm.1 hm.2]
    congr 2
    have e8 : (k - 16) % 8 = k % 8 := by omega
    unfold plC cCg
    rw [if_pos hm.2, e8]
    by_cases h8 : k % 8 = 0
    · rw [if_pos h8, if_pos h8]
      have ez : iM k = z0 := by
        unfold iM
        rw [if_pos hm.2, if_neg (by omega)]
      rw [ez]
      unfold playF
      rw [adW_b _ _ _ _ _ _ _ _ _ _ _ _ _ _ (k + 1) (by omega) (by omega), adW_b _ _ _ _ _ _ _ _ _ _ _ _ _ _ (k + 2) (by omega) (by omega), adW_b _ _ _ _ _ _ _ _ _ _ _ _ _ _ (k + 3) (by omega) (by omega), adW_b _ _ _ _ _ _ _ _ _ _ _ _ _ _ (k + 4) (by omega) (by omega), adW_b _ _ _ _ _ _ _ _ _ _ _ _ _ _ (k + 5) (by omega) (by omega), adW_b _ _ _ _ _ _ _ _ _ _ _ _ _ _ (k + 6) (by omega) (by omega), adW_b _ _ _ _ _ _ _ _ _ _ _ _ _ _ (k + 7) (by omega) (by omega)]
      rw [show k + 1 - 16 = k - 16 + 1 by omega, show k + 2 - 16 = k - 16 + 2 by omega, show k + 3 - 16 = k - 16 + 3 by omega, show k + 4 - 16 = k - 16 + 4 by omega, show k + 5 - 16 = k - 16 + 5 by omega, show k + 6 - 16 = k - 16 + 6 by omega, show k + 7 - 16 = k - 16 + 7 by omega]
    · rw [if_neg h8, if_neg h8]
      have ez : iM k = if k % 8 = 1 then setRow else z0 := by
        unfold iM
        rw [if_pos hm.2]
      rw [ez]
      rfl
  · rcases (show k = 0 ∨ k = 1 ∨ k = 2 ∨ k = 3 ∨ k = 4 ∨ k = 5 ∨ k = 6 ∨ k = 7 ∨ k = 8 ∨ k = 9 ∨ k = 10 ∨ k = 11 ∨ k = 12 ∨ k = 13 ∨ k = 14 ∨ k = 15 ∨ k = 112 ∨ k = 113 ∨ k = 114 ∨ k = 115 ∨ k = 116 ∨ k = 117 ∨ k = 118 ∨ k = 119 ∨ k = 120 ∨ k = 121 ∨ k = 122 ∨ k = 123 ∨ k = 124 ∨ k = 125 ∨ k = 126 ∨ k = 127 ∨ k = 128 ∨ k = 129 ∨ k = 130 ∨ k = 131 ∨ k = 132 ∨ k = 133 ∨ k = 134 ∨ k = 135 ∨ k = 136 ∨ k = 137 ∨ k = 138 ∨ k = 139 ∨ k = 140 by omega) with rfl | rfl | rfl | rfl | rfl | rfl | rfl | rfl | rfl | rfl | rfl | rfl | rfl | rfl | rfl | rfl | rfl | rfl | rfl | rfl | rfl | rfl | rfl | rfl | rfl | rfl | rfl | rfl | rfl | rfl | rfl | rfl | rfl | rfl | rfl | rfl | rfl | rfl | rfl | rfl | rfl | rfl | rfl | rfl | rfl
    · rfl
    · rfl
    · rfl
    · rfl
    · rfl
    · rfl
    · rfl
    · rfl
    · rfl
    · rfl
    · rfl
    · rfl
    · rfl
    · rfl
    · rfl
    · rfl
    · rfl
    · rfl
    · rfl
    · rfl
    · rfl
    · rfl
    · rfl
    · rfl
    · rfl
    · rfl
    · rfl
    · rfl
    · rfl
    · rfl
    · rfl
    · rfl
    · rfl
    · rfl
    · rfl
    · rfl
    · rfl
    · rfl
    · rfl
    · rfl
    · rfl
    · rfl
    · rfl
    · rfl
    · rfl
theorem iM_139 (h0 p0 : Nat) (a0 : Nat → Nat) (qt qc p1 : Nat) (a1 : Nat → Nat) (n1 : Nat) (r1 : Nat → Nat) (n2 : Nat) (r2 : Nat → Nat) (qp qs : Nat) (b : Nat → Nat) (i : Nat) (hi : i < 10) : plsR (adW h0 p0 a0 qt qc p1 a1 n1 r1 n2 r2 qp qs b) (iM 139) i = some (b (8 * (0 + i))) := by
  show some (adW h0 p0 a0 qt qc p1 a1 n1 r1 n2 r2 qp qs b (8 * (nI (2 + i)).toNatClampNeg)) = _
  rw [nI_clamp (by omega), adW_b _ _ _ _ _ _ _ _ _ _ _ _ _ _ _ (by omega) (by omega)]
  congr 2
  omega
theorem iM_140 (h0 p0 : Nat) (a0 : Nat → Nat) (qt qc p1 : Nat) (a1 : Nat → Nat) (n1 : Nat) (r1 : Nat → Nat) (n2 : Nat) (r2 : Nat → Nat) (qp qs : Nat) (b : Nat → Nat) (i : Nat) (hi : i < 2) : plsR (adW h0 p0 a0 qt qc p1 a1 n1 r1 n2 r2 qp qs b) (iM 140) i = some (b (8 * (10 + i))) := by
  show some (adW h0 p0 a0 qt qc p1 a1 n1 r1 n2 r2 qp qs b (8 * (nI (12 + i)).toNatClampNeg)) = _
  rw [nI_clamp (by omega), adW_b _ _ _ _ _ _ _ _ _ _ _ _ _ _ _ (by omega) (by omega)]
  congr 2
  omega
set_option maxHeartbeats 4000000 in
set_option maxRecDepth 100000 in
theorem asm {A : Nat → Prop} {dC : Nat → ClassId} {dI : Nat → Nat → Nat} (adK adV : Nat → Nat) (h0 p0 : Nat) (a0 : Nat → Nat) (qt qc p1 : Nat) (a1 : Nat → Nat) (n1 : Nat) (r1 : Nat → Nat) (n2 : Nat) (r2 : Nat → Nat) (qp qs : Nat) {cI cC cP : ClassId} {f g : Nat → Option Nat} {b : Nat → Nat} {H : Heap} (hP : va_P (dC, dI) classes (baseW h0 p0 a0 qt qc p1 a1 n1 r1 n2 r2 qp qs cI cC cP f g ++ plW b cI 96) H) (hD : va_D A (baseW h0 p0 a0 qt qc p1 a1 n1 r1 n2 r2 qp qs cI cC cP f g ++ plW b cI 96)) (hf : ∀ i, i < 10 → f i = some (b (8 * (0 + i)))) (hg : ∀ i, i < 2 → g i = some (b (8 * (10 + i)))) : wP (zC dC dI adK adV (adW h0 p0 a0 qt qc p1 a1 n1 r1 n2 r2 qp qs b) (caW cI cC cP)) iM H ∧ va_D A (wW (zC dC dI adK adV (adW h0 p0 a0 qt qc p1 a1 n1 r1 n2 r2 qp qs b) (caW cI cC cP)) iM) := by
  have hP := P_row (i := 43) (a := qp) (n := 10) (cA := cP) (f := f) (g := plsR (adW h0 p0 a0 qt qc p1 a1 n1 r1 n2 r2 qp qs b) (iM 139)) hP rfl (fun j hj => by rw [hf j hj, iM_139 _ _ _ _ _ _ _ _ _ _ _ _ _ _ j hj])
  have hD := hD.set (p := 43) (a := qp) (e := rowE cP 10 (plsR (adW h0 p0 a0 qt qc p1 a1 n1 r1 n2 r2 qp qs b) (iM 139))) (e0 := rowE cP 10 f) rfl
  have hP : va_P (dC, dI) classes (baseW h0 p0 a0 qt qc p1 a1 n1 r1 n2 r2 qp qs cI cC cP (plsR (adW h0 p0 a0 qt qc p1 a1 n1 r1 n2 r2 qp qs b) (iM 139)) g ++ plW b cI 96) H := hP
  have hD : va_D A (baseW h0 p0 a0 qt qc p1 a1 n1 r1 n2 r2 qp qs cI cC cP (plsR (adW h0 p0 a0 qt qc p1 a1 n1 r1 n2 r2 qp qs b) (iM 139)) g ++ plW b cI 96) := hD
  have hP := P_row (i := 44) (a := qs) (n := 2) (cA := cP) (f := g) (g := plsR (adW h0 p0 a0 qt qc p1 a1 n1 r1 n2 r2 qp qs b) (iM 140)) hP rfl (fun j hj => by rw [hg j hj, iM_140 _ _ _ _ _ _ _ _ _ _ _ _ _ _ j hj])
  have hD := hD.set (p := 44) (a := qs) (e := rowE cP 2 (plsR (adW h0 p0 a0 qt qc p1 a1 n1 r1 n2 r2 qp qs b) (iM 140))) (e0 := rowE cP 2 g) rfl
  have hP : va_P (dC, dI) classes (baseW h0 p0 a0 qt qc p1 a1 n1 r1 n2 r2 qp qs cI cC cP (plsR (adW h0 p0 a0 qt qc p1 a1 n1 r1 n2 r2 qp qs b) (iM 139)) (plsR (adW h0 p0 a0 qt qc p1 a1 n1 r1 n2 r2 qp qs b) (iM 140)) ++ plW b cI 96) H := hP
  have hD : va_D A (baseW h0 p0 a0 qt qc p1 a1 n1 r1 n2 r2 qp qs cI cC cP (plsR (adW h0 p0 a0 qt qc p1 a1 n1 r1 n2 r2 qp qs b) (iM 139)) (plsR (adW h0 p0 a0 qt qc p1 a1 n1 r1 n2 r2 qp qs b) (iM 140)) ++ plW b cI 96) := hD
  have key : ∀ (k : Nat) (q : Nat × va_E), (wW (zC dC dI adK adV (adW h0 p0 a0 qt qc p1 a1 n1 r1 n2 r2 qp qs b) (caW cI cC cP)) iM)[k]? = some q → (baseW h0 p0 a0 qt qc p1 a1 n1 r1 n2 r2 qp qs cI cC cP (plsR (adW h0 p0 a0 qt qc p1 a1 n1 r1 n2 r2 qp qs b) (iM 139)) (plsR (adW h0 p0 a0 qt qc p1 a1 n1 r1 n2 r2 qp qs b) (iM 140)) ++ plW b cI 96)[giW k]? = some q := by
    intro k q hq
    have hk : k < 141 := by
      have := (List.getElem?_eq_some_iff.mp hq).1
      rwa [wW_len] at this
    rw [wW_get _ _ hk] at hq
    rw [asm_at h0 p0 a0 qt qc p1 a1 n1 r1 n2 r2 qp qs cI cC cP b k hk, ← hq]
  refine ⟨va_P.by hP giW key, va_D.by hD giW key (fun i j hi hj e => ?_)⟩
  rw [wW_len] at hi hj
  exact giW_inj i hi j hj e
