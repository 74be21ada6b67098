/-! asking: sets, decisions, what was extracted, letters -/
theorem setOr : ∀ a b c d : Bool, (((0 ||| (if a = true then 1 else 0)) ||| (if b = true then 2 else 0)) ||| (if c = true then 4 else 0)) ||| (if d = true then 8 else 0) = (if a = true then 1 else 0) + (if b = true then 2 else 0) + (if c = true then 4 else 0) + (if d = true then 8 else 0) := by decide
def setS (Q : Tab) (p r : Nat) : Nat → Nat
  | 0 => 0
  | v + 1 => setS Q p r v ||| (if decide (Q 1 (4 * p + v) ≤ r) = true then 2 ^ v else 0)
theorem setS_4 (Q : Tab) (p r : Nat) : setS Q p r 4 = setN Q p r := by
  have h := setOr (decide (Q 1 (4 * p + 0) ≤ r)) (decide (Q 1 (4 * p + 1) ≤ r)) (decide (Q 1 (4 * p + 2) ≤ r)) (decide (Q 1 (4 * p + 3) ≤ r))
  unfold setN
  simp only [decide_eq_true_eq] at h
  simp only [setS, decide_eq_true_eq]
  exact h
theorem M_setOf {Q : Tab} {M : Mem} (hQ : RM Q M) {p r : Nat} (hp : p < 8) (hr : r ≤ 8) (h9 : ∀ c, c < 32 → Q 1 c ≤ 99) : f_MM_setOf M (nI p) (nI r) = some (nI (setN Q p r)) := by
  unfold f_MM_setOf f_MM_setOf_J5
  rw [bnd_id]
  unfold f_MM_setOf_W5
  rw [← setS_4]
  refine loop_fn (fun v => (nI (setS Q p r v), nI v)) 4 _ ?_ ?_
  · intro v hv
    have hc := (hQ.2.2.2 (4 * p + v) (by omega)).1
    have h99 := h9 (4 * p + v) (by omega)
    show f_MM_setOf_L5 M (nI p) (nI r) (nI (setS Q p r v)) (nI v) = _
    have es : setS Q p r (v + 1) = setS Q p r v ||| (if decide (Q 1 (4 * p + v) ≤ r) = true then 2 ^ v else 0) := rfl
    unfold f_MM_setOf_L5 f_MM_setOf_J49 f_MM_setOf_J50
    rw [j4, if_neg (nI_ge hv (by decide)), mcell_of, gIn_nI (by omega) (by decide), nI_clamp (by omega), hc, es, ← nI_succ]
    have e0 : (0 : Int32) = nI 0 := rfl
    by_cases w : Q 1 (4 * p + v) = 99
    · rw [if_pos ((exI_ne h99).mpr w), if_neg (by simp; omega), e0, fa_or]
    · rw [if_neg (fun z => w ((exI_ne h99).mp z))]
      have ex : exI (Q 1 (4 * p + v)) = nI (Q 1 (4 * p + v)) := if_neg w
      rw [ex]
      by_cases w2 : Q 1 (4 * p + v) ≤ r
      · rw [if_neg (nI_nlt w2 (by omega)), if_pos (by simp [w2]), sh1 v (by omega), fa_or]
      · rw [if_pos (nI_lt (by omega) (by omega)), if_neg (by simp; omega), e0, fa_or]
  · show f_MM_setOf_L5 M (nI p) (nI r) (nI (setS Q p r 4)) (nI 4) = _
    unfold f_MM_setOf_L5
    rw [j4, if_pos ((nI_leI (by decide) (by decide)).mpr (Nat.le_refl _))]
theorem INV.n9 {R : Nat → Nat} {r : Nat} {Q : Tab} (h : INV R r Q) (hr : r ≤ 99) : ∀ c, c < 32 → Q 1 c ≤ 99 := fun c hc => by
  have := (h.2.1 c hc).2.2.2.1
  omega
theorem C_setOf {k r sr : Nat} {Q : Tab} {M : Mem} (hC : RC k r sr Q M) {p q : Nat} (hp : p < 8) (hq : q ≤ sr) (hs : sr ≤ 8) : f_Run_setOf k M (nI p) (nI q) = some (nI (setN Q p q)) := by
  unfold f_Run_setOf f_Run_rowOf
  rw [j8, pk_mul, nI_add, gIn_nI (by omega) (by decide), nI_clamp (by omega), show q * 8 + p = 8 * q + p by omega, hC.2.2.2.2.2 q p hq hp]
theorem q_set {R : Nat → Nat} {Mc Mm : Mem} (h : RelP R Mc Mm) (x1 x2 : Int32) : Ask (f_MC_set Mc x1 x2) (f_MM_set Mm x1 x2) Mm := by
  obtain ⟨hV, hP, hM, hC, h28, hk⟩ := h
  have hn := pv_n hV
  have hR3 := hV.2.2.2.1
  have e2 : Mc 1 2 = nI (R 3) := hP.2.2.2.2.2.1 2 (by decide)
  have e3 : Mm 1 3 = nI (R 3) := hM.1 3 (by decide)
  unfold f_MC_set f_MM_set
  rw [C_honest hV hP.1 hP.2.1, M_honB hV hM]
  rcases honB_cases R x1 hn with w | ⟨p, hp, hl, rfl, w⟩
  · rw [w]
    exact Ask.no rfl rfl
  · rw [w, gT, gT, e3, M_inB x2 (R 3 + 1) _ (by rw [Int32.toInt_toInt64, nI_toInt (by omega)]; omega)]
    have eb : f_MC_hasRoundBehind Mc x2 = inB x2 (R 3 + 1) := by
      unfold f_MC_hasRoundBehind f_MC_hasRoundBehind_J21
      rw [e2]
      have : ∀ {α : Type} {a b : α}, (if nI (R 3) < x2 then a else b) = if nI (R 3 + 1) ≤ x2 then a else b := by
        intro α a b
        have i : nI (R 3) < x2 ↔ nI (R 3 + 1) ≤ x2 := by
          rw [Int32.lt_iff_toInt_lt, Int32.le_iff_toInt_le, nI_toInt (by omega), nI_toInt (by omega)]
          omega
        simp only [i]
      rw [this, inC (by omega)]
      cases inB x2 (R 3 + 1)
      · rw [if_neg (by decide)]
        split <;> rfl
      · rfl
    rw [eb]
    rcases inB_cases x2 (R 3 + 1) with w2 | ⟨q, hq, -, rfl, w2⟩
    · rw [w2]
      exact Ask.no rfl rfl
    · obtain ⟨N, n1, n2, n3, n4, n5⟩ := RelP.run ⟨hV, hP, hM, hC, h28, hk⟩
      rw [w2, gT, gT, n1, bnd_some, C_setOf hC (by omega) (by omega) hR3, M_setOf n2 (by omega) (by omega) ((NQ_inv hV).n9 (by omega)), bnd_some, bnd_some]
      exact ⟨_, N, rfl, rfl, n3⟩
def dcN (R : Nat → Nat) (Q : Tab) (p : Nat) : Nat := if setN Q p 8 = 1 then 0 else if setN Q p 8 = 2 then 1 else if setN Q p 8 = 4 then 2 else if setN Q p 8 = 8 then 3 else R 4
theorem bc_16 : ∀ s, s < 16 → ∀ d : Fin 4, (if f_Int_bitCount (nI s) = (1 : Int32) then f_Int_numberOfTrailingZeros (nI s) else nI d.val) = nI (if s = 1 then 0 else if s = 2 then 1 else if s = 4 then 2 else if s = 8 then 3 else d.val) := by decide +kernel
theorem M_decisionOf {R : Nat → Nat} {Q : Tab} {M : Mem} (hV : PV R) (hM : PM R (M 1)) (hQ : RM Q M) {p : Nat} (hp : p < 8) (h9 : ∀ c, c < 32 → Q 1 c ≤ 99) : f_MM_decisionOf M (nI p) = some (nI (dcN R Q p)) := by
  have h4 : M 1 4 = nI (R 4) := hM.1 4 (by decide)
  have hd := hV.2.2.2.2.1
  unfold f_MM_decisionOf
  rw [j8, M_setOf hQ hp (Nat.le_refl 8) h9, bnd_some, h4]
  have := bc_16 (setN Q p 8) (setN_lt Q p 8) ⟨R 4, hd⟩
  unfold dcN
  rw [← this]
  split <;> rfl
theorem bc_17 : ∀ s, s < 16 → ∀ v, v < 4 → (nI s = nI (2 ^ v) ↔ s = 2 ^ v) := by decide +kernel
theorem C_decisionOf {R : Nat → Nat} {k r sr : Nat} {Q : Tab} {M : Mem} (h3 : M 1 3 = nI (R 4)) (hC : RC k r sr Q M) {p : Nat} (h1 : M k 1 = nI sr) (hp : p < 8) (hs : sr ≤ 8) (h9 : ∀ c, c < 32 → Q 1 c = 99 ∨ Q 1 c ≤ sr) : f_Run_decisionOf k M (nI p) = some (nI (dcN R Q p)) := by
  have es : setN Q p 8 = setN Q p sr := setN_cong2 (fun o ho => by have := h9 (4 * p + o) (by omega); omega)
  have hl := setN_lt Q p sr
  unfold f_Run_decisionOf dcN
  rw [h1, C_setOf hC hp (Nat.le_refl _) hs, bnd_some, es]
  unfold f_Run_decisionOf_J12
  rw [bnd_id]
  unfold f_Run_decisionOf_W12
  generalize setN Q p sr = s at *
  have st : ∀ v, v < 4 → f_Run_decisionOf_L12 k M (nI s) (nI v) = if s = 2 ^ v then some (.inr (nI v)) else some (.inl (nI (v + 1))) := fun v hv => by
    unfold f_Run_decisionOf_L12
    rw [j4, if_neg (nI_ge hv (by decide)), sh1 v (by omega), ← nI_succ]
    by_cases w : s = 2 ^ v
    · rw [if_pos w, if_pos ((bc_17 s hl v hv).mpr w)]
    · rw [if_neg w, if_neg (fun z => w ((bc_17 s hl v hv).mp z))]
  have en : f_Run_decisionOf_L12 k M (nI s) (nI 4) = some (.inr (nI (R 4))) := by
    unfold f_Run_decisionOf_L12
    rw [j4, if_pos ((nI_leI (by decide) (by decide)).mpr (Nat.le_refl _)), h3]
  have go : ∀ v, v < 4 → (∀ u, u < v → s ≠ 2 ^ u) → s = 2 ^ v → loop (fun t => f_Run_decisionOf_L12 k M (nI s) t) (nI 0) = some (nI v) := fun v hv hu hs => loop_fn (fun i => nI i) v (nI v) (fun i hi => by rw [st i (by omega), if_neg (hu i hi)]) (by rw [st v hv, if_pos hs])
  have e0 : (0 : Int32) = nI 0 := rfl
  rw [e0]
  by_cases w0 : s = 1
  · rw [if_pos w0]
    exact go 0 (by decide) (fun u hu => absurd hu (Nat.not_lt_zero u)) w0
  · rw [if_neg w0]
    by_cases w1 : s = 2
    · rw [if_pos w1]
      exact go 1 (by decide) (fun u hu => by rw [show u = 0 by omega]; exact w0) w1
    · rw [if_neg w1]
      by_cases w2 : s = 4
      · rw [if_pos w2]
        exact go 2 (by decide) (fun u hu => by rcases (show u = 0 ∨ u = 1 by omega) with rfl | rfl <;> assumption) w2
      · rw [if_neg w2]
        by_cases w3 : s = 8
        · rw [if_pos w3]
          exact go 3 (by decide) (fun u hu => by rcases (show u = 0 ∨ u = 1 ∨ u = 2 by omega) with rfl | rfl | rfl <;> assumption) w3
        · rw [if_neg w3]
          refine loop_fn (fun i => nI i) 4 _ (fun i hi => ?_) en
          rw [st i hi, if_neg]
          rcases (show i = 0 ∨ i = 1 ∨ i = 2 ∨ i = 3 by omega) with rfl | rfl | rfl | rfl <;> assumption
theorem q_decision {R : Nat → Nat} {Mc Mm : Mem} (h : RelP R Mc Mm) (x1 : Int32) : Ask (f_MC_decision Mc x1) (f_MM_decision Mm x1) Mm := by
  obtain ⟨hV, hP, hM, hC, h28, hk⟩ := h
  have hn := pv_n hV
  have hR3 := hV.2.2.2.1
  unfold f_MC_decision f_MM_decision
  rw [C_honest hV hP.1 hP.2.1, M_honB hV hM]
  rcases honB_cases R x1 hn with w | ⟨p, hp, hl, rfl, w⟩
  · rw [w]
    exact Ask.no rfl rfl
  · obtain ⟨N, n1, n2, n3, n4, n5⟩ := RelP.run ⟨hV, hP, hM, hC, h28, hk⟩
    rw [w, gT, gT, n1, bnd_some, C_decisionOf (R := R) (hP.2.2.2.2.2.1 3 (by decide)) hC hk (by omega) hR3 (fun c hc => ((NQ_inv hV).2.1 c hc).2.2.2.1), M_decisionOf hV n5.1 n2 (by omega) ((NQ_inv hV).n9 (by omega)), bnd_some, bnd_some]
    exact ⟨_, N, rfl, rfl, n3⟩
theorem i3_cases (x : Int32) : (¬ (0 ≤ x ∧ x ≤ 3)) ∨ x = 0 ∨ x = 1 ∨ x = 2 ∨ x = 3 := by
  rcases inB_cases x 4 with h | ⟨j, h1, h2, rfl, h4⟩
  · left
    rintro ⟨a, b⟩
    rw [Int32.le_iff_toInt_le] at a b
    have e0 : (0 : Int32).toInt = 0 := rfl
    have e3 : (3 : Int32).toInt = 3 := rfl
    unfold inB at h
    rw [decide_eq_true (by omega), decide_eq_true (by omega)] at h
    cases h
  · right
    rcases (show j = 0 ∨ j = 1 ∨ j = 2 ∨ j = 3 by omega) with rfl | rfl | rfl | rfl
    · exact Or.inl rfl
    · exact Or.inr (Or.inl rfl)
    · exact Or.inr (Or.inr (Or.inl rfl))
    · exact Or.inr (Or.inr (Or.inr rfl))
theorem lead : ∀ {α : Type} (b : Bool) (x y : α), (if bI b = 0 then x else y) = if b = true then y else x := by
  intro α b x y
  cases b <;> rfl
theorem byI_ne {x : Nat} (h : x < 2 ^ 31) : byI x = -1 ↔ x = 0 := by
  unfold byI
  split
  · rename_i w; exact ⟨fun _ => w, fun _ => rfl⟩
  · rename_i w; exact ⟨fun z => absurd z (nI_neg1 (by omega)), fun z => absurd z w⟩
theorem q_known {R : Nat → Nat} {Mc Mm : Mem} (h : RelP R Mc Mm) (x1 x2 : Int32) : Ask (f_MC_known Mc x1 x2) (f_MM_known Mm x1 x2) Mm := by
  obtain ⟨hV, hP, hM, hC, h28, hk⟩ := h
  have hn := pv_n hV
  have hR3 := hV.2.2.2.1
  unfold f_MC_known f_MM_known
  rw [C_party hP.1 hn, M_partyB hV hM, C_value, M_inB x2 4 3 (by decide)]
  rcases inB_cases x1 (R 0) with w | ⟨p, hp, -, rfl, w⟩
  · rw [w]
    exact Ask.no rfl rfl
  · rcases inB_cases x2 4 with w2 | ⟨v, hv, -, rfl, w2⟩
    · rw [w, w2]
      exact Ask.no rfl rfl
    · obtain ⟨N, n1, n2, n3, n4, n5⟩ := RelP.run ⟨hV, hP, hM, hC, h28, hk⟩
      have hc : 4 * p + v < 32 := by omega
      have hu := hC.2.2.2.2.1 _ hc
      have hm := (n2.2.2.2 _ hc).2.2
      obtain ⟨hle, hu1, hu2⟩ : NQ R 3 (4 * p + v) ≤ 1000 ∧ (NQ R 3 (4 * p + v) = 1000 ∨ NQ R 3 (4 * p + v) ≤ R 3 + 1) ∧ True := by
        have hi := NQ_inv hV
        refine ⟨hi.b3 _ hc, ?_, trivial⟩
        obtain ⟨u1, u2⟩ := hi.2.2 _ hc
        cases e : lie R ((4 * p + v) / 4) with
        | true => rw [u1 e]; omega
        | false =>
          rcases (u2 e).1 with q | ⟨i, q1, q2, q3, q4, -⟩
          · exact Or.inl q
          · have := (hi.1 i q1).2.2.2.1
            omega
      rw [w, w2, gT, gT, gT, gT, n1, bnd_some, cell_of, mcell_of, gIn_nI hc (by decide), gIn_nI hc (by decide), nI_clamp (by omega)]
      have hu' : Mc 122 (4 * p + v) = _ := hu
      rw [hu', hm]
      by_cases z : NQ R 3 (4 * p + v) = 1000
      · rw [z, if_neg (show ¬ 1000 ≤ R 3 + 1 by omega)]
        exact ⟨_, N, rfl, rfl, n3⟩
      · rw [if_pos (show NQ R 3 (4 * p + v) ≤ R 3 + 1 by omega), show (99 : Int32) = nI 99 from rfl, show (1000 : Int32) = nI 1000 from rfl, if_neg (fun y => by have := (nI_eq (by omega) (by decide)).mp y; omega), if_neg (fun y => z ((nI_eq (by omega) (by decide)).mp y))]
        exact ⟨_, N, rfl, rfl, n3⟩
