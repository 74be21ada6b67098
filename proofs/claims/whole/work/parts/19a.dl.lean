/-! what is omitted, what is late, when one of them is taken out -/
theorem om_iff {R : Nat → Nat} {r f t : Nat} : omI R r f t < R 8 ↔ ∃ l, l < R 8 ∧ isW R (218 + 3 * l) r f t = true := by
  unfold omI
  rcases fstN_sp (fun l => isW R (218 + 3 * l) r f t) (R 8) with ⟨h1, h2⟩ | ⟨h1, h2, h3⟩
  · rw [h1]
    constructor
    · intro h; omega
    · rintro ⟨l, hl, hw⟩
      rw [h2 l hl] at hw
      cases hw
  · exact ⟨fun _ => ⟨_, h1, h2⟩, fun _ => h1⟩
theorem lt_iff {R : Nat → Nat} {r f t : Nat} : ltI R r f t < R 9 ↔ ∃ l, l < R 9 ∧ isW R (254 + 4 * l) r f t = true := by
  unfold ltI
  rcases fstN_sp (fun l => isW R (254 + 4 * l) r f t) (R 9) with ⟨h1, h2⟩ | ⟨h1, h2, h3⟩
  · rw [h1]
    constructor
    · intro h; omega
    · rintro ⟨l, hl, hw⟩
      rw [h2 l hl] at hw
      cases hw
  · exact ⟨fun _ => ⟨_, h1, h2⟩, fun _ => h1⟩
theorem om_at {R : Nat → Nat} {r f t : Nat} (h : omI R r f t < R 8) : isW R (218 + 3 * omI R r f t) r f t = true := by
  unfold omI at h ⊢
  rcases fstN_sp (fun l => isW R (218 + 3 * l) r f t) (R 8) with ⟨h1, h2⟩ | ⟨h1, h2, h3⟩
  · omega
  · exact h2
theorem lt_at {R : Nat → Nat} {r f t : Nat} (h : ltI R r f t < R 9) : isW R (254 + 4 * ltI R r f t) r f t = true := by
  unfold ltI at h ⊢
  rcases fstN_sp (fun l => isW R (254 + 4 * l) r f t) (R 9) with ⟨h1, h2⟩ | ⟨h1, h2, h3⟩
  · omega
  · exact h2
theorem isW_iff {R : Nat → Nat} {q r f t : Nat} : isW R q r f t = true ↔ R q = r ∧ R (q + 1) = f ∧ R (q + 2) = t := by
  unfold isW
  simp only [Bool.and_eq_true, decide_eq_true_eq]
  constructor
  · rintro ⟨⟨a, b⟩, c⟩; exact ⟨a, b, c⟩
  · rintro ⟨a, b, c⟩; exact ⟨⟨a, b⟩, c⟩
theorem isW_way {R : Nat → Nat} {q r f t : Nat} (h : isW R q r f t = true) : way R q = 64 * r + 8 * f + t := by
  obtain ⟨a, b, c⟩ := isW_iff.mp h
  unfold way
  rw [a, b, c]
theorem om_uq {R : Nat → Nat} (hV : PV R) {r f t i j : Nat} (hi : i < R 8) (hj : j < R 8) (wi : isW R (218 + 3 * i) r f t = true) (wj : isW R (218 + 3 * j) r f t = true) : i = j := by
  have vd := hV.2.2.2.2.2.2.2.2.2.2.2.2.2.2.1
  have e := (isW_way wi).trans (isW_way wj).symm
  rcases Nat.lt_trichotomy i j with w | w | w
  · exact absurd e (vd i j w hj)
  · exact w
  · exact absurd e.symm (vd j i w hi)
theorem lt_uq {R : Nat → Nat} (hV : PV R) {r f t i j : Nat} (hi : i < R 9) (hj : j < R 9) (wi : isW R (254 + 4 * i) r f t = true) (wj : isW R (254 + 4 * j) r f t = true) : i = j := by
  have ve := hV.2.2.2.2.2.2.2.2.2.2.2.2.2.2.2
  have e := (isW_way wi).trans (isW_way wj).symm
  rcases Nat.lt_trichotomy i j with w | w | w
  · exact absurd e (ve i j w hj)
  · exact w
  · exact absurd e.symm (ve j i w hi)
def ltN (R : Nat → Nat) (r f t : Nat) : Nat := if ltI R r f t < R 9 then R (254 + 4 * ltI R r f t + 3) else 0
theorem dlM_eq (R x : Nat → Nat) (r f t : Nat) : dlM R x r f t = if omI R r f t < R 8 then 99 else if x 0 = r ∧ x 1 = f ∧ x 2 = t then (if x 3 = 0 then 99 else x 3) else ltN R r f t := rfl
theorem ltN_at {R : Nat → Nat} (hV : PV R) {r f t l : Nat} (hl : l < R 9) (h : isW R (254 + 4 * l) r f t = true) : ltN R r f t = R (254 + 4 * l + 3) := by
  have e : ltI R r f t < R 9 := lt_iff.mpr ⟨l, hl, h⟩
  unfold ltN
  rw [if_pos e, lt_uq hV e hl (lt_at e) h]
theorem ltN_no {R : Nat → Nat} {r f t : Nat} (h : ∀ l, l < R 9 → isW R (254 + 4 * l) r f t = false) : ltN R r f t = 0 := by
  unfold ltN
  rw [if_neg (fun z => ?_)]
  obtain ⟨l, hl, hw⟩ := lt_iff.mp z
  rw [h l hl] at hw
  cases hw
theorem sk_ex {k n : Nat} (hk : k < n) (P : Nat → Prop) : (∃ l, l < n - 1 ∧ P (sk k l)) ↔ ∃ l, l < n ∧ l ≠ k ∧ P l := by
  constructor
  · rintro ⟨l, hl, hp⟩
    refine ⟨sk k l, sk_lt hl, ?_, hp⟩
    unfold sk
    split <;> omega
  · rintro ⟨l, hl, hne, hp⟩
    by_cases w : l < k
    · exact ⟨l, by omega, by unfold sk; rw [if_pos w]; exact hp⟩
    · refine ⟨l - 1, by omega, ?_⟩
      unfold sk
      rw [if_neg (by omega), show l - 1 + 1 = l by omega]
      exact hp
theorem om_rm8 {R : Nat → Nat} (hV : PV R) {k : Nat} (hk : k < R 8) (r f t : Nat) : omI (rmR R 8 218 3 k) r f t < rmR R 8 218 3 k 8 ↔ (omI R r f t < R 8 ∧ isW R (218 + 3 * k) r f t = false) := by
  have e : (∃ l, l < R 8 - 1 ∧ isW (rmR R 8 218 3 k) (218 + 3 * l) r f t = true) ↔ ∃ l, l < R 8 - 1 ∧ isW R (218 + 3 * sk k l) r f t = true := by
    constructor
    · rintro ⟨l, hl, hw⟩
      rw [isW_iff] at hw
      refine ⟨l, hl, isW_iff.mpr ?_⟩
      rw [← show rmR R 8 218 3 k (218 + 3 * l) = R (218 + 3 * sk k l) from rm8 (i := 0) hl (by decide), ← rm8 (i := 1) hl (by decide), ← rm8 (i := 2) hl (by decide)]
      exact hw
    · rintro ⟨l, hl, hw⟩
      rw [isW_iff] at hw
      refine ⟨l, hl, isW_iff.mpr ?_⟩
      rw [show rmR R 8 218 3 k (218 + 3 * l) = R (218 + 3 * sk k l) from rm8 (i := 0) hl (by decide), rm8 (i := 1) hl (by decide), rm8 (i := 2) hl (by decide)]
      exact hw
  rw [om_iff, rmR_c, e, sk_ex hk (fun l => isW R (218 + 3 * l) r f t = true), om_iff]
  constructor
  · rintro ⟨l, hl, hne, hw⟩
    refine ⟨⟨l, hl, hw⟩, ?_⟩
    cases e : isW R (218 + 3 * k) r f t
    · rfl
    · exact absurd (om_uq hV hl hk hw e) hne
  · rintro ⟨⟨l, hl, hw⟩, hn⟩
    refine ⟨l, hl, fun z => ?_, hw⟩
    rw [z, hn] at hw
    cases hw
theorem lt_rm8 {R : Nat → Nat} (hV : PV R) (k r f t : Nat) : ltN (rmR R 8 218 3 k) r f t = ltN R r f t := by
  have v8 := hV.2.2.2.2.2.2.2.2.2.1
  have lo : ∀ j, 254 ≤ j → rmR R 8 218 3 k j = R j := fun j hj => rmR_out (by omega) (by omega)
  have e9 : rmR R 8 218 3 k 9 = R 9 := rmR_out (by omega) (by omega)
  have ei : ltI (rmR R 8 218 3 k) r f t = ltI R r f t := by
    unfold ltI
    rw [e9]
    congr 1
    funext l
    unfold isW
    rw [lo _ (by omega), lo _ (by omega), lo _ (by omega)]
  unfold ltN
  rw [ei, e9, lo _ (by omega)]
theorem om_rm9 {R : Nat → Nat} (hV : PV R) (k r f t : Nat) : omI (rmR R 9 254 4 k) r f t < rmR R 9 254 4 k 8 ↔ omI R r f t < R 8 := by
  have v8 := hV.2.2.2.2.2.2.2.2.2.1
  have lo : ∀ j, j < 254 → j ≠ 9 → rmR R 9 254 4 k j = R j := fun j hj h9 => rmR_out h9 (by omega)
  rw [om_iff, om_iff, lo 8 (by decide) (by decide)]
  constructor
  · rintro ⟨l, hl, hw⟩
    refine ⟨l, hl, ?_⟩
    rw [isW_iff] at hw ⊢
    rw [lo _ (by omega) (by omega), lo _ (by omega) (by omega), lo _ (by omega) (by omega)] at hw
    exact hw
  · rintro ⟨l, hl, hw⟩
    refine ⟨l, hl, ?_⟩
    rw [isW_iff] at hw ⊢
    rw [lo _ (by omega) (by omega), lo _ (by omega) (by omega), lo _ (by omega) (by omega)]
    exact hw
theorem isW_rm9 {R : Nat → Nat} {k l r f t : Nat} (hl : l < R 9 - 1) : isW (rmR R 9 254 4 k) (254 + 4 * l) r f t = isW R (254 + 4 * sk k l) r f t := by
  unfold isW
  rw [show rmR R 9 254 4 k (254 + 4 * l) = R (254 + 4 * sk k l) from rm9 (i := 0) hl (by decide), rm9 (i := 1) hl (by decide), rm9 (i := 2) hl (by decide)]
theorem lt_rm9 {R : Nat → Nat} (hV : PV R) {k : Nat} (hk : k < R 9) (r f t : Nat) : ltN (rmR R 9 254 4 k) r f t = if isW R (254 + 4 * k) r f t = true then 0 else ltN R r f t := by
  have hV' : PV (rmR R 9 254 4 k) := rmR_PV hV (Or.inr (Or.inr ⟨rfl, rfl, rfl⟩)) hk
  by_cases w : isW R (254 + 4 * k) r f t = true
  · rw [if_pos w]
    refine ltN_no (fun l hl => ?_)
    rw [rmR_c] at hl
    rw [isW_rm9 hl]
    cases e : isW R (254 + 4 * sk k l) r f t
    · rfl
    · have := lt_uq hV (sk_lt hl) hk e w
      unfold sk at this
      split at this <;> omega
  · rw [if_neg w]
    by_cases q : ∃ l, l < R 9 ∧ isW R (254 + 4 * l) r f t = true
    · obtain ⟨l, hl, hw⟩ := q
      have hne : l ≠ k := fun z => w (by rw [← z]; exact hw)
      obtain ⟨l', h1, h2⟩ := (sk_ex hk (fun l' => l' = l)).mpr ⟨l, hl, hne, rfl⟩
      have e1 := ltN_at hV' (r := r) (f := f) (t := t) (l := l') (by rw [rmR_c]; exact h1) (by rw [isW_rm9 h1, h2]; exact hw)
      rw [e1, rm9 h1 (by decide), h2, ltN_at hV hl hw]
    · have q : ∀ l, l < R 9 → isW R (254 + 4 * l) r f t = false := fun l hl => Bool.eq_false_iff.mpr (fun z => q ⟨l, hl, z⟩)
      rw [ltN_no q]
      refine ltN_no (fun l hl => ?_)
      rw [rmR_c] at hl
      rw [isW_rm9 hl]
      exact q _ (sk_lt hl)
/-- what goes one way is neither omitted nor late -/
def slR1 (R : Nat → Nat) (r f t : Nat) : Nat → Nat := if omI R r f t < R 8 then rmR R 8 218 3 (omI R r f t) else R
def slR (R : Nat → Nat) (r f t : Nat) : Nat → Nat := if ltI (slR1 R r f t) r f t < slR1 R r f t 9 then rmR (slR1 R r f t) 9 254 4 (ltI (slR1 R r f t) r f t) else slR1 R r f t
theorem isW_same {R : Nat → Nat} {q r f t r' f' t' : Nat} (h : isW R q r f t = true) : isW R q r' f' t' = true ↔ (r' = r ∧ f' = f ∧ t' = t) := by
  rw [isW_iff] at h ⊢
  omega
theorem slR1_sp {R : Nat → Nat} (hV : PV R) (r f t : Nat) : PV (slR1 R r f t) ∧ (∀ j, j < 8 → slR1 R r f t j = R j) ∧ (∀ j, 10 ≤ j → j < 218 → slR1 R r f t j = R j) ∧ (∀ r' f' t', omI (slR1 R r f t) r' f' t' < slR1 R r f t 8 ↔ (omI R r' f' t' < R 8 ∧ ¬ (r' = r ∧ f' = f ∧ t' = t))) ∧ ∀ r' f' t', ltN (slR1 R r f t) r' f' t' = ltN R r' f' t' := by
  unfold slR1
  by_cases w : omI R r f t < R 8
  · rw [if_pos w]
    refine ⟨rmR_PV hV (Or.inr (Or.inl ⟨rfl, rfl, rfl⟩)) w, fun j hj => rmR_out (by omega) (by omega), fun j h1 h2 => rmR_out (by omega) (by omega), fun r' f' t' => ?_, fun r' f' t' => lt_rm8 hV _ _ _ _⟩
    rw [om_rm8 hV w, Bool.eq_false_iff, ne_eq, isW_same (om_at w)]
  · rw [if_neg w]
    refine ⟨hV, fun _ _ => rfl, fun _ _ _ => rfl, fun r' f' t' => ⟨fun h => ⟨h, ?_⟩, fun h => h.1⟩, fun _ _ _ => rfl⟩
    rintro ⟨rfl, rfl, rfl⟩
    exact w h
theorem slR_sp {R : Nat → Nat} (hV : PV R) (r f t : Nat) : PV (slR R r f t) ∧ (∀ j, j < 8 → slR R r f t j = R j) ∧ (∀ j, 10 ≤ j → j < 218 → slR R r f t j = R j) ∧ (∀ r' f' t', omI (slR R r f t) r' f' t' < slR R r f t 8 ↔ (omI R r' f' t' < R 8 ∧ ¬ (r' = r ∧ f' = f ∧ t' = t))) ∧ ∀ r' f' t', ltN (slR R r f t) r' f' t' = if r' = r ∧ f' = f ∧ t' = t then 0 else ltN R r' f' t' := by
  obtain ⟨a1, a2, a3, a4, a5⟩ := slR1_sp hV r f t
  unfold slR
  generalize slR1 R r f t = S at *
  by_cases w : ltI S r f t < S 9
  · rw [if_pos w]
    refine ⟨rmR_PV a1 (Or.inr (Or.inr ⟨rfl, rfl, rfl⟩)) w, fun j hj => (rmR_out (by omega) (by omega)).trans (a2 j hj), fun j h1 h2 => (rmR_out (by omega) (by omega)).trans (a3 j h1 h2), fun r' f' t' => (om_rm9 a1 _ _ _ _).trans (a4 r' f' t'), fun r' f' t' => ?_⟩
    rw [lt_rm9 a1 w, a5]
    by_cases q : r' = r ∧ f' = f ∧ t' = t
    · rw [if_pos q, if_pos ((isW_same (lt_at w)).mpr q)]
    · rw [if_neg q, if_neg (fun z => q ((isW_same (lt_at w)).mp z))]
  · rw [if_neg w]
    refine ⟨a1, a2, a3, a4, fun r' f' t' => ?_⟩
    by_cases q : r' = r ∧ f' = f ∧ t' = t
    · rw [if_pos q]
      obtain ⟨rfl, rfl, rfl⟩ := q
      unfold ltN
      rw [if_neg w]
    · rw [if_neg q, a5]
