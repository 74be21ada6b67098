/-! heal: faults taken out -/
def hgS (R : Nat → Nat) (g T : Nat) : Nat → (Nat → Nat)
  | 0 => R
  | i + 1 => if g.testBit (T - 1 - i) = true then (if T - 1 - i < R 8 then rmR (hgS R g T i) 8 218 3 (T - 1 - i) else rmR (hgS R g T i) 9 254 4 (T - 1 - i - R 8)) else hgS R g T i
def HI (R : Nat → Nat) (g j : Nat) (S : Nat → Nat) : Prop := PV S ∧ (∀ m, m < 8 → S m = R m) ∧ (∀ m, 10 ≤ m → m < 218 → S m = R m) ∧ (∀ l, l < j → l < R 8 → l < S 8 ∧ ∀ i, i < 3 → S (218 + 3 * l + i) = R (218 + 3 * l + i)) ∧ (∀ l, R 8 + l < j → l < S 9 ∧ ∀ i, i < 4 → S (254 + 4 * l + i) = R (254 + 4 * l + i)) ∧ (∀ r f t, omI S r f t < S 8 ↔ (omI R r f t < R 8 ∧ ¬ (j ≤ omI R r f t ∧ g.testBit (omI R r f t) = true))) ∧ ∀ r f t, ltN S r f t = if (j ≤ R 8 + ltI R r f t ∧ g.testBit (R 8 + ltI R r f t) = true) then 0 else ltN R r f t
theorem ltI_le (R : Nat → Nat) (r f t : Nat) : ltI R r f t ≤ R 9 := fstN_le _ _
theorem ltN_ge {R : Nat → Nat} {r f t : Nat} (h : ¬ ltI R r f t < R 9) : ltN R r f t = 0 := if_neg h
set_option maxHeartbeats 1000000 in
theorem hg_sp {R : Nat → Nat} (hV : PV R) {g T : Nat} (hT : T ≤ R 8 + R 9) (hg : g < 2 ^ T) : ∀ i, i ≤ T → HI R g (T - i) (hgS R g T i) := by
  have hi0 : ∀ x, T ≤ x → g.testBit x = false := fun x hx => Nat.testBit_lt_two_pow (Nat.lt_of_lt_of_le hg (Nat.pow_le_pow_right (by decide) hx))
  intro i
  induction i with
  | zero =>
    intro _
    rw [Nat.sub_zero]
    refine ⟨hV, fun _ _ => rfl, fun _ _ _ => rfl, fun l _ h => ⟨h, fun _ _ => rfl⟩, fun l h => ⟨by show l < R 9; omega, fun _ _ => rfl⟩, fun r f t => ⟨fun h => ⟨h, fun z => ?_⟩, fun h => h.1⟩, fun r f t => ?_⟩
    · rw [hi0 _ z.1] at z
      exact absurd z.2 (by decide)
    · rw [if_neg (fun z => ?_)]
      · rfl
      · rw [hi0 _ z.1] at z
        exact absurd z.2 (by decide)
  | succ i ih =>
    intro hiT
    obtain ⟨a1, a2, a3, a4, a5, a6, a7⟩ := ih (by omega)
    obtain ⟨m, hm⟩ : ∃ m, m = T - 1 - i := ⟨_, rfl⟩
    have ej : T - i = m + 1 := by omega
    have ej' : T - (i + 1) = m := by omega
    rw [ej] at a4 a5 a6 a7
    rw [ej']
    show HI R g m (if g.testBit (T - 1 - i) = true then (if T - 1 - i < R 8 then rmR (hgS R g T i) 8 218 3 (T - 1 - i) else rmR (hgS R g T i) 9 254 4 (T - 1 - i - R 8)) else hgS R g T i)
    rw [← hm]
    generalize hgS R g T i = S at *
    by_cases wb : g.testBit m = true
    · rw [if_pos wb]
      by_cases w8 : m < R 8
      · rw [if_pos w8]
        obtain ⟨b1, b2⟩ := a4 m (by omega) w8
        have s8 := a1.2.2.2.2.2.2.2.2.2.1
        have ew : ∀ r f t, isW S (218 + 3 * m) r f t = isW R (218 + 3 * m) r f t := fun r f t => by
          unfold isW
          rw [show S (218 + 3 * m) = R (218 + 3 * m) from b2 0 (by decide), b2 1 (by decide), b2 2 (by decide)]
        refine ⟨rmR_PV a1 (Or.inr (Or.inl ⟨rfl, rfl, rfl⟩)) b1, fun n hn => (rmR_out (by omega) (by omega)).trans (a2 n hn), fun n h1 h2 => (rmR_out (by omega) (by omega)).trans (a3 n h1 h2), fun l h1 h2 => ?_, fun l h => ?_, fun r f t => ?_, fun r f t => ?_⟩
        · obtain ⟨c1, c2⟩ := a4 l (by omega) h2
          exact ⟨by rw [rmR_c]; omega, fun n hn => (rmR_out (by omega) (by omega)).trans (c2 n hn)⟩
        · omega
        · rw [om_rm8 a1 b1, a6, ew]
          constructor
          · rintro ⟨⟨h1, h2⟩, h3⟩
            refine ⟨h1, fun z => ?_⟩
            by_cases e : omI R r f t = m
            · have := om_at h1
              rw [e, h3] at this
              cases this
            · exact h2 ⟨by omega, z.2⟩
          · rintro ⟨h1, h2⟩
            refine ⟨⟨h1, fun z => h2 ⟨by omega, z.2⟩⟩, ?_⟩
            cases e : isW R (218 + 3 * m) r f t
            · rfl
            · have := om_uq hV h1 w8 (om_at h1) e
              exact absurd ⟨by omega, by rw [this]; exact wb⟩ h2
        · rw [lt_rm8 a1, a7]
          by_cases q : m ≤ R 8 + ltI R r f t ∧ g.testBit (R 8 + ltI R r f t) = true
          · rw [if_pos q, if_pos ⟨by omega, q.2⟩]
          · rw [if_neg q, if_neg (fun z => q ⟨by omega, z.2⟩)]
      · rw [if_neg w8]
        obtain ⟨u, hu⟩ : ∃ u, u = m - R 8 := ⟨_, rfl⟩
        have em : R 8 + u = m := by omega
        rw [← hu]
        obtain ⟨b1, b2⟩ := a5 u (by omega)
        have u9 : u < R 9 := by omega
        have s9 := a1.2.2.2.2.2.2.2.2.2.2.1
        have s8 := a1.2.2.2.2.2.2.2.2.2.1
        have ew : ∀ r f t, isW S (254 + 4 * u) r f t = isW R (254 + 4 * u) r f t := fun r f t => by
          unfold isW
          rw [show S (254 + 4 * u) = R (254 + 4 * u) from b2 0 (by decide), b2 1 (by decide), b2 2 (by decide)]
        refine ⟨rmR_PV a1 (Or.inr (Or.inr ⟨rfl, rfl, rfl⟩)) b1, fun n hn => (rmR_out (by omega) (by omega)).trans (a2 n hn), fun n h1 h2 => (rmR_out (by omega) (by omega)).trans (a3 n h1 h2), fun l h1 h2 => ?_, fun l h => ?_, fun r f t => ?_, fun r f t => ?_⟩
        · obtain ⟨c1, c2⟩ := a4 l (by omega) h2
          have v8 := hV.2.2.2.2.2.2.2.2.2.1
          exact ⟨by rw [rmR_out (by omega) (by omega)]; exact c1, fun n hn => (rmR_out (by omega) (by omega)).trans (c2 n hn)⟩
        · obtain ⟨c1, c2⟩ := a5 l (by omega)
          exact ⟨by rw [rmR_c]; omega, fun n hn => (rmR_out (by omega) (by omega)).trans (c2 n hn)⟩
        · rw [om_rm9 a1, a6]
          constructor
          · rintro ⟨h1, h2⟩
            exact ⟨h1, fun z => by omega⟩
          · rintro ⟨h1, h2⟩
            exact ⟨h1, fun z => by omega⟩
        · rw [lt_rm9 a1 b1, a7, ew]
          by_cases e : ltI R r f t = u
          · have q : m ≤ R 8 + ltI R r f t ∧ g.testBit (R 8 + ltI R r f t) = true := ⟨by omega, by rw [e, em]; exact wb⟩
            have hw := lt_at (R := R) (r := r) (f := f) (t := t) (by omega)
            rw [e] at hw
            rw [if_pos q, if_pos hw]
          · have nw : ¬ isW R (254 + 4 * u) r f t = true := fun z => by
              have h1 : ltI R r f t < R 9 := lt_iff.mpr ⟨u, u9, z⟩
              exact e (lt_uq hV h1 u9 (lt_at h1) z)
            rw [if_neg nw]
            by_cases q : m ≤ R 8 + ltI R r f t ∧ g.testBit (R 8 + ltI R r f t) = true
            · rw [if_pos q, if_pos ⟨by omega, q.2⟩]
            · rw [if_neg q, if_neg (fun z => q ⟨by omega, z.2⟩)]
    · rw [if_neg wb]
      refine ⟨a1, a2, a3, fun l h1 h2 => a4 l (by omega) h2, fun l h => a5 l (by omega), fun r f t => ?_, fun r f t => ?_⟩
      · rw [a6]
        constructor
        · rintro ⟨h1, h2⟩
          refine ⟨h1, fun z => h2 ⟨?_, z.2⟩⟩
          by_cases e : omI R r f t = m
          · exact absurd (by rw [← e]; exact z.2) wb
          · omega
        · rintro ⟨h1, h2⟩
          exact ⟨h1, fun z => h2 ⟨by omega, z.2⟩⟩
      · rw [a7]
        by_cases q : m ≤ R 8 + ltI R r f t ∧ g.testBit (R 8 + ltI R r f t) = true
        · have h1 : m + 1 ≤ R 8 + ltI R r f t := by
            by_cases e : R 8 + ltI R r f t = m
            · exact absurd (by rw [← e]; exact q.2) wb
            · omega
          rw [if_pos q, if_pos ⟨h1, q.2⟩]
        · rw [if_neg q, if_neg (fun z => q ⟨by omega, z.2⟩)]
theorem lateV_g {R : Nat → Nat} (hV : PV R) {g r f t : Nat} (hf : f < 8) (ht : t < 8) : ∀ n, n ≤ R 9 → lateV R g (64 * r + 8 * f + t) n = if ltI R r f t < n ∧ g.testBit (R 8 + ltI R r f t) = false then ltN R r f t else 0 := by
  have hn := pv_n hV
  have vc := hV.2.2.2.2.2.2.2.2.2.2.2.2.2.1
  intro n
  induction n with
  | zero => intro _; rw [if_neg (by omega)]; rfl
  | succ n ih =>
    intro hn'
    show (if (!g.testBit (R 8 + n) && decide (way R (254 + 4 * n) = 64 * r + 8 * f + t)) = true then R (254 + 4 * n + 3) else lateV R g (64 * r + 8 * f + t) n) = _
    rw [ih (by omega)]
    have hw := way_inj (r := r) hn (vc n (by omega)).1 hf ht
    by_cases e : way R (254 + 4 * n) = 64 * r + 8 * f + t
    · have w := hw.mp e
      have el : ltI R r f t = n := by
        have h1 : ltI R r f t < R 9 := lt_iff.mpr ⟨n, by omega, w⟩
        exact lt_uq hV h1 (by omega) (lt_at h1) w
      rw [el, decide_eq_true e, Bool.and_true]
      cases eb : g.testBit (R 8 + n)
      · rw [if_pos (by rfl), if_pos ⟨by omega, rfl⟩, ltN_at hV (by omega) w]
      · rw [if_neg (by decide), if_neg (fun z => by cases z.2), if_neg (fun z => by cases z.2)]
    · have ne : ltI R r f t ≠ n := fun z => e (hw.mpr (by rw [← z]; exact lt_at (by omega)))
      rw [decide_eq_false e, Bool.and_false, if_neg (by decide)]
      by_cases q : ltI R r f t < n ∧ g.testBit (R 8 + ltI R r f t) = false
      · rw [if_pos q, if_pos ⟨by omega, q.2⟩]
      · rw [if_neg q, if_neg (fun z => q ⟨by omega, z.2⟩)]
theorem omitV_g {R : Nat → Nat} (hV : PV R) {g r f t : Nat} (hf : f < 8) (ht : t < 8) : ∀ n, n ≤ R 8 → omitV R g (64 * r + 8 * f + t) n = if omI R r f t < n ∧ g.testBit (omI R r f t) = false then 99 else lateV R g (64 * r + 8 * f + t) (R 9) := by
  have hn := pv_n hV
  have vb := hV.2.2.2.2.2.2.2.2.2.2.2.2.1
  intro n
  induction n with
  | zero => intro _; rw [if_neg (by omega)]; rfl
  | succ n ih =>
    intro hn'
    show (if (!g.testBit n && decide (way R (218 + 3 * n) = 64 * r + 8 * f + t)) = true then 99 else omitV R g (64 * r + 8 * f + t) n) = _
    rw [ih (by omega)]
    have hw := way_inj (r := r) hn (vb n (by omega)) hf ht
    by_cases e : way R (218 + 3 * n) = 64 * r + 8 * f + t
    · have w := hw.mp e
      have el : omI R r f t = n := by
        have h1 : omI R r f t < R 8 := om_iff.mpr ⟨n, by omega, w⟩
        exact om_uq hV h1 (by omega) (om_at h1) w
      rw [el, decide_eq_true e, Bool.and_true]
      cases eb : g.testBit n
      · rw [if_pos (by rfl), if_pos ⟨by omega, rfl⟩]
      · rw [if_neg (by decide), if_neg (fun z => by cases z.2), if_neg (fun z => by cases z.2)]
    · have ne : omI R r f t ≠ n := fun z => e (hw.mpr (by rw [← z]; exact om_at (by omega)))
      rw [decide_eq_false e, Bool.and_false, if_neg (by decide)]
      by_cases q : omI R r f t < n ∧ g.testBit (omI R r f t) = false
      · rw [if_pos q, if_pos ⟨by omega, q.2⟩]
      · rw [if_neg q, if_neg (fun z => q ⟨by omega, z.2⟩)]
theorem hg_dl {R : Nat → Nat} (hV : PV R) {g T r f t : Nat} (hT : T ≤ R 8 + R 9) (hg : g < 2 ^ T) (hr : 1 ≤ r) (hf : f < 8) (ht : t < 8) : omitV R g (64 * r + 8 * f + t) (R 8) = dlM (hgS R g T T) none0 r f t := by
  have hi0 : ∀ x, T ≤ x → g.testBit x = false := fun x hx => Nat.testBit_lt_two_pow (Nat.lt_of_lt_of_le hg (Nat.pow_le_pow_right (by decide) hx))
  obtain ⟨-, -, -, -, -, a6, a7⟩ := hg_sp hV hT hg T (Nat.le_refl _)
  rw [Nat.sub_self] at a6 a7
  rw [omitV_g hV hf ht (R 8) (Nat.le_refl _), lateV_g hV hf ht (R 9) (Nat.le_refl _), dlM_eq, if_neg (show ¬ (none0 0 = r ∧ none0 1 = f ∧ none0 2 = t) from fun z => by have : 0 = r := z.1; omega), a7]
  by_cases w : omI R r f t < R 8 ∧ g.testBit (omI R r f t) = false
  · rw [if_pos w, if_pos ((a6 r f t).mpr ⟨w.1, fun z => by rw [w.2] at z; exact absurd z.2 (by decide)⟩)]
  · have no : ¬ omI (hgS R g T T) r f t < hgS R g T T 8 := fun z => by
      obtain ⟨z1, z2⟩ := (a6 r f t).mp z
      refine w ⟨z1, ?_⟩
      cases e : g.testBit (omI R r f t)
      · rfl
      · exact absurd ⟨Nat.zero_le _, e⟩ z2
    rw [if_neg w, if_neg no]
    cases q : g.testBit (R 8 + ltI R r f t)
    · rw [if_neg (show ¬ (0 ≤ R 8 + ltI R r f t ∧ false = true) from fun z => by cases z.2)]
      by_cases l : ltI R r f t < R 9
      · rw [if_pos ⟨l, rfl⟩]
      · rw [if_neg (fun z => l z.1), ltN_ge l]
    · rw [if_neg (show ¬ (ltI R r f t < R 9 ∧ true = false) from fun z => by cases z.2), if_pos ⟨Nat.zero_le _, rfl⟩]
