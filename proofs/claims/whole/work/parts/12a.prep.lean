/-! the class makes ready for a run: what comes late -/
def lateV (R : Nat → Nat) (g w : Nat) : Nat → Nat
  | 0 => 0
  | l + 1 => if (!g.testBit (R 8 + l) && decide (way R (254 + 4 * l) = w)) = true then R (254 + 4 * l + 3) else lateV R g w l
def omitV (R : Nat → Nat) (g w : Nat) : Nat → Nat
  | 0 => lateV R g w (R 9)
  | l + 1 => if (!g.testBit l && decide (way R (218 + 3 * l) = w)) = true then 99 else omitV R g w l
theorem wayOK_lt {R : Nat → Nat} {q : Nat} (hn : R 0 ≤ 8) (h : wayOK R q) : way R q < 576 := by
  obtain ⟨a1, a2, a3, a4, a5⟩ := h
  unfold way
  omega
theorem lateV_le {R : Nat → Nat} (hV : PV R) (g w : Nat) : ∀ l, l ≤ R 9 → lateV R g w l ≤ 7 := by
  intro l
  induction l with
  | zero => intro _; exact Nat.zero_le _
  | succ l ih =>
    intro h
    unfold lateV
    split
    · exact (hV.2.2.2.2.2.2.2.2.2.2.2.2.2.1 l (by omega)).2.2
    · exact ih (by omega)
theorem omitV_le {R : Nat → Nat} (hV : PV R) (g w : Nat) : ∀ l, omitV R g w l ≤ 99 := by
  intro l
  induction l with
  | zero => exact Nat.le_trans (lateV_le hV g w (R 9) (Nat.le_refl _)) (by decide)
  | succ l ih =>
    unfold omitV
    split
    · exact Nat.le_refl _
    · exact ih
theorem C_prepare {k g : Nat} {R : Nat → Nat} {M : Mem} (hk : 112 ≤ k) (hV : PV R) (hP : PC R M 0) (hg : g < 2 ^ 31) : ∃ M', f_Run_prepare k M (nI g) = some M' ∧ (∀ a, a ≠ k → a ≠ k + 1 → M' a = M a) ∧ (∀ b, b ≠ 1 → b ≠ 2 → M' k b = M k b) ∧ M' k 1 = nI (R 3) ∧ M' k 2 = -1 ∧ ∀ w, w < 576 → M' (k + 1) w = nI (omitV R g w (R 8)) := by
  have hn := pv_n hV
  have h8 := hV.2.2.2.2.2.2.2.2.2.1
  have h9 := hV.2.2.2.2.2.2.2.2.2.2.1
  obtain ⟨A, a0, a1, a2, -⟩ := fill_sp (a := k + 1) (n := 576) (M := upM (upM M k 1 (M 1 2)) k 2 (-1)) (x := 0) (by decide)
  have rA : ∀ a, a < 112 → A a = M a := fun a ha => by rw [a1 a (by omega), upM_row (by omega), upM_row (by omega)]
  unfold f_Run_prepare
  rw [lt1_eq, lt1_eq, a0, bnd_some]
  unfold f_Run_prepare_J28
  obtain ⟨B, b0, b1, b2⟩ : ∃ B, f_Run_prepare_W28 k (nI g) ((0 : Int32), A) = some B ∧ (∀ a, a ≠ k + 1 → B a = A a) ∧ ∀ w, w < 576 → B (k + 1) w = nI (lateV R g w (R 9)) := by
    unfold f_Run_prepare_W28
    refine loop_enc (fun i s => (nI i, s)) (R 9) (fun l N => (∀ a, a ≠ k + 1 → N a = A a) ∧ ∀ w, w < 576 → N (k + 1) w = nI (lateV R g w l)) _ ?_ ?_ 0 A (Nat.zero_le _) ⟨fun _ _ => rfl, fun w hw => a2 w hw⟩
    · rintro l N hl ⟨h1, h2⟩
      left
      have rN : ∀ a, a < 112 → N a = M a := fun a ha => (h1 a (by omega)).trans (rA a ha)
      have e6 := hP.2.2.2.2.2.2.2.2 l hl
      obtain ⟨hw, b1, b7⟩ := hV.2.2.2.2.2.2.2.2.2.2.2.2.2.1 l hl
      have hlt := wayOK_lt hn hw
      have q6 : N 6 l = nI (way R (254 + 4 * l)) := by rw [rN 6 (by omega)]; exact e6.1
      have q7 : N 7 l = nI (R (254 + 4 * l + 3)) := by rw [rN 7 (by omega)]; exact e6.2
      have start : f_Run_prepare_L28 k (nI g) (nI l) N = if g.testBit (R 8 + l) = false then some (.inl (nI (l + 1), upM N (k + 1) (way R (254 + 4 * l)) (nI (R (254 + 4 * l + 3))))) else some (.inl (nI (l + 1), N)) := by
        have q3 : N 0 3 = nI (R 8) := by rw [rN 0 (by omega)]; exact hP.2.2.2.1
        have q4 : N 0 4 = nI (R 9) := by rw [rN 0 (by omega)]; exact hP.2.2.2.2.1
        unfold f_Run_prepare_L28
        rw [q4, if_neg (nI_ge hl (by omega)), q3, nI_add, gIn_nI (by omega) (by decide), nI_clamp (show l < 2 ^ 31 by omega), q6, gIn_nI hlt (by decide), nI_clamp (by omega), q7, lt1_eq, ← nI_succ]
        by_cases w : g.testBit (R 8 + l) = false
        · rw [if_pos ((bit_0 hg (by omega)).mpr w), if_pos w]
        · rw [if_neg (fun z => w ((bit_0 hg (by omega)).mp z)), if_neg w]
      by_cases w : g.testBit (R 8 + l) = false
      · refine ⟨upM N (k + 1) (way R (254 + 4 * l)) (nI (R (254 + 4 * l + 3))), ?_, fun a ha => (upM_row ha).trans (h1 a ha), fun v hv => ?_⟩
        · show f_Run_prepare_L28 k (nI g) (nI l) N = _
          rw [start, if_pos w]
        · unfold lateV
          by_cases e : way R (254 + 4 * l) = v
          · rw [if_pos (by simp [w, e]), e, upM_eq]
          · rw [if_neg (by simp [e]), upM_ne (fun _ => fun z => e z.symm), h2 v hv]
      · refine ⟨N, ?_, h1, fun v hv => ?_⟩
        · show f_Run_prepare_L28 k (nI g) (nI l) N = _
          rw [start, if_neg w]
        · unfold lateV
          rw [if_neg (by simp at w; simp [w]), h2 v hv]
    · rintro N ⟨h1, h2⟩
      refine ⟨N, ?_, h1, h2⟩
      have q4 : N 0 4 = nI (R 9) := by rw [h1 0 (by omega), rA 0 (by omega)]; exact hP.2.2.2.2.1
      show f_Run_prepare_L28 k (nI g) (nI (R 9)) N = _
      unfold f_Run_prepare_L28
      rw [q4, if_pos ((nI_leI (by omega) (by omega)).mpr (Nat.le_refl _))]
  rw [b0, bnd_some]
  unfold f_Run_prepare_J86
  rw [bnd_id]
  have rB : ∀ a, a < 112 → B a = M a := fun a ha => (b1 a (by omega)).trans (rA a ha)
  obtain ⟨C, c0, c1, c2⟩ : ∃ C, f_Run_prepare_W86 k (nI g) ((0 : Int32), B) = some C ∧ (∀ a, a ≠ k + 1 → C a = B a) ∧ ∀ w, w < 576 → C (k + 1) w = nI (omitV R g w (R 8)) := by
    unfold f_Run_prepare_W86
    refine loop_enc (fun i s => (nI i, s)) (R 8) (fun l N => (∀ a, a ≠ k + 1 → N a = B a) ∧ ∀ w, w < 576 → N (k + 1) w = nI (omitV R g w l)) _ ?_ ?_ 0 B (Nat.zero_le _) ⟨fun _ _ => rfl, b2⟩
    · rintro l N hl ⟨h1, h2⟩
      left
      have rN : ∀ a, a < 112 → N a = M a := fun a ha => (h1 a (by omega)).trans (rB a ha)
      have e5 := hP.2.2.2.2.2.2.2.1 l hl
      have hw := hV.2.2.2.2.2.2.2.2.2.2.2.2.1 l hl
      have hlt := wayOK_lt hn hw
      have q5 : N 5 l = nI (way R (218 + 3 * l)) := by rw [rN 5 (by omega)]; exact e5
      have start : f_Run_prepare_L86 k (nI g) (nI l) N = if g.testBit l = false then some (.inl (nI (l + 1), upM N (k + 1) (way R (218 + 3 * l)) 99)) else some (.inl (nI (l + 1), N)) := by
        have q3 : N 0 3 = nI (R 8) := by rw [rN 0 (by omega)]; exact hP.2.2.2.1
        unfold f_Run_prepare_L86
        rw [q3, if_neg (nI_ge hl (by omega)), gIn_nI (by omega) (by decide), nI_clamp (show l < 2 ^ 31 by omega), q5, gIn_nI hlt (by decide), nI_clamp (by omega), lt1_eq, ← nI_succ]
        by_cases w : g.testBit l = false
        · rw [if_pos ((bit_0 hg (by omega)).mpr w), if_pos w]
        · rw [if_neg (fun z => w ((bit_0 hg (by omega)).mp z)), if_neg w]
      by_cases w : g.testBit l = false
      · refine ⟨upM N (k + 1) (way R (218 + 3 * l)) 99, ?_, fun a ha => (upM_row ha).trans (h1 a ha), fun v hv => ?_⟩
        · show f_Run_prepare_L86 k (nI g) (nI l) N = _
          rw [start, if_pos w]
        · unfold omitV
          by_cases e : way R (218 + 3 * l) = v
          · rw [if_pos (by simp [w, e]), e, upM_eq]
            rfl
          · rw [if_neg (by simp [e]), upM_ne (fun _ => fun z => e z.symm), h2 v hv]
      · refine ⟨N, ?_, h1, fun v hv => ?_⟩
        · show f_Run_prepare_L86 k (nI g) (nI l) N = _
          rw [start, if_neg w]
        · unfold omitV
          rw [if_neg (by simp at w; simp [w]), h2 v hv]
    · rintro N ⟨h1, h2⟩
      refine ⟨N, ?_, h1, h2⟩
      have q3 : N 0 3 = nI (R 8) := by rw [h1 0 (by omega), rB 0 (by omega)]; exact hP.2.2.2.1
      show f_Run_prepare_L86 k (nI g) (nI (R 8)) N = _
      unfold f_Run_prepare_L86
      rw [q3, if_pos ((nI_leI (by omega) (by omega)).mpr (Nat.le_refl _))]
  have rC : ∀ a, a ≠ k + 1 → C a = upM (upM M k 1 (M 1 2)) k 2 (-1) a := fun a ha => by rw [c1 a ha, b1 a ha, a1 a ha]
  refine ⟨C, c0, fun a e1 e2 => by rw [rC a e2, upM_row e1, upM_row e1], fun b e1 e2 => by rw [rC k (by omega), upM_ne (fun _ => e2), upM_ne (fun _ => e1)], ?_, by rw [rC k (by omega), upM_eq], c2⟩
  rw [rC k (by omega), upM_ne (by omega), upM_eq]
  exact hP.2.2.2.2.2.1 2 (by decide)
theorem way_inj {R : Nat → Nat} {q r f t : Nat} (hn : R 0 ≤ 8) (h : wayOK R q) (hf : f < 8) (ht : t < 8) : way R q = 64 * r + 8 * f + t ↔ isW R q r f t = true := by
  obtain ⟨a1, a2, a3, a4, a5⟩ := h
  unfold way isW
  simp only [Bool.and_eq_true, decide_eq_true_eq]
  constructor
  · intro w; omega
  · rintro ⟨⟨w1, w2⟩, w3⟩; omega
theorem lateV_no {R : Nat → Nat} {g w : Nat} : ∀ {n : Nat}, (∀ l, l < n → (!g.testBit (R 8 + l) && decide (way R (254 + 4 * l) = w)) = false) → lateV R g w n = 0 := by
  intro n
  induction n with
  | zero => intro _; rfl
  | succ n ih =>
    intro h
    unfold lateV
    rw [if_neg (by rw [h n (by omega)]; decide)]
    exact ih (fun l hl => h l (by omega))
theorem lateV_at {R : Nat → Nat} {g w i : Nat} : ∀ {n : Nat}, i < n → (!g.testBit (R 8 + i) && decide (way R (254 + 4 * i) = w)) = true → (∀ l, l < n → l ≠ i → way R (254 + 4 * l) ≠ w) → lateV R g w n = R (254 + 4 * i + 3) := by
  intro n
  induction n with
  | zero => intro h; omega
  | succ n ih =>
    intro h1 h2 h3
    unfold lateV
    by_cases e : n = i
    · subst e
      rw [if_pos h2]
    · rw [if_neg (by simp [h3 n (by omega) e])]
      exact ih (by omega) h2 (fun l hl => h3 l (by omega))
theorem omitV_no {R : Nat → Nat} {g w : Nat} : ∀ {n : Nat}, (∀ l, l < n → (!g.testBit l && decide (way R (218 + 3 * l) = w)) = false) → omitV R g w n = lateV R g w (R 9) := by
  intro n
  induction n with
  | zero => intro _; rfl
  | succ n ih =>
    intro h
    unfold omitV
    rw [if_neg (by rw [h n (by omega)]; decide)]
    exact ih (fun l hl => h l (by omega))
theorem omitV_at {R : Nat → Nat} {g w i : Nat} : ∀ {n : Nat}, i < n → (!g.testBit i && decide (way R (218 + 3 * i) = w)) = true → omitV R g w n = 99 := by
  intro n
  induction n with
  | zero => intro h; omega
  | succ n ih =>
    intro h1 h2
    unfold omitV
    by_cases e : n = i
    · subst e
      rw [if_pos h2]
    · split
      · rfl
      · exact ih (by omega) h2
/-- nothing gone: as the reference has it -/
theorem omitV_0 {R x : Nat → Nat} (hV : PV R) (hx : x 0 = 0) {r f t : Nat} (hr : 1 ≤ r) (hf : f < 8) (ht : t < 8) : omitV R 0 (64 * r + 8 * f + t) (R 8) = dlM R x r f t := by
  have hn := pv_n hV
  have hw8 := hV.2.2.2.2.2.2.2.2.2.2.2.2.1
  have hw9 := hV.2.2.2.2.2.2.2.2.2.2.2.2.2.1
  have hu9 := hV.2.2.2.2.2.2.2.2.2.2.2.2.2.2.2
  unfold dlM
  rw [if_neg (show ¬ (x 0 = r ∧ x 1 = f ∧ x 2 = t) by omega)]
  have key : ∀ q, wayOK R q → (isW R q r f t = decide (way R q = 64 * r + 8 * f + t)) := fun q hq => by
    by_cases w : way R q = 64 * r + 8 * f + t
    · rw [decide_eq_true w]; exact (way_inj hn hq hf ht).mp w
    · rw [decide_eq_false w]
      cases e : isW R q r f t with
      | false => rfl
      | true => exact absurd ((way_inj hn hq hf ht).mpr e) w
  rcases fstN_sp (fun l => isW R (218 + 3 * l) r f t) (R 8) with ⟨h1, h2⟩ | ⟨h1, h2, h3⟩
  · have e : omI R r f t = R 8 := h1
    rw [e, if_neg (by omega), omitV_no (fun l hl => by
      have := h2 l hl
      rw [key _ (hw8 l hl)] at this
      rw [this, Bool.and_false])]
    rcases fstN_sp (fun l => isW R (254 + 4 * l) r f t) (R 9) with ⟨k1, k2⟩ | ⟨k1, k2, k3⟩
    · have e : ltI R r f t = R 9 := k1
      rw [e, if_neg (by omega), lateV_no (fun l hl => by
        have := k2 l hl
        rw [key _ (hw9 l hl).1] at this
        rw [this, Bool.and_false])]
    · have e : ltI R r f t < R 9 := k1
      rw [if_pos e]
      have k2' : way R (254 + 4 * ltI R r f t) = 64 * r + 8 * f + t := (way_inj hn (hw9 _ e).1 hf ht).mpr k2
      refine lateV_at e (by rw [k2']; simp) (fun l hl hne z => ?_)
      rw [← k2'] at z
      rcases Nat.lt_or_ge l (ltI R r f t) with w | w
      · exact hu9 _ _ w e z
      · exact hu9 _ _ (show ltI R r f t < l by omega) hl z.symm
  · have e : omI R r f t < R 8 := h1
    rw [if_pos e]
    have k2' : way R (218 + 3 * omI R r f t) = 64 * r + 8 * f + t := (way_inj hn (hw8 _ e) hf ht).mpr h2
    exact omitV_at e (by rw [k2']; simp)
theorem dlM_le {R x : Nat → Nat} (hV : PV R) (hx : x 3 < 100) (r f t : Nat) : dlM R x r f t ≤ 99 := by
  unfold dlM
  split
  · exact Nat.le_refl _
  · split
    · split <;> omega
    · split
      · rename_i h
        have := (hV.2.2.2.2.2.2.2.2.2.2.2.2.2.1 _ h).2.2
        omega
      · exact Nat.zero_le _
def none0 : Nat → Nat := fun _ => 0
def NQ (R : Nat → Nat) : Tab := sRun R (dlM R none0) (R 7) (plR R) (fun _ => true) (R 3)
theorem PC.CS {R : Nat → Nat} {M : Mem} (h : PC R M 0) : CS R M := ⟨h.1, h.2.1, h.2.2.2.2.2.1 0 (by decide), h.2.2.2.2.2.1 1 (by decide), h.2.2.2.2.2.1 3 (by decide), h.2.2.2.2.2.1 4 (by decide)⟩
theorem PC.CP {R : Nat → Nat} {M : Mem} {k : Nat} {al : Nat → Bool} (hV : PV R) (h : PC R M 0) (ha : ∀ l, l < R 7 → (((M k 2 >>> (nI l &&& 31)) &&& (1 : Int32)) = 0 ↔ al l = false)) : CP k (R 7) (plR R) al M := by
  refine ⟨h.2.2.1, hV.2.2.2.2.2.2.2.2.1, fun l hl => ?_, ha⟩
  obtain ⟨a, b, c⟩ := h.2.2.2.2.2.2.1 l hl
  refine ⟨a, b, ?_⟩
  have e : (fun i => plR R l (5 + i)) = fun i => R (10 + 13 * l + 5 + i) := funext (fun i => by unfold plR; rw [← Nat.add_assoc])
  rw [e]
  exact c
theorem al_all : ∀ l, l < 17 → ((-1 : Int32) >>> (nI l &&& 31)) &&& (1 : Int32) ≠ 0 := by decide +kernel
/-- the class's run of its play as it stands -/
theorem C_replay {R : Nat → Nat} {M : Mem} (hV : PV R) (hP : PC R M 0) : ∃ M', f_MC_replay M = some M' ∧ (∀ a, ¬ (112 ≤ a ∧ a ≤ 123) → M' a = M a) ∧ RC 112 (R 3 + 1) (R 3) (NQ R) M' ∧ M' 112 1 = nI (R 3) := by
  obtain ⟨A, a1, a2, a3, a4, a5, a6⟩ := C_prepare (k := 112) (g := 0) (by decide) hV hP (by decide)
  have hPA : PC R A 0 := by
    unfold PC
    simp (disch := omega) only [a2]
    exact hP
  obtain ⟨B, b1, b2, b3⟩ := C_play (k := 112) (np := R 7) (dl := dlM R none0) (PL := plR R) (al := fun _ => true) (by decide) hV hPA.CS ⟨a4, fun r f t h1 h2 h3 h4 => by rw [a6 _ (by omega), omitV_0 (x := none0) hV rfl h1 h3 h4], dlM_le hV (by decide), hV.2.2.2.1⟩ (hPA.CP hV (fun l hl => by
    rw [a5]
    have h7 := hV.2.2.2.2.2.2.2.2.1
    have := al_all l (by omega)
    exact ⟨fun w => absurd w this, fun w => (by cases w)⟩)) (plR_ok hV)
  refine ⟨B, ?_, fun a ha => (b3.1 a (by omega)).trans (a2 a (by omega) (by omega)), b2, b3.2.2.1.trans a4⟩
  unfold f_MC_replay
  rw [show (0 : Int32) = nI 0 from rfl, a1, bnd_some, b1, bnd_some]
