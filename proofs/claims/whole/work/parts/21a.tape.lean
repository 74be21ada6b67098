/-! tell: the tape is read -/
theorem upM_self {M : Mem} {k i : Nat} {x : Int32} (h : M k i = x) : upM M k i x = M := by
  funext a j
  rw [upM_get]
  by_cases w : a = k ∧ j = i
  · rw [if_pos w, w.1, w.2, h]
  · rw [if_neg w]
theorem upM_2 {M : Mem} {k i : Nat} {x y : Int32} : upM (upM M k i x) k i y = upM M k i y := by
  funext a j
  rw [upM_get, upM_get, upM_get]
  by_cases w : a = k ∧ j = i
  · rw [if_pos w, if_pos w]
  · rw [if_neg w, if_neg w, if_neg w]
/-- where a row of signs with the property ends -/
def runN (p : Nat → Bool) (tl i : Nat) : Nat := i + fstN (fun k => !p (i + k)) (tl - i)
theorem runN_sp (p : Nat → Bool) {tl i : Nat} (h : i ≤ tl) : i ≤ runN p tl i ∧ runN p tl i ≤ tl ∧ (∀ j, i ≤ j → j < runN p tl i → p j = true) ∧ (runN p tl i < tl → p (runN p tl i) = false) := by
  unfold runN
  rcases fstN_sp (fun k => !p (i + k)) (tl - i) with ⟨h1, h2⟩ | ⟨h1, h2, h3⟩
  · rw [h1]
    refine ⟨by omega, by omega, fun j h3 h4 => ?_, fun z => by omega⟩
    have := h2 (j - i) (by omega)
    rw [show i + (j - i) = j by omega] at this
    simpa using this
  · refine ⟨by omega, by omega, fun j h4 h5 => ?_, fun _ => by simpa using h2⟩
    have := h3 (j - i) (by omega)
    rw [show i + (j - i) = j by omega] at this
    simpa using this
theorem runN_0 {p : Nat → Bool} {tl i : Nat} (h : i ≤ tl) (hp : i < tl → p i = false) : runN p tl i = i := by
  obtain ⟨h1, h2, h3, h4⟩ := runN_sp p h
  refine Nat.le_antisymm (Nat.le_of_not_lt (fun z => ?_)) h1
  have := h3 i (Nat.le_refl _) z
  rw [hp (by omega)] at this
  cases this
theorem runN_2 {p : Nat → Bool} {tl i : Nat} (h : i ≤ tl) : runN p tl (runN p tl i) = runN p tl i := by
  obtain ⟨h1, h2, h3, h4⟩ := runN_sp p h
  exact runN_0 h2 h4
/-- a loop that walks along a row of signs -/
theorem run_loop {τ ρ : Type} {body : τ → Option (τ ⊕ ρ)} (p : Nat → Bool) {tl i : Nat} (h : i ≤ tl) (e : Nat → τ) (r : Nat → ρ) (hs : ∀ k, i + k < tl → p (i + k) = true → body (e k) = some (.inl (e (k + 1)))) (he : ∀ k, i + k ≤ tl → (i + k < tl → p (i + k) = false) → body (e k) = some (.inr (r k))) : loop body (e 0) = some (r (runN p tl i - i)) := by
  have := loop_first e (fun k => !p (i + k)) (tl - i) r (r (tl - i)) (fun k hk hb => hs k (by omega) (by simpa using hb)) (fun k hk hb => he k (by omega) (fun _ => by simpa using hb)) (he _ (by omega) (fun z => by omega))
  rw [this]
  unfold runN
  rw [Nat.add_sub_cancel_left]
  rcases fstN_sp (fun k => !p (i + k)) (tl - i) with ⟨h1, h2⟩ | ⟨h1, h2, h3⟩
  · rw [h1, if_neg (by omega)]
  · rw [if_pos h1]
def blB (B : Nat → Nat) (j : Nat) : Bool := decide (B j = 32)
def dgB (B : Nat → Nat) (j : Nat) : Bool := decide (48 ≤ B j ∧ B j ≤ 57)
def ltB (B : Nat → Nat) (j : Nat) : Bool := decide (97 ≤ B j ∧ B j ≤ 122)
def TC (tl : Nat) (B : Nat → Nat) (i w : Nat) (M : Mem) : Prop := M 136 2 = nI tl ∧ M 136 3 = nI w ∧ M 136 4 = nI i ∧ i ≤ tl ∧ ∀ j, j < tl → M 137 j = nI (B j)
def TM (tl : Nat) (B : Nat → Nat) (i w : Nat) (N : Mem) : Prop := N 0 8 = nI tl ∧ N 0 10 = cmI w ∧ N 0 9 = nI i ∧ i ≤ tl ∧ ∀ j, j < tl → N 7 j = sbI (B j)
theorem TC.to {tl : Nat} {B : Nat → Nat} {i i' w : Nat} {M : Mem} (h : TC tl B i w M) (hi : i' ≤ tl) : TC tl B i' w (upM M 136 4 (nI i')) := by
  obtain ⟨h1, h2, h3, h4, h5⟩ := h
  exact ⟨(upM_ne (by omega)).trans h1, (upM_ne (by omega)).trans h2, upM_eq, hi, fun j hj => by rw [upM_row (by decide)]; exact h5 j hj⟩
theorem TC.bg {tl : Nat} {B : Nat → Nat} {i w : Nat} {M : Mem} (h : TC tl B i w M) (x : Int32) : TC tl B i w (upM M 136 5 x) := by
  obtain ⟨h1, h2, h3, h4, h5⟩ := h
  exact ⟨(upM_ne (by omega)).trans h1, (upM_ne (by omega)).trans h2, (upM_ne (by omega)).trans h3, h4, fun j hj => by rw [upM_row (by decide)]; exact h5 j hj⟩
theorem TC.cg {tl : Nat} {B : Nat → Nat} {i w : Nat} {M M' : Mem} (h : TC tl B i w M) (e : ∀ a, 136 ≤ a → M' a = M a) : TC tl B i w M' := by
  obtain ⟨h1, h2, h3, h4, h5⟩ := h
  unfold TC
  rw [e 136 (by decide), e 137 (by decide)]
  exact ⟨h1, h2, h3, h4, h5⟩
theorem TM.to {tl : Nat} {B : Nat → Nat} {i i' w : Nat} {M : Mem} (h : TM tl B i w M) (hi : i' ≤ tl) : TM tl B i' w (upM M 0 9 (nI i')) := by
  obtain ⟨h1, h2, h3, h4, h5⟩ := h
  exact ⟨(upM_ne (by omega)).trans h1, (upM_ne (by omega)).trans h2, upM_eq, hi, fun j hj => by rw [upM_row (by decide)]; exact h5 j hj⟩
theorem TM.na {tl : Nat} {B : Nat → Nat} {i w : Nat} {M : Mem} (h : TM tl B i w M) (x : Int32) : TM tl B i w (upM M 0 11 x) := by
  obtain ⟨h1, h2, h3, h4, h5⟩ := h
  exact ⟨(upM_ne (by omega)).trans h1, (upM_ne (by omega)).trans h2, (upM_ne (by omega)).trans h3, h4, fun j hj => by rw [upM_row (by decide)]; exact h5 j hj⟩
theorem TM.cg {tl : Nat} {B : Nat → Nat} {i w : Nat} {M M' : Mem} (h : TM tl B i w M) (e0 : M' 0 = M 0) (e7 : M' 7 = M 7) : TM tl B i w M' := by
  unfold TM at h ⊢
  rw [e0, e7]
  exact h
theorem C_skip {tl : Nat} {B : Nat → Nat} (ht : tl ≤ 400) (hB : ∀ j, j < tl → B j < 256) {i w : Nat} {M : Mem} (h : TC tl B i w M) : f_Tape_skipBlanks M = some (upM M 136 4 (nI (runN (blB B) tl i))) := by
  obtain ⟨h1, h2, h3, h4, h5⟩ := h
  unfold f_Tape_skipBlanks f_Tape_skipBlanks_J0
  rw [bnd_id]
  unfold f_Tape_skipBlanks_W0
  have := run_loop (body := fun t => f_Tape_skipBlanks_L0 t) (blB B) h4 (fun k => upM M 136 4 (nI (i + k))) (fun k => upM M 136 4 (nI (i + k))) (fun k hk hp => by
    show f_Tape_skipBlanks_L0 (upM M 136 4 (nI (i + k))) = _
    unfold f_Tape_skipBlanks_L0
    rw [upM_eq, upM_ne (by omega), h1, if_neg (nI_ge hk (by omega)), gIn_nI (by omega) (by decide), nI_clamp (by omega), upM_row (by decide), h5 _ hk, if_pos (by unfold blB at hp; rw [of_decide_eq_true hp]; rfl), lt1_eq, upM_2, ← nI_succ, Nat.add_assoc]) (fun k hk hp => by
    show f_Tape_skipBlanks_L0 (upM M 136 4 (nI (i + k))) = _
    unfold f_Tape_skipBlanks_L0
    rw [upM_eq, upM_ne (by omega), h1]
    by_cases z : i + k < tl
    · have hp := hp z
      have hb := hB _ z
      rw [if_neg (nI_ge z (by omega)), gIn_nI (by omega) (by decide), nI_clamp (by omega), upM_row (by decide), h5 _ z, if_neg (fun q => ?_)]
      have := (nI_eq (b := 32) (by omega) (by omega)).mp q
      unfold blB at hp
      rw [decide_eq_true this] at hp
      cases hp
    · rw [if_pos ((nI_leI (by omega) (by omega)).mpr (by omega))])
  obtain ⟨r1, -⟩ := runN_sp (blB B) h4
  rw [show i + (runN (blB B) tl i - i) = runN (blB B) tl i by omega] at this
  rw [← this]
  show loop _ M = loop _ (upM M 136 4 (nI (i + 0)))
  rw [upM_self (by rw [Nat.add_zero]; exact h3)]
theorem C_word {tl : Nat} {B : Nat → Nat} (ht : tl ≤ 400) (hB : ∀ j, j < tl → B j < 256) {i w : Nat} {M : Mem} (h : TC tl B i w M) : ∃ M', f_Tape_readWord M = some M' ∧ TC tl B (runN (ltB B) tl (runN (blB B) tl i)) w M' ∧ M' 136 5 = nI (runN (blB B) tl i) ∧ ∀ a, a ≠ 136 → M' a = M a := by
  have h4 := h.2.2.2.1
  obtain ⟨r1, r2, r3, r4⟩ := runN_sp (blB B) h4
  have hs := C_skip ht hB h
  obtain ⟨s, hs'⟩ : ∃ s, s = runN (blB B) tl i := ⟨_, rfl⟩
  rw [← hs'] at hs r1 r2 r3 r4 ⊢
  obtain ⟨q1, q2, q3, q4⟩ := runN_sp (ltB B) r2
  obtain ⟨A, hA⟩ : ∃ A, A = upM (upM M 136 4 (nI s)) 136 5 (nI s) := ⟨_, rfl⟩
  have hT : TC tl B s w A := by rw [hA]; exact (h.to r2).bg _
  have hT0 := hT
  obtain ⟨t1, t2, t3, t4, t5⟩ := hT
  have lp := run_loop (body := fun t => f_Tape_readWord_L12 t) (ltB B) t4 (fun k => upM A 136 4 (nI (s + k))) (fun k => upM A 136 4 (nI (s + k))) (fun k hk hp => by
    show f_Tape_readWord_L12 (upM A 136 4 (nI (s + k))) = _
    have hb := hB _ hk
    unfold ltB at hp
    have hp := of_decide_eq_true hp
    unfold f_Tape_readWord_L12
    rw [upM_eq, upM_ne (by omega), t1, if_neg (nI_ge hk (by omega)), gIn_nI (by omega) (by decide), nI_clamp (by omega), upM_row (by decide), t5 _ hk, if_neg (show ¬ nI (B (s + k)) < 97 from nI_nlt (b := 97) hp.1 (by omega)), if_neg (show ¬ (122 : Int32) < nI (B (s + k)) from nI_nlt (a := 122) hp.2 (by omega)), lt1_eq, upM_2, ← nI_succ, Nat.add_assoc]) (fun k hk hp => by
    show f_Tape_readWord_L12 (upM A 136 4 (nI (s + k))) = _
    unfold f_Tape_readWord_L12
    rw [upM_eq, upM_ne (by omega), t1]
    by_cases z : s + k < tl
    · have hp := hp z
      have hb := hB _ z
      unfold ltB at hp
      have hp := of_decide_eq_false hp
      rw [if_neg (nI_ge z (by omega)), gIn_nI (by omega) (by decide), nI_clamp (by omega), upM_row (by decide), t5 _ z]
      by_cases c : B (s + k) < 97
      · rw [if_pos (show nI (B (s + k)) < 97 from nI_lt (b := 97) c (by decide))]
      · rw [if_neg (show ¬ nI (B (s + k)) < 97 from nI_nlt (b := 97) (by omega) (by omega)), if_pos (show (122 : Int32) < nI (B (s + k)) from nI_lt (a := 122) (by omega) (by omega))]
    · rw [if_pos ((nI_leI (by omega) (by omega)).mpr (by omega))])
  rw [show s + (runN (ltB B) tl s - s) = runN (ltB B) tl s by omega] at lp
  refine ⟨upM A 136 4 (nI (runN (ltB B) tl s)), ?_, hT0.to q2, ?_, fun a ha => ?_⟩
  · unfold f_Tape_readWord
    rw [hs, bnd_some, lt1_eq, upM_eq, ← hA]
    unfold f_Tape_readWord_J12
    rw [bnd_id]
    unfold f_Tape_readWord_W12
    rw [← lp]
    show loop _ A = loop _ (upM A 136 4 (nI (s + 0)))
    rw [upM_self (by rw [Nat.add_zero]; exact t3)]
  · rw [upM_ne (by omega), hA, upM_eq]
  · rw [upM_row ha, hA, upM_row ha, upM_row ha]
/-- the word from s to e is the a-th one -/
def wdB (B : Nat → Nat) (a s e : Nat) : Bool := decide (e - s = lenS.getD a 0) && !anyB (fun k => !decide (nI (B (s + k)) = chS a k)) (lenS.getD a 0)
theorem len_9 : ∀ a, a < 10 → lenS.getD a 0 < 9 := by decide
theorem C_isWord {tl : Nat} {B : Nat → Nat} (ht : tl ≤ 400) {s e w a : Nat} {M : Mem} (h : TC tl B e w M) (hb : M 136 5 = nI s) (hse : s ≤ e) (ha : a < 10) : f_Tape_isWord a M = some (wdB B a s e) := by
  obtain ⟨h1, h2, h3, h4, h5⟩ := h
  have hl := len_9 a ha
  unfold f_Tape_isWord wdB f_Str_length
  rw [h3, hb, pk_sub hse]
  by_cases z : e - s = lenS.getD a 0
  · rw [if_pos (by rw [z]), decide_eq_true z, Bool.true_and]
    unfold f_Tape_isWord_J20
    rw [bnd_id]
    unfold f_Tape_isWord_W20
    have st : ∀ k, k < lenS.getD a 0 → f_Tape_isWord_L20 a M (nI k) = if (!decide (nI (B (s + k)) = chS a k)) = true then some (.inr false) else some (.inl (nI (k + 1))) := fun k hk => by
      unfold f_Tape_isWord_L20 f_Str_length f_Str_charAt
      rw [if_neg (nI_ge hk (by omega)), h1, hb, nI_add, if_neg (nI_ge (by omega) (by omega)), gIn_nI (by omega) (by decide), gIn_nI hk (by omega), bnd_some, nI_clamp (show s + k < 2 ^ 31 by omega), nI_clamp (show k < 2 ^ 31 by omega), h5 _ (by omega), ← nI_succ]
      by_cases q : nI (B (s + k)) = chS a k
      · rw [if_pos q, if_neg (by simp [q])]
      · rw [if_neg q, if_pos (by simp [q])]
    refine (loop_first (fun k => nI k) (fun k => !decide (nI (B (s + k)) = chS a k)) (lenS.getD a 0) (fun _ => false) true (fun k hk hb => by rw [st k hk, if_neg (by rw [hb]; decide)]) (fun k hk hb => by rw [st k hk, if_pos hb]) ?_).trans (congrArg some ?_)
    · unfold f_Tape_isWord_L20 f_Str_length
      rw [if_pos ((nI_leI (by omega) (by omega)).mpr (Nat.le_refl _))]
    · rcases fstN_sp (fun k => !decide (nI (B (s + k)) = chS a k)) (lenS.getD a 0) with ⟨q1, q2⟩ | ⟨q1, q2, q3⟩
      · rw [q1, if_neg (by omega), anyB_f.mpr q2]
        rfl
      · rw [if_pos q1, anyB_iff.mpr ⟨_, q1, q2⟩]
        rfl
  · rw [if_neg (fun q => z ((nI_eq (by omega) (by omega)).mp q)), decide_eq_false z, Bool.false_and]
