/-! numbers, tables, loops: what the pure half leans on -/
theorem upM_get (M : Mem) (k i : Nat) (x : Int32) (a j : Nat) : upM M k i x a j = if a = k ∧ j = i then x else M a j := by
  unfold upM
  by_cases h : a = k
  · subst h
    rw [if_pos rfl]
    unfold upd
    by_cases h2 : j = i <;> simp [h2]
  · rw [if_neg h, if_neg (fun q => h q.1)]
theorem upM_row {M : Mem} {k i a : Nat} {x : Int32} (h : a ≠ k) : upM M k i x a = M a := if_neg h
theorem upM_eq {M : Mem} {k i : Nat} {x : Int32} : upM M k i x k i = x := by rw [upM_get, if_pos ⟨rfl, rfl⟩]
theorem upM_ne {M : Mem} {k i a j : Nat} {x : Int32} (h : a = k → j ≠ i) : upM M k i x a j = M a j := by rw [upM_get, if_neg (fun q => h q.1 q.2)]
theorem cpM_get (M : Mem) (a b sp dp n r j : Nat) : cpM M a b sp dp n r j = if r = b ∧ dp ≤ j ∧ j < dp + n then M a (sp + (j - dp)) else M r j := by
  unfold cpM va_cpy
  by_cases h : r = b
  · subst h
    rw [if_pos rfl]
    by_cases h2 : dp ≤ j ∧ j < dp + n
    · rw [if_pos h2, if_pos ⟨rfl, h2⟩]
    · rw [if_neg h2, if_neg (fun q => h2 q.2)]
  · rw [if_neg h, if_neg (fun q => h q.1)]
theorem cpM_row {M : Mem} {a b sp dp n r : Nat} (h : r ≠ b) : cpM M a b sp dp n r = M r := if_neg h
theorem gIn_nI {α : Type} {j n : Nat} {a : Option α} (h : j < n) (hn : n ≤ 2147483648) : gIn (nI j) n a = a := by
  refine gIn_of (vp_c ?_)
  rintro (h1 | h1)
  · exact nI_pos (by omega) h1
  · rw [nI_clamp (by omega)] at h1
    omega
theorem gLt_of {α : Type} {a b : Nat} {x : Option α} (h : a < b) : gLt a b x = x := if_pos h
theorem bI_0 (b : Bool) : bI b = 0 ↔ b = false := by cases b <;> decide
theorem bI_t : bI true = 1 := rfl
theorem bI_f : bI false = 0 := rfl
theorem nI_0' : (0 : Int32) = nI 0 := rfl
theorem nI_neg1 {a : Nat} (h : a < 2 ^ 31) : ¬ nI a = -1 := by
  intro e
  have h1 := nI_pos h
  rw [e] at h1
  exact h1 (by decide)
theorem nI_m1lt {a : Nat} (h : a < 2 ^ 31) : (-1 : Int32) < nI a := by
  rw [Int32.lt_iff_toInt_lt, nI_toInt h]
  show (-1 : Int) < _
  omega
theorem nI_m1le {a : Nat} (h : a < 2 ^ 31) : ¬ nI a ≤ (-1 : Int32) := by
  rw [Int32.le_iff_toInt_le, nI_toInt h]
  show ¬ _ ≤ (-1 : Int)
  omega
/-- any int is below 0, or a natural number -/
theorem i32c (x : Int32) : x < 0 ∨ ∃ j : Nat, j < 2 ^ 31 ∧ x = nI j := by
  by_cases h : x < 0
  · exact Or.inl h
  · exact Or.inr (nI_of h)
/-- any int is outside [0, n), or nI of one inside -/
theorem i32r (x : Int32) (n : Nat) (hn : n < 2 ^ 31) : (x < 0 ∨ nI n ≤ x) ∨ ∃ j : Nat, j < n ∧ x = nI j := by
  rcases pk_ix x hn with h | h | h
  · exact Or.inl (Or.inl h)
  · exact Or.inl (Or.inr h)
  · exact Or.inr h
theorem loop_inv {σ ρ : Type} {body : σ → Option (σ ⊕ ρ)} (μ : σ → Nat) (I : σ → Prop) (Q : ρ → Prop) (h : ∀ s, I s → (∃ t, body s = some (.inl t) ∧ I t ∧ μ t < μ s) ∨ ∃ r, body s = some (.inr r) ∧ Q r) : ∀ s, I s → ∃ r, loop body s = some r ∧ Q r := by
  have key : ∀ n s, μ s < n → I s → ∃ r, loop body s = some r ∧ Q r := by
    intro n
    induction n with
    | zero => intro s hs; omega
    | succ n ih =>
      intro s hs hI
      rcases h s hI with ⟨t, h1, h2, h3⟩ | ⟨r, h1, h2⟩
      · obtain ⟨r, h4, h5⟩ := ih t (by omega) h2
        exact ⟨r, by rw [loop_inl h1]; exact h4, h5⟩
      · exact ⟨r, loop_inr h1, h2⟩
  intro s hI
  exact key (μ s + 1) s (by omega) hI
/-- a loop that counts: its states are enc i s, i from where it stands up to n -/
theorem loop_enc {τ σ ρ : Type} {body : τ → Option (τ ⊕ ρ)} (enc : Nat → σ → τ) (n : Nat) (I : Nat → σ → Prop) (Q : ρ → Prop) (hs : ∀ i s, i < n → I i s → (∃ s', body (enc i s) = some (.inl (enc (i + 1) s')) ∧ I (i + 1) s') ∨ ∃ r, body (enc i s) = some (.inr r) ∧ Q r) (he : ∀ s, I n s → ∃ r, body (enc n s) = some (.inr r) ∧ Q r) : ∀ i s, i ≤ n → I i s → ∃ r, loop body (enc i s) = some r ∧ Q r := by
  have key : ∀ d i s, i + d = n → I i s → ∃ r, loop body (enc i s) = some r ∧ Q r := by
    intro d
    induction d with
    | zero =>
      intro i s hi hI
      have : i = n := hi
      subst this
      obtain ⟨r, h1, h2⟩ := he s hI
      exact ⟨r, loop_inr h1, h2⟩
    | succ d ih =>
      intro i s hi hI
      rcases hs i s (by omega) hI with ⟨s', h1, h2⟩ | ⟨r, h1, h2⟩
      · obtain ⟨r, h3, h4⟩ := ih (i + 1) s' (by omega) h2
        exact ⟨r, by rw [loop_inl h1]; exact h3, h4⟩
      · exact ⟨r, loop_inr h1, h2⟩
  intro i s hi hI
  exact key (n - i) i s (by omega) hI
theorem lt1_eq {α β : Type} (x : α) (k : α → β) : lt1 x k = k x := rfl
theorem bnd_some {α β : Type} (x : α) (k : α → Option β) : bnd (some x) k = k x := rfl
theorem bnd2_some {α β γ : Type} (x : α) (y : β) (k : α → β → Option γ) : bnd2 (some (x, y)) k = k x y := rfl
theorem bnd_id {α : Type} (x : Option α) : bnd x (fun e => some e) = x := by cases x <;> rfl
-- chains
/-- the number c holds the row f 0 .. f (m-1) of marks -/
def Chn (c : Int32) (m : Nat) (f : Nat → Nat) : Prop := ∃ C, c = nI C ∧ C < 2 ^ (4 + 3 * m) ∧ m ≤ 8 ∧ C % 16 = m ∧ ∀ i, i < m → C / 2 ^ (4 + 3 * i) % 8 = f i
theorem Chn.le {c : Int32} {m : Nat} {f : Nat → Nat} (h : Chn c m f) : m ≤ 8 := by
  obtain ⟨C, -, -, h, -⟩ := h
  exact h
theorem Chn.lt {c : Int32} {m : Nat} {f : Nat → Nat} (h : Chn c m f) {i : Nat} (hi : i < m) : f i < 8 := by
  obtain ⟨C, -, -, -, -, h⟩ := h
  rw [← h i hi]
  exact Nat.mod_lt _ (by decide)
theorem Chn.congr {c : Int32} {m : Nat} {f g : Nat → Nat} (h : Chn c m f) (e : ∀ i, i < m → g i = f i) : Chn c m g := by
  obtain ⟨C, h1, h2, h3, h4, h5⟩ := h
  exact ⟨C, h1, h2, h3, h4, fun i hi => by rw [e i hi]; exact h5 i hi⟩
theorem pw28 {m C : Nat} (hm : m ≤ 8) (h : C < 2 ^ (4 + 3 * m)) : C < 268435456 := by
  have : 2 ^ (4 + 3 * m) ≤ 2 ^ 28 := Nat.pow_le_pow_right (by decide) (by omega)
  omega
theorem Chn_0 (f : Nat → Nat) : Chn 0 0 f := ⟨0, rfl, by decide, by decide, rfl, fun i hi => absurd hi (Nat.not_lt_zero i)⟩
theorem Chn_size {c : Int32} {m : Nat} {f : Nat → Nat} (h : Chn c m f) : f_Chain_size c = nI m := by
  obtain ⟨C, rfl, h2, h3, h4, h5⟩ := h
  have h6 := pw28 h3 h2
  show nI C &&& 15 = nI m
  rw [pk_andN (by omega) 4 (by decide)]
  congr 1
theorem sh43 : ∀ i, i < 9 → ((((4 : Int32) + (3 : Int32) * nI i) &&& 31).toBitVec.smod 32).toNat = 4 + 3 * i := by decide +kernel
theorem Chn_mark {c : Int32} {m : Nat} {f : Nat → Nat} (h : Chn c m f) {i : Nat} (hi : i < m) : f_Chain_markAt c (nI i) = nI (f i) := by
  obtain ⟨C, rfl, h2, h3, h4, h5⟩ := h
  have h6 := pw28 h3 h2
  show nI C >>> (((4 : Int32) + (3 : Int32) * nI i) &&& 31) &&& 7 = nI (f i)
  rw [pk_shrN (by omega) _ (4 + 3 * i) (sh43 i (by omega)), pk_andN (Nat.lt_of_le_of_lt (Nat.div_le_self _ _) (by omega)) 3 (by decide)]
  congr 1
  exact h5 i hi
theorem Chn_full {c : Int32} {f : Nat → Nat} (h : Chn c 8 f) (x : Int32) : f_Chain_with c x = c := by
  unfold f_Chain_with
  rw [Chn_size h, if_pos (by decide)]
set_option maxHeartbeats 4000000 in
theorem Chn_with {c : Int32} {m p : Nat} {f g : Nat → Nat} (h : Chn c m f) (hm : m < 8) (hp : p < 8) (e : ∀ i, i < m → g i = f i) (eg : g m = p) : Chn (f_Chain_with c (nI p)) (m + 1) g := by
  have hs := Chn_size h
  obtain ⟨C, rfl, h2, h3, h4, h5⟩ := h
  have h6 := pw28 h3 h2
  unfold f_Chain_with
  rw [hs, if_neg (by intro q; exact absurd ((nI_leI (by omega) (by omega)).mp (show nI 8 ≤ nI m from q)) (by omega))]
  have e1 : nI p <<< (((4 : Int32) + (3 : Int32) * nI m) &&& 31) = nI (2 ^ (4 + 3 * m) * p) := by
    rw [pk_shlN _ (4 + 3 * m) (sh43 m (by omega)), Nat.mul_comm]
    have : 2 ^ (4 + 3 * m) ≤ 2 ^ 25 := Nat.pow_le_pow_right (by decide) (by omega)
    calc p * 2 ^ (4 + 3 * m) ≤ 7 * 2 ^ 25 := Nat.mul_le_mul (by omega) this
      _ < 2 ^ 32 := by decide
  rw [e1, fa_or, Nat.or_comm, ← Nat.two_pow_add_eq_or_of_lt h2, show (1 : Int32) = nI 1 from rfl, nI_add]
  refine ⟨_, rfl, ?_, by omega, ?_, ?_⟩
  · rcases (show m = 0 ∨ m = 1 ∨ m = 2 ∨ m = 3 ∨ m = 4 ∨ m = 5 ∨ m = 6 ∨ m = 7 by omega) with rfl | rfl | rfl | rfl | rfl | rfl | rfl | rfl <;> simp only [Nat.mul_zero, Nat.reduceMul, Nat.reduceAdd, Nat.reducePow] at h2 ⊢ <;> omega
  · rcases (show m = 0 ∨ m = 1 ∨ m = 2 ∨ m = 3 ∨ m = 4 ∨ m = 5 ∨ m = 6 ∨ m = 7 by omega) with rfl | rfl | rfl | rfl | rfl | rfl | rfl | rfl <;> simp only [Nat.mul_zero, Nat.reduceMul, Nat.reduceAdd, Nat.reducePow] at h2 ⊢ <;> omega
  · intro i hi
    rcases Nat.lt_or_ge i m with hlt | hge
    · rw [e i hlt, ← h5 i hlt]
      have hh : ∃ a b, m = i + 1 + a ∧ b = C := ⟨m - i - 1, C, by omega, rfl⟩
      have q1 : C / 2 ^ (4 + 3 * i) = C / 16 / 2 ^ (3 * i) := by rw [Nat.div_div_eq_div_mul, Nat.pow_add 2 4 (3 * i)]
      have q2 : (2 ^ (4 + 3 * m) * p + C + 1) / 2 ^ (4 + 3 * i) = (2 ^ (4 + 3 * m) * p + C + 1) / 16 / 2 ^ (3 * i) := by rw [Nat.div_div_eq_div_mul, Nat.pow_add 2 4 (3 * i)]
      have q3 : (2 ^ (4 + 3 * m) * p + C + 1) / 16 = 2 ^ (3 * m) * p + C / 16 := by
        rw [Nat.pow_add, Nat.mul_assoc]
        have : (2 ^ 4 : Nat) = 16 := rfl
        rw [this]
        omega
      obtain ⟨a, -, ha, -⟩ := hh
      have q4 : 2 ^ (3 * m) * p = 2 ^ (3 * i) * (8 * (2 ^ (3 * a) * p)) := by
        rw [ha, show 3 * (i + 1 + a) = 3 * i + (3 + 3 * a) by omega, Nat.pow_add, Nat.pow_add]
        rw [Nat.mul_assoc, Nat.mul_assoc]
      rw [q1, q2, q3, q4, Nat.mul_add_div (Nat.two_pow_pos _)]
      omega
    · have : i = m := by omega
      subst this
      rw [eg]
      rcases (show i = 0 ∨ i = 1 ∨ i = 2 ∨ i = 3 ∨ i = 4 ∨ i = 5 ∨ i = 6 ∨ i = 7 by omega) with rfl | rfl | rfl | rfl | rfl | rfl | rfl | rfl <;> simp only [Nat.mul_zero, Nat.reduceMul, Nat.reduceAdd, Nat.reducePow] at h2 ⊢ <;> omega
-- ways
theorem way_round {r f t : Nat} (hf : f < 8) (ht : t < 8) (hr : r < 64) : f_Route_roundOf (nI (64 * r + 8 * f + t)) = nI r := by
  show nI (64 * r + 8 * f + t) >>> ((6 : Int32) &&& 31) = nI r
  rw [pk_shrN (by omega) _ 6 (by decide)]
  congr 1
  omega
theorem way_from {r f t : Nat} (hf : f < 8) (ht : t < 8) (hr : r < 64) : f_Route_fromOf (nI (64 * r + 8 * f + t)) = nI f := by
  show nI (64 * r + 8 * f + t) >>> ((3 : Int32) &&& 31) &&& 7 = nI f
  rw [pk_shrN (by omega) _ 3 (by decide), pk_andN (Nat.lt_of_le_of_lt (Nat.div_le_self _ _) (by omega)) 3 (by decide)]
  congr 1
  omega
theorem way_to {r f t : Nat} (hf : f < 8) (ht : t < 8) (hr : r < 64) : f_Route_toOf (nI (64 * r + 8 * f + t)) = nI t := by
  show nI (64 * r + 8 * f + t) &&& 7 = nI t
  rw [pk_andN (by omega) 3 (by decide)]
  congr 1
  omega
theorem way_of (r f t : Nat) : f_Route_of (nI r) (nI f) (nI t) = nI (64 * r + 8 * f + t) := by
  show ((64 : Int32) * nI r + (8 : Int32) * nI f) + nI t = _
  rw [show (64 : Int32) = nI 64 from rfl, show (8 : Int32) = nI 8 from rfl, pk_mul, pk_mul, nI_add, nI_add]
theorem cell_of (p v : Nat) : f_MC_cellOf (nI p) (nI v) = nI (4 * p + v) := by
  show nI p * (4 : Int32) + nI v = _
  rw [show (4 : Int32) = nI 4 from rfl, pk_mul, nI_add, Nat.mul_comm]
-- bits
theorem sh1 : ∀ p, p < 31 → (1 : Int32) <<< (nI p &&& 31) = nI (2 ^ p) := by decide +kernel
theorem shk : ∀ p, p < 32 → ((nI p &&& 31).toBitVec.smod 32).toNat = p := by decide +kernel
theorem bit_at {L p : Nat} (hL : L < 2 ^ 31) (hp : p < 32) : (nI L >>> (nI p &&& 31)) &&& (1 : Int32) = bI (L.testBit p) := by
  rw [pk_shrN hL _ p (shk p hp), pk_andN (Nat.lt_of_le_of_lt (Nat.div_le_self _ _) (by omega)) 1 (by decide)]
  rw [Nat.testBit_eq_decide_div_mod_eq]
  rcases Nat.mod_two_eq_zero_or_one (L / 2 ^ p) with h | h <;> simp [h, bI, nI] <;> rfl
theorem bit_0 {L p : Nat} (hL : L < 2 ^ 31) (hp : p < 32) : ((nI L >>> (nI p &&& 31)) &&& (1 : Int32)) = 0 ↔ L.testBit p = false := by
  rw [bit_at hL hp, bI_0]
-- numbers as they stand in the programs
theorem j0 : (0 : Int32) = nI 0 := rfl
theorem j1 : (1 : Int32) = nI 1 := rfl
theorem j2 : (2 : Int32) = nI 2 := rfl
theorem j3 : (3 : Int32) = nI 3 := rfl
theorem j4 : (4 : Int32) = nI 4 := rfl
theorem j5 : (5 : Int32) = nI 5 := rfl
theorem j6 : (6 : Int32) = nI 6 := rfl
theorem j7 : (7 : Int32) = nI 7 := rfl
theorem j8 : (8 : Int32) = nI 8 := rfl
theorem j9 : (9 : Int32) = nI 9 := rfl
theorem j10 : (10 : Int32) = nI 10 := rfl
theorem j11 : (11 : Int32) = nI 11 := rfl
theorem j12 : (12 : Int32) = nI 12 := rfl
theorem j13 : (13 : Int32) = nI 13 := rfl
theorem j14 : (14 : Int32) = nI 14 := rfl
theorem j15 : (15 : Int32) = nI 15 := rfl
theorem j16 : (16 : Int32) = nI 16 := rfl
theorem j17 : (17 : Int32) = nI 17 := rfl
theorem j20 : (20 : Int32) = nI 20 := rfl
theorem j24 : (24 : Int32) = nI 24 := rfl
theorem j32 : (32 : Int32) = nI 32 := rfl
theorem j48 : (48 : Int32) = nI 48 := rfl
theorem j57 : (57 : Int32) = nI 57 := rfl
theorem j58 : (58 : Int32) = nI 58 := rfl
theorem j59 : (59 : Int32) = nI 59 := rfl
theorem j64 : (64 : Int32) = nI 64 := rfl
theorem j72 : (72 : Int32) = nI 72 := rfl
theorem j97 : (97 : Int32) = nI 97 := rfl
theorem j99 : (99 : Int32) = nI 99 := rfl
theorem j100 : (100 : Int32) = nI 100 := rfl
theorem j122 : (122 : Int32) = nI 122 := rfl
theorem j212 : (212 : Int32) = nI 212 := rfl
theorem j218 : (218 : Int32) = nI 218 := rfl
theorem j254 : (254 : Int32) = nI 254 := rfl
theorem j255 : (255 : Int32) = nI 255 := rfl
theorem j260 : (260 : Int32) = nI 260 := rfl
theorem j302 : (302 : Int32) = nI 302 := rfl
theorem j400 : (400 : Int32) = nI 400 := rfl
theorem j576 : (576 : Int32) = nI 576 := rfl
theorem j600 : (600 : Int32) = nI 600 := rfl
theorem j1000 : (1000 : Int32) = nI 1000 := rfl
theorem j3020 : (3020 : Int32) = nI 3020 := rfl
