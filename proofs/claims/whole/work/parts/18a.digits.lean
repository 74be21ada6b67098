/-! the digits of a number that names a row of marks -/
def dg (N j : Nat) : Nat := N / 10 ^ j % 10
def dgOK (N n b : Nat) : Prop := (∀ j, j < n → 1 ≤ dg N j ∧ dg N j ≤ b) ∧ ∀ i j, i < j → j < n → dg N i ≠ dg N j
theorem dg_lt (N j : Nat) : dg N j < 10 := Nat.mod_lt _ (by decide)
theorem dec_rem {a : Nat} (h : a < 2 ^ 31) : nI a - nI a / (10 : Int32) * (10 : Int32) = nI (a % 10) := by
  rw [show (10 : Int32) = nI 10 from rfl, pk_div h (by decide) (by decide), pk_mul, pk_sub (by omega)]
  congr 1
  omega
theorem dg_n : ∀ k N, 1 ≤ N → N < 10 ^ k → ∃ n, 1 ≤ n ∧ n ≤ k ∧ 10 ^ (n - 1) ≤ N ∧ N < 10 ^ n := by
  intro k
  induction k with
  | zero => intro N h1 h2; rw [Nat.pow_zero] at h2; omega
  | succ k ih =>
    intro N h1 h2
    by_cases w : N < 10 ^ k
    · obtain ⟨n, a, b, c, d⟩ := ih N h1 w
      exact ⟨n, a, by omega, c, d⟩
    · exact ⟨k + 1, by omega, Nat.le_refl _, by rw [Nat.add_sub_cancel]; omega, h2⟩
theorem unit_at : ∀ i, i < 8 → 10000000 / 10 ^ i = 10 ^ (7 - i) ∧ 1 ≤ 10000000 / 10 ^ i := by decide
theorem unit_next (i : Nat) : 10000000 / 10 ^ i / 10 = 10000000 / 10 ^ (i + 1) := by rw [Nat.div_div_eq_div_mul, Nat.pow_succ]
theorem Chn_ne0 {c : Int32} {m : Nat} {f : Nat → Nat} (h : Chn c m f) (hm : 0 < m) : ¬ c = 0 := by
  obtain ⟨C, rfl, h2, h3, h4, h5⟩ := h
  have h6 := pw28 h3 h2
  intro z
  have := (nI_eq (by omega) (by omega)).mp (show nI C = nI 0 from z)
  omega
theorem Chn_is0 {c : Int32} {f : Nat → Nat} (h : Chn c 0 f) : c = 0 := by
  obtain ⟨C, rfl, h2, h3, h4, h5⟩ := h
  have : C = 0 := by
    have : C < 16 := h2
    omega
  rw [this]
  rfl
theorem Chn_nm1 {c : Int32} {m : Nat} {f : Nat → Nat} (h : Chn c m f) : ¬ c = -1 := by
  obtain ⟨C, rfl, h2, h3, h4, h5⟩ := h
  have h6 := pw28 h3 h2
  exact nI_neg1 (by omega)
set_option maxHeartbeats 1000000 in
theorem C_digits {N n : Nat} (h1 : 1 ≤ n) (h2 : n ≤ 8) (hl : 10 ^ (n - 1) ≤ N) (hu : N < 10 ^ n) : ∃ c, f_Chain_ofDigits (nI N) = some c ∧ ((c = -1 ∧ ¬ dgOK N n 8) ∨ (Chn c n (fun k => dg N (n - 1 - k) - 1) ∧ dgOK N n 8)) := by
  have hN1 : 1 ≤ N := Nat.le_trans (Nat.pow_pos (n := n - 1) (show 0 < 10 by decide)) hl
  have hN8 : N < 100000000 := Nat.lt_of_lt_of_le hu (Nat.pow_le_pow_right (n := 10) (j := 8) (by decide) h2)
  unfold f_Chain_ofDigits
  rw [if_neg (show ¬ nI N ≤ (0 : Int32) from fun z => by have := (nI_leI (by omega) (by omega)).mp (show nI N ≤ nI 0 from z); omega), show (10 : Int32) = nI 10 from rfl, pk_div (by omega) (by decide) (by decide), show (10000000 : Int32) = nI 10000000 from rfl, if_pos (nI_lt (by omega) (by decide))]
  unfold f_Chain_ofDigits_J20
  rw [bnd_id]
  unfold f_Chain_ofDigits_W20
  suffices hh : ∃ c, loop (fun t => f_Chain_ofDigits_L20 (nI N) t.1 t.2) ((fun (i : Nat) (s : Int32) => (s, nI (10000000 / 10 ^ i))) 0 0) = some c ∧ ((c = -1 ∧ ¬ dgOK N n 8) ∨ (Chn c n (fun k => dg N (n - 1 - k) - 1) ∧ dgOK N n 8)) from hh
  refine loop_enc (fun i s => (s, nI (10000000 / 10 ^ i))) 8 (fun i c => Chn c (i - (8 - n)) (fun k => dg N (n - 1 - k) - 1) ∧ (∀ k, k < i - (8 - n) → 1 ≤ dg N (n - 1 - k) ∧ dg N (n - 1 - k) ≤ 8) ∧ ∀ k l, k < l → l < i - (8 - n) → dg N (n - 1 - k) ≠ dg N (n - 1 - l)) _ ?_ ?_ 0 0 (Nat.zero_le _) ⟨by rw [Nat.zero_sub]; exact Chn_0 _, fun k hk => absurd hk (by omega), fun k l _ hk => absurd hk (by omega)⟩
  · rintro i c hi ⟨g1, g2, g3⟩
    obtain ⟨u1, u2⟩ := unit_at i hi
    have hu7 : 10000000 / 10 ^ i < 2 ^ 31 := Nat.lt_of_le_of_lt (Nat.div_le_self _ _) (by decide)
    have ed : nI N / nI (10000000 / 10 ^ i) - nI N / nI (10000000 / 10 ^ i) / (10 : Int32) * (10 : Int32) = nI (dg N (7 - i)) := by
      rw [pk_div (by omega) (by omega) hu7, dec_rem (Nat.lt_of_le_of_lt (Nat.div_le_self _ _) (by omega)), u1]
      rfl
    have nx : ∀ x1 : Int32, f_Chain_ofDigits_J83 (nI N) x1 (nI (10000000 / 10 ^ i)) = some (.inl (x1, nI (10000000 / 10 ^ (i + 1)))) := fun x1 => by
      unfold f_Chain_ofDigits_J83
      rw [show (10 : Int32) = nI 10 from rfl, pk_div hu7 (by decide) (by decide), unit_next]
    have st : f_Chain_ofDigits_L20 (nI N) c (nI (10000000 / 10 ^ i)) = if nI (dg N (7 - i)) = 0 then (if c = 0 then f_Chain_ofDigits_J45 (nI N) c (nI (10000000 / 10 ^ i)) (nI (dg N (7 - i))) 1 else f_Chain_ofDigits_J44 (nI N) c (nI (10000000 / 10 ^ i)) (nI (dg N (7 - i)))) else f_Chain_ofDigits_J44 (nI N) c (nI (10000000 / 10 ^ i)) (nI (dg N (7 - i))) := by
      unfold f_Chain_ofDigits_L20
      rw [if_neg (show ¬ nI (10000000 / 10 ^ i) < 1 from nI_nlt (a := 10000000 / 10 ^ i) (b := 1) (by omega) (by omega)), if_neg (fun z => by have := (nI_eq (by omega) (by omega)).mp (show nI (10000000 / 10 ^ i) = nI 0 from z); omega), ed]
    have d10 := dg_lt N (7 - i)
    show (∃ s', f_Chain_ofDigits_L20 (nI N) c (nI (10000000 / 10 ^ i)) = some (.inl (s', nI (10000000 / 10 ^ (i + 1)))) ∧ _) ∨ ∃ r, f_Chain_ofDigits_L20 (nI N) c (nI (10000000 / 10 ^ i)) = some (.inr r) ∧ _
    by_cases w : i < 8 - n
    · have dz : dg N (7 - i) = 0 := by
        unfold dg
        rw [Nat.div_eq_of_lt (Nat.lt_of_lt_of_le hu (Nat.pow_le_pow_right (by decide) (by omega)))]
      have em : i - (8 - n) = 0 := by omega
      have em' : i + 1 - (8 - n) = 0 := by omega
      left
      refine ⟨c, ?_, ?_, fun k hk => absurd hk (by omega), fun k l _ hk => absurd hk (by omega)⟩
      · rw [em] at g1
        rw [st, dz, if_pos (show nI 0 = (0 : Int32) from rfl), if_pos (Chn_is0 g1)]
        unfold f_Chain_ofDigits_J45
        rw [if_neg (show ¬ (1 : Int32) = 0 by decide), nx]
      · rw [em'];rw [em] at g1; exact g1
    · obtain ⟨m, hm⟩ : ∃ m, m = i - (8 - n) := ⟨_, rfl⟩
      have e7 : 7 - i = n - 1 - m := by omega
      have em' : i + 1 - (8 - n) = m + 1 := by omega
      rw [← hm] at g1 g2 g3
      rw [em']
      have st2 : f_Chain_ofDigits_L20 (nI N) c (nI (10000000 / 10 ^ i)) = f_Chain_ofDigits_J45 (nI N) c (nI (10000000 / 10 ^ i)) (nI (dg N (7 - i))) 0 := by
        rw [st]
        by_cases z : nI (dg N (7 - i)) = 0
        · have dz := (nI_eq (by omega) (by omega)).mp (show nI (dg N (7 - i)) = nI 0 from z)
          have m0 : 0 < m := by
            refine Nat.pos_of_ne_zero (fun q => ?_)
            rw [e7, q, Nat.sub_zero] at dz
            unfold dg at dz
            have a1 : 1 ≤ N / 10 ^ (n - 1) := (Nat.le_div_iff_mul_le (Nat.pow_pos (by decide))).mpr (by rw [Nat.one_mul]; exact hl)
            have a2 : N / 10 ^ (n - 1) < 10 := by
              rw [Nat.div_lt_iff_lt_mul (Nat.pow_pos (by decide)), ← Nat.pow_succ']
              rw [show (n - 1).succ = n by omega]
              exact hu
            omega
          rw [if_pos z, if_neg (Chn_ne0 g1 m0)]
          rfl
        · rw [if_neg z]
          rfl
      rw [st2]
      unfold f_Chain_ofDigits_J45
      rw [if_pos rfl, e7]
      rw [e7] at d10
      by_cases w1 : dg N (n - 1 - m) < 1
      · right
        refine ⟨-1, by rw [if_pos (show nI (dg N (n - 1 - m)) < 1 from nI_lt (b := 1) w1 (by decide))], Or.inl ⟨rfl, fun q => ?_⟩⟩
        have := (q.1 (n - 1 - m) (by omega)).1
        omega
      · by_cases w2 : 8 < dg N (n - 1 - m)
        · right
          refine ⟨-1, by rw [if_neg (show ¬ nI (dg N (n - 1 - m)) < 1 from nI_nlt (b := 1) (by omega) (by omega)), if_pos (show (8 : Int32) < nI (dg N (n - 1 - m)) from nI_lt (a := 8) w2 (by omega))], Or.inl ⟨rfl, fun q => ?_⟩⟩
          have := (q.1 (n - 1 - m) (by omega)).2
          omega
        · rw [if_neg (show ¬ nI (dg N (n - 1 - m)) < 1 from nI_nlt (b := 1) (by omega) (by omega)), if_neg (show ¬ (8 : Int32) < nI (dg N (n - 1 - m)) from nI_nlt (a := 8) (by omega) (by omega)), show nI (dg N (n - 1 - m)) - 1 = nI (dg N (n - 1 - m) - 1) from pk_sub (b := 1) (by omega), Chn_bears g1 (by omega), bnd_some]
          cases e : anyB (fun i => decide (dg N (n - 1 - i) - 1 = dg N (n - 1 - m) - 1)) m
          · left
            refine ⟨f_Chain_with c (nI (dg N (n - 1 - m) - 1)), by rw [if_pos (show bI false = 0 from rfl), nx], Chn_with g1 (by omega) (by omega) (fun _ _ => rfl) rfl, fun k hk => ?_, fun k l hkl hl => ?_⟩
            · by_cases q : k = m
              · rw [q]; omega
              · exact g2 k (by omega)
            · by_cases q : l = m
              · rw [q]
                rw [q] at hkl
                have := anyB_f.mp e k hkl
                have h9 := g2 k hkl
                simp only [decide_eq_false_iff_not] at this
                omega
              · exact g3 k l hkl (by omega)
          · right
            refine ⟨-1, by rw [if_neg (show ¬ bI true = 0 by decide)], Or.inl ⟨rfl, fun q => ?_⟩⟩
            obtain ⟨k, hk, ek⟩ := anyB_iff.mp e
            have ek := of_decide_eq_true ek
            have h9 := g2 k hk
            exact q.2 (n - 1 - m) (n - 1 - k) (by omega) (by omega) (by omega)
  · rintro c ⟨g1, g2, g3⟩
    have e8 : 8 - (8 - n) = n := by omega
    rw [e8] at g1 g2 g3
    refine ⟨c, ?_, Or.inr ⟨g1, fun j hj => ?_, fun i j hij hj => ?_⟩⟩
    · show f_Chain_ofDigits_L20 (nI N) c (nI (10000000 / 10 ^ 8)) = _
      unfold f_Chain_ofDigits_L20
      rw [if_pos (by decide)]
    · have := g2 (n - 1 - j) (by omega)
      rw [show n - 1 - (n - 1 - j) = j by omega] at this
      exact this
    · have := g3 (n - 1 - j) (n - 1 - i) (by omega) (by omega)
      rw [show n - 1 - (n - 1 - j) = j by omega, show n - 1 - (n - 1 - i) = i by omega] at this
      exact fun q => this q.symm
theorem C_marks {R : Nat → Nat} {M : Mem} {c : Int32} {m : Nat} {f : Nat → Nat} (h0 : M 0 0 = nI (R 0)) (hn : R 0 ≤ 8) (h : Chn c m f) : ∃ b, f_Play_hasMarks 0 M c = some b ∧ (b = true ↔ ∀ i, i < m → f i < R 0) := by
  unfold f_Play_hasMarks f_Play_hasMarks_J21
  have hlt : brN f m < 256 := brN_lt (fun i hi => h.lt hi)
  rw [if_neg (Chn_nm1 h), Chn_bearers h, bnd_some, h0, pk_shrN (by omega) _ (R 0) (shk _ (by omega))]
  by_cases w : brN f m < 2 ^ R 0
  · refine ⟨true, by rw [Nat.div_eq_of_lt w, if_pos (show nI 0 = (0 : Int32) from rfl)], ⟨fun _ i hi => ?_, fun _ => rfl⟩⟩
    refine Nat.lt_of_not_le (fun q => ?_)
    have t := brN_bit f (f i) m
    rw [anyB_iff.mpr ⟨i, hi, by simp⟩, Nat.testBit_lt_two_pow (Nat.lt_of_lt_of_le w (Nat.pow_le_pow_right (by decide) q))] at t
    cases t
  · refine ⟨false, ?_, Iff.intro (fun q => by cases q) (fun q => absurd (?_ : brN f m < 2 ^ R 0) w)⟩
    · rw [if_neg (fun z => ?_)]
      have := (nI_eq (Nat.lt_of_le_of_lt (Nat.div_le_self _ _) (by omega)) (by omega)).mp (show nI (brN f m / 2 ^ R 0) = nI 0 from z)
      have a1 : 1 ≤ brN f m / 2 ^ R 0 := (Nat.le_div_iff_mul_le (Nat.pow_pos (by decide))).mpr (by omega)
      omega
    · refine Nat.lt_pow_two_of_testBit _ (fun p hp => ?_)
      rw [brN_bit]
      refine anyB_f.mpr (fun i hi => ?_)
      have := q i hi
      exact decide_eq_false (by omega)
theorem pre_int : ∀ d, d < 10 → (nI d - 1).toInt = (d : Int) - 1 := by decide
/-- the reference counts the digits -/
theorem M_dcount {M : Mem} {N n : Nat} (hN : N < 2 ^ 31) (h1 : 1 ≤ n) (hl : 10 ^ (n - 1) ≤ N) (hu : N < 10 ^ n) : f_MM_laysTold_W4 M (nI N) (0, 1) = some (nI (if n < 9 then n else 9)) := by
  unfold f_MM_laysTold_W4
  have p8 : ∀ i, i < 9 → 10 ^ i < 2 ^ 31 ∧ 0 < 10 ^ i := by decide
  refine (loop_fn (fun i => (nI i, nI (10 ^ (if i < 9 then i else 8)))) (if n < 9 then n else 9) (nI (if n < 9 then n else 9)) (fun i hi => ?_) ?_)
  · have i9 : i < 9 := by split at hi <;> omega
    have iN : i ≤ n - 1 := by split at hi <;> omega
    have hq : 10 ^ i ≤ N := Nat.le_trans (Nat.pow_le_pow_right (by decide) iN) hl
    obtain ⟨q1, q2⟩ := p8 i i9
    have a1 : 1 ≤ N / 10 ^ i := (Nat.le_div_iff_mul_le q2).mpr (by omega)
    show f_MM_laysTold_L4 M (nI N) (nI i) (nI (10 ^ (if i < 9 then i else 8))) = some (.inl (nI (i + 1), nI (10 ^ (if i + 1 < 9 then i + 1 else 8))))
    unfold f_MM_laysTold_L4
    rw [if_pos i9, show (9 : Int32) = nI 9 from rfl, if_neg (nI_ge i9 (by decide)), if_neg (fun z => by have := (nI_eq q1 (by omega)).mp (show nI (10 ^ i) = nI 0 from z); omega), pk_div hN q2 q1, if_neg (show ¬ nI (N / 10 ^ i) ≤ (0 : Int32) from nI_ge (a := 0) (b := N / 10 ^ i) a1 (Nat.lt_of_le_of_lt (Nat.div_le_self _ _) hN)), ← nI_succ]
    by_cases w : i + 1 < 9
    · rw [if_neg (nI_ge w (by decide)), if_pos w, show (10 : Int32) = nI 10 from rfl, pk_mul, ← Nat.pow_succ]
    · rw [if_pos ((nI_leI (by decide) (by omega)).mpr (by omega)), if_neg w, show i = 8 by omega]
  · show f_MM_laysTold_L4 M (nI N) (nI (if n < 9 then n else 9)) (nI _) = _
    unfold f_MM_laysTold_L4
    by_cases w : n < 9
    · obtain ⟨q1, q2⟩ := p8 n w
      rw [if_pos w, show (9 : Int32) = nI 9 from rfl, if_neg (nI_ge w (by decide)), if_pos w, if_neg (fun z => by have := (nI_eq q1 (by omega)).mp (show nI (10 ^ n) = nI 0 from z); omega), pk_div hN q2 q1, Nat.div_eq_of_lt hu, if_pos (by decide)]
    · rw [if_neg w, if_pos (by decide)]
