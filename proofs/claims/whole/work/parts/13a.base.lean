/-! ASKING: both programs stand for the same play, and what is asked of them comes out alike -/
theorem loop_fn {τ ρ : Type} {body : τ → Option (τ ⊕ ρ)} (e : Nat → τ) (n : Nat) (r : ρ) (hs : ∀ i, i < n → body (e i) = some (.inl (e (i + 1)))) (he : body (e n) = some (.inr r)) : loop body (e 0) = some r := by
  obtain ⟨y, h1, h2⟩ := loop_enc (body := body) (fun i (_ : Unit) => e i) n (fun _ _ => True) (fun y => y = r) (fun i _ hi _ => Or.inl ⟨(), hs i hi, trivial⟩) (fun _ _ => ⟨r, he, rfl⟩) 0 () (Nat.zero_le n) trivial
  rw [h1, h2]
def inB (x : Int32) (n : Nat) : Bool := decide (0 ≤ x.toInt) && decide (x.toInt < n)
theorem inB_cases (x : Int32) (n : Nat) : inB x n = false ∨ ∃ j, j < n ∧ j < 2 ^ 31 ∧ x = nI j ∧ inB x n = true := by
  by_cases h : 0 ≤ x.toInt ∧ x.toInt < n
  · right
    refine ⟨x.toInt.toNat, by omega, ?_, ?_, ?_⟩
    · have := Int32.toInt_lt x
      omega
    · apply Int32.toInt_inj.mp
      have := Int32.toInt_lt x
      rw [nI_toInt (by omega)]
      omega
    · unfold inB
      rw [decide_eq_true h.1, decide_eq_true h.2]
      rfl
  · left
    unfold inB
    rw [← Bool.not_eq_true]
    simpa using h
theorem inB_nI {j n : Nat} (hj : j < 2 ^ 31) : inB (nI j) n = decide (j < n) := by
  unfold inB
  rw [nI_toInt hj, decide_eq_true (by omega), Bool.true_and]
  by_cases w : j < n
  · rw [decide_eq_true w, decide_eq_true (by omega)]
  · rw [decide_eq_false w, decide_eq_false (by omega)]
theorem inB_neg {n : Nat} : inB (-1) n = false := by
  unfold inB
  rw [decide_eq_false (by decide), Bool.false_and]
theorem inC {α : Type} {x : Int32} {n : Nat} (hn : n < 2 ^ 31) {a b c : α} : (if x < 0 then a else if nI n ≤ x then b else c) = if inB x n = true then c else if x < 0 then a else b := by
  unfold inB
  by_cases h1 : x < 0
  · rw [if_pos h1, if_pos h1, if_neg]
    rw [Int32.lt_iff_toInt_lt] at h1
    have : (0 : Int32).toInt = 0 := rfl
    rw [decide_eq_false (by omega), Bool.false_and]
    decide
  · rw [if_neg h1, if_neg h1]
    rw [Int32.lt_iff_toInt_lt] at h1
    have e0 : (0 : Int32).toInt = 0 := rfl
    by_cases h2 : nI n ≤ x
    · rw [if_pos h2, if_neg]
      rw [Int32.le_iff_toInt_le, nI_toInt hn] at h2
      rw [decide_eq_false (show ¬ x.toInt < (n : Int) by omega), Bool.and_false]
      decide
    · rw [if_neg h2, if_pos]
      rw [Int32.le_iff_toInt_le, nI_toInt hn] at h2
      rw [decide_eq_true (by omega), decide_eq_true (by omega)]
      rfl
theorem M_inB (x : Int32) (n : Nat) (hi : Int64) (h : hi.toInt = (n : Int) - 1) : f_MM_in x.toInt64 (0 : Int64) hi = inB x n := by
  rw [M_in, Int32.toInt_toInt64, h]
  unfold inB
  have e3 : ((0 : Int64)).toInt = 0 := rfl
  rw [e3]
  congr 1
  by_cases w : x.toInt < n
  · rw [decide_eq_true w, decide_eq_true (by omega)]
  · rw [decide_eq_false w, decide_eq_false (by omega)]
theorem nI_pre64 (n : Nat) (hn : n < 2 ^ 31) : ((nI n - 1).toInt64).toInt = (n : Int) - 1 := by
  rw [Int32.toInt_toInt64]
  cases n with
  | zero => rfl
  | succ n =>
    have : nI (n + 1) - 1 = nI n := by rw [nI_succ]; exact Int32.add_sub_cancel _ _
    rw [this, nI_toInt (by omega)]
    omega
def honB (R : Nat → Nat) (x : Int32) : Bool := inB x (R 0) && !lie R x.toInt.toNat
theorem honB_cases (R : Nat → Nat) (x : Int32) (hn : R 0 ≤ 8) : honB R x = false ∨ ∃ p, p < R 0 ∧ lie R p = false ∧ x = nI p ∧ honB R x = true := by
  rcases inB_cases x (R 0) with h | ⟨j, h1, h2, h3, h4⟩
  · left
    unfold honB
    rw [h]
    rfl
  · cases e : lie R j with
    | true =>
      left
      unfold honB
      rw [h3, nI_toInt h2, show ((j : Int)).toNat = j from Int.toNat_natCast j, e]
      exact Bool.and_false _
    | false =>
      right
      refine ⟨j, h1, e, h3, ?_⟩
      unfold honB
      rw [h4, h3, nI_toInt h2, show ((j : Int)).toNat = j from Int.toNat_natCast j, e]
      rfl
theorem C_party {k n : Nat} {M : Mem} (h : M k 0 = nI n) (hn : n ≤ 8) (x : Int32) : f_Play_hasParty k M x = inB x n := by
  unfold f_Play_hasParty f_Play_hasParty_J16
  rw [h, inC (by omega)]
  cases inB x n
  · rw [if_neg (by decide)]
    split <;> rfl
  · rfl
theorem C_value (x : Int32) : f_MC_isValue x = inB x 4 := by
  unfold f_MC_isValue f_MC_isValue_J13
  rw [j4, inC (by decide)]
  cases inB x 4
  · rw [if_neg (by decide)]
    split <;> rfl
  · rfl
theorem C_honest {k : Nat} {R : Nat → Nat} {M : Mem} (hV : PV R) (h0 : M k 0 = nI (R 0)) (h1 : M k 1 = nI (R 6)) (x : Int32) : f_Play_isHonest k M x = honB R x := by
  have hn := pv_n hV
  rcases inB_cases x (R 0) with h | ⟨j, q1, q2, q3, q4⟩
  · unfold f_Play_isHonest f_Play_isHonest_J23 honB
    rw [C_party h0 hn, h]
    rfl
  · unfold honB
    rw [q3, C_isHonest hV h0 h1 (by omega), inB_nI q2, nI_toInt q2]
    rfl
theorem M_honB {R : Nat → Nat} {M : Mem} (hV : PV R) (hM : PM R (M 1)) (x : Int32) : f_MM_isHonest M x = honB R x := by
  have hn := pv_n hV
  rcases inB_cases x (R 0) with h | ⟨j, q1, q2, q3, q4⟩
  · have : f_MM_isParty M x = false := (M_party hV hM x).trans h
    unfold f_MM_isHonest f_MM_isHonest_J20 honB
    rw [this, h]
    rfl
  · unfold honB
    rw [q3, M_honest (x := none0) hV hM (by omega), inB_nI q2, nI_toInt q2]
    rfl
theorem M_partyB {R : Nat → Nat} {M : Mem} (hV : PV R) (hM : PM R (M 1)) (x : Int32) : f_MM_isParty M x = inB x (R 0) := M_party hV hM x
/-- the play that both stand for, and the class's run of it -/
def RelP (R : Nat → Nat) (Mc Mm : Mem) : Prop := PV R ∧ PC R Mc 0 ∧ PM R (Mm 1) ∧ RC 112 (R 3 + 1) (R 3) (NQ R) Mc ∧ Mm 0 28 = -1 ∧ Mc 112 1 = nI (R 3)
theorem RelP.sm {R : Nat → Nat} {Mc Mm : Mem} (h : RelP R Mc Mm) : SM R none0 Mm := ⟨h.2.2.1, h.2.2.2.2.1, fun w => absurd rfl w, by decide, by decide, by decide, by decide⟩
theorem RelP.run {R : Nat → Nat} {Mc Mm : Mem} (h : RelP R Mc Mm) : ∃ M', f_MM_runs Mm = some M' ∧ RM (NQ R) M' ∧ FrN Mm M' ∧ M' 0 26 = nI (orN (idB R) (R 7)) ∧ SM R none0 M' := by
  obtain ⟨M', h1, h2, h3, h4⟩ := M_runs h.1 h.sm
  exact ⟨M', h1, h2, h3, h4, h.sm.frN h3⟩
theorem NQ_inv {R : Nat → Nat} (hV : PV R) : INV R (R 3) (NQ R) := (run_sp hV hV.2.2.2.2.2.2.2.2.1 (plR_ok hV) (R 3) hV.2.2.2.1).1
theorem run_le {R : Nat → Nat} {dl : Nat → Nat → Nat → Nat} {np : Nat} {PL : Nat → Nat → Nat} {al : Nat → Bool} (hV : PV R) (hnp : np ≤ 16) (hok : ∀ l, l < np → plOK R (PL l)) (n : Nat) (hn : n ≤ 8) : sRun R dl np PL al n 0 0 ≤ 212 := by
  obtain ⟨h1, h2⟩ := run_sp (dl := dl) (al := al) hV hnp hok n hn
  unfold CNT at h2
  have b28 := ct_28 hV h1 (q := n) (by omega)
  have hpc : fb_ct (fun l => decide (PL l 0 ≤ n)) np ≤ 16 := Nat.le_trans (fb_ct_le _ _) hnp
  split at h2 <;> omega
theorem NQ_le {R : Nat → Nat} (hV : PV R) : NQ R 0 0 ≤ 212 := run_le hV hV.2.2.2.2.2.2.2.2.1 (plR_ok hV) (R 3) hV.2.2.2.1
/-- an asking: the class answers and stays, the reference answers alike -/
def Ask (a : Option Int32) (b : Option (Int32 × Mem)) (Mm : Mem) : Prop := ∃ v M', a = some v ∧ b = some (v, M') ∧ FrN Mm M'
theorem Ask.no {Mm : Mem} {v : Int32} {a : Option Int32} {b : Option (Int32 × Mem)} (ha : a = some v) (hb : b = some (v, Mm)) : Ask a b Mm := ⟨v, Mm, ha, hb, ⟨fun _ _ _ => rfl, fun _ _ _ _ => rfl⟩⟩
theorem gT {α : Type} {x y : α} : (if bI true = 0 then x else y) = y := rfl
theorem gF {α : Type} {x y : α} : (if bI false = 0 then x else y) = x := rfl
