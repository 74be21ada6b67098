/-! asking: caught; open -/
def brN (f : Nat → Nat) : Nat → Nat
  | 0 => 0
  | i + 1 => brN f i ||| 2 ^ f i
theorem brN_bit (f : Nat → Nat) (p : Nat) : ∀ m, (brN f m).testBit p = anyB (fun i => decide (f i = p)) m := by
  intro m
  induction m with
  | zero => exact Nat.zero_testBit p
  | succ m ih =>
    show (brN f m ||| 2 ^ f m).testBit p = (anyB (fun i => decide (f i = p)) m || decide (f m = p))
    rw [Nat.testBit_or, ih, Nat.testBit_two_pow]
theorem brN_lt {f : Nat → Nat} : ∀ {m : Nat}, (∀ i, i < m → f i < 8) → brN f m < 256 := by
  intro m
  induction m with
  | zero => intro _; exact (by decide : (0 : Nat) < 256)
  | succ m ih =>
    intro h
    have h1 := ih (fun i hi => h i (by omega))
    have h2 : 2 ^ f m < 2 ^ 8 := Nat.pow_lt_pow_right (by decide) (h m (by omega))
    exact Nat.or_lt_two_pow (n := 8) h1 h2
theorem Chn_bearers {c : Int32} {m : Nat} {f : Nat → Nat} (h : Chn c m f) : f_Chain_bearers c = some (nI (brN f m)) := by
  have hm := h.le
  unfold f_Chain_bearers f_Chain_bearers_J4
  rw [bnd_id]
  unfold f_Chain_bearers_W4
  refine loop_fn (fun i => (nI (brN f i), nI i)) m _ (fun i hi => ?_) ?_
  · show f_Chain_bearers_L4 c (nI (brN f i)) (nI i) = _
    have hl := h.lt hi
    unfold f_Chain_bearers_L4
    rw [Chn_size h, if_neg (nI_ge hi (by omega)), Chn_mark h hi, sh1 _ (by omega), fa_or, ← nI_succ]
    rfl
  · show f_Chain_bearers_L4 c (nI (brN f m)) (nI m) = _
    unfold f_Chain_bearers_L4
    rw [Chn_size h, if_pos ((nI_leI (by omega) (by omega)).mpr (Nat.le_refl _))]
theorem Chn_bears {c : Int32} {m : Nat} {f : Nat → Nat} (h : Chn c m f) {p : Nat} (hp : p < 32) : f_Chain_bears c (nI p) = some (anyB (fun i => decide (f i = p)) m) := by
  have hlt : brN f m < 256 := brN_lt (fun i hi => h.lt hi)
  unfold f_Chain_bears
  rw [Chn_bearers h, bnd_some, ← brN_bit]
  cases e : (brN f m).testBit p
  · rw [if_pos ((bit_0 (by omega) hp).mpr e)]
  · rw [if_neg (fun z => by rw [bit_0 (by omega) hp, e] at z; cases z)]
theorem M_bears {Q : Tab} {M : Mem} (hQ : RM Q M) {k p : Nat} (hk : k < Q 0 0) (hL : Q 0 0 ≤ 212) (h4 : Q (5 + k) 4 ≤ 8) (hp : p < 2 ^ 31) (hm : ∀ j, j < Q (5 + k) 4 → Q (5 + k) (6 + j) < 8) : f_MM_bears M (nI k) (nI p) = some (anyB (fun i => decide (Q (5 + k) (6 + i) = p)) (Q (5 + k) 4)) := by
  obtain ⟨r1, r2, r3, r4, r5, r6, r7, r8⟩ := hQ.2.2.1 k hk
  unfold f_MM_bears f_MM_bears_J2
  rw [bnd_id]
  unfold f_MM_bears_W2
  have st : ∀ i, i < Q (5 + k) 4 → f_MM_bears_L2 M (nI k) (nI p) (nI i) = if decide (Q (5 + k) (6 + i) = p) = true then some (.inr true) else some (.inl (nI (i + 1))) := fun i hi => by
    have := hm i hi
    unfold f_MM_bears_L2
    rw [gIn_nI (by omega) (by decide), nI_clamp (by omega), r5, if_neg (nI_ge hi (by omega)), j8, pk_mul, nI_add, gIn_nI (by omega) (by decide), nI_clamp (by omega), r8 i hi, ← nI_succ]
    by_cases w : Q (5 + k) (6 + i) = p
    · rw [if_pos (by rw [w]), if_pos (by simp [w])]
    · rw [if_neg (fun z => w ((nI_eq (by omega) hp).mp z)), if_neg (by simp [w])]
  refine (loop_first (fun i => nI i) (fun i => decide (Q (5 + k) (6 + i) = p)) (Q (5 + k) 4) (fun _ => true) false (fun i hi hb => by rw [st i hi, if_neg (by rw [hb]; decide)]) (fun i hi hb => by rw [st i hi, if_pos hb]) ?_).trans (congrArg some ?_)
  · unfold f_MM_bears_L2
    rw [gIn_nI (by omega) (by decide), nI_clamp (by omega), r5, if_pos ((nI_leI (by omega) (by omega)).mpr (Nat.le_refl _))]
  · rcases fstN_sp (fun i => decide (Q (5 + k) (6 + i) = p)) (Q (5 + k) 4) with ⟨h1, h2⟩ | ⟨h1, h2, h3⟩
    · rw [h1, if_neg (by omega), anyB_f.mpr h2]
    · rw [if_pos h1, anyB_iff.mpr ⟨_, h1, h2⟩]
def cgB (R : Nat → Nat) (Q : Tab) (p r k : Nat) : Bool := decide (Q (5 + k) 5 = r) && decide (Q (5 + k) 2 = p) && anyB (fun i => decide (Q (5 + k) (6 + i) = R 1)) (Q (5 + k) 4)
def cgS (R : Nat → Nat) (Q : Tab) (p r : Nat) (x : Int32) : Nat → Int32
  | 0 => x
  | k + 1 => if cgB R Q p r k = true then cgS R Q p r x k ||| ((1 : Int32) <<< (nI (Q (5 + k) 3) &&& 31)) else cgS R Q p r x k
def cgO (R : Nat → Nat) (Q : Tab) (p : Nat) (x : Int32) : Nat → Int32
  | 0 => x
  | i + 1 => cgS R Q p (i + 1) (cgO R Q p x i) (Q 0 0)
theorem C_faces {R : Nat → Nat} {Mc Mm : Mem} (h : RelP R Mc Mm) {p r : Nat} (hp : p < 8) (hr1 : 1 ≤ r) (hr : r ≤ 8) (x : Int32) : f_Run_firstTwoFaced_W46 112 Mc (nI p) (nI (R 1)) (nI r) (x, 0) = some (cgS R (NQ R) p r x (NQ R 0 0)) := by
  obtain ⟨hV, hP, hM, hC, h28, hk⟩ := h
  have hn := pv_n hV
  have hi := NQ_inv hV
  have hL := NQ_le hV
  have hR3 := hV.2.2.2.1
  have hR1 : R 1 < 8 := by have := hV.1; omega
  have hc4 : Mc 112 4 = nI (NQ R 0 0) := hC.1
  unfold f_Run_firstTwoFaced_W46
  refine loop_fn (fun k => (cgS R (NQ R) p r x k, nI k)) (NQ R 0 0) _ (fun k hk2 => ?_) ?_
  · show f_Run_firstTwoFaced_L46 112 Mc (nI p) (nI (R 1)) (nI r) (cgS R (NQ R) p r x k) (nI k) = _
    obtain ⟨⟨l0, l0', l1, l2, l3, l4, l4'⟩, -, -, l5, -⟩ := hi.1 k hk2
    obtain ⟨c1, c2, c3, c4, c5⟩ := hC.2.2.1 k hk2
    have c1' : Mc (112 + 2) k = nI (64 * NQ R (5 + k) 0 + 8 * NQ R (5 + k) 1 + NQ R (5 + k) 2) := c1
    have es : cgS R (NQ R) p r x (k + 1) = if cgB R (NQ R) p r k = true then cgS R (NQ R) p r x k ||| ((1 : Int32) <<< (nI (NQ R (5 + k) 3) &&& 31)) else cgS R (NQ R) p r x k := rfl
    unfold f_Run_firstTwoFaced_L46 f_Run_firstTwoFaced_J85 f_Run_firstTwoFaced_J86
    rw [hc4, if_neg (nI_ge hk2 (by omega)), gIn_nI (by omega) (by decide), nI_clamp (by omega), c4, c1', way_to (by omega) (by omega) (by omega), gIn_nI (by omega) (by decide), Chn_bears c3 (by omega), bnd_some, c2, if_pos rfl, if_neg (show ¬ (1 : Int32) = 0 by decide), es, ← nI_succ]
    unfold cgB
    by_cases w1 : NQ R (5 + k) 5 = r
    · rw [if_pos ((cmI_eq hr1 (by omega) (by omega)).mpr w1), decide_eq_true w1]
      by_cases w2 : NQ R (5 + k) 2 = p
      · rw [if_pos (by rw [w2]), decide_eq_true w2]
        cases anyB (fun i => decide (NQ R (5 + k) (6 + i) = R 1)) (NQ R (5 + k) 4) <;> rfl
      · rw [if_neg (fun z => w2 ((nI_eq (by omega) (by omega)).mp z)), decide_eq_false w2]
        rfl
    · rw [if_neg (fun z => w1 ((cmI_eq hr1 (by omega) (by omega)).mp z)), decide_eq_false w1]
      rfl
  · show f_Run_firstTwoFaced_L46 112 Mc (nI p) (nI (R 1)) (nI r) _ (nI (NQ R 0 0)) = _
    unfold f_Run_firstTwoFaced_L46
    rw [hc4, if_pos ((nI_leI (by omega) (by omega)).mpr (Nat.le_refl _))]
theorem M_faces {R : Nat → Nat} {N : Mem} (hV : PV R) (hM : PM R (N 1)) (n2 : RM (NQ R) N) {p r : Nat} (hp : p < 8) (hr1 : 1 ≤ r) (hr : r ≤ 8) (x : Int32) : f_MM_caught_W52 N (nI p) (nI r) (x, 0) = some (cgS R (NQ R) p r x (NQ R 0 0)) := by
  have hn := pv_n hV
  have hi := NQ_inv hV
  have hL := NQ_le hV
  have hR3 := hV.2.2.2.1
  have hR1 : R 1 < 8 := by have := hV.1; omega
  have h11 : N 1 1 = nI (R 1) := hM.1 1 (by decide)
  unfold f_MM_caught_W52
  refine loop_fn (fun k => (cgS R (NQ R) p r x k, nI k)) (NQ R 0 0) _ (fun k hk2 => ?_) ?_
  · show f_MM_caught_L52 N (nI p) (nI r) (cgS R (NQ R) p r x k) (nI k) = _
    obtain ⟨⟨l0, l0', l1, l2, l3, l4, l4'⟩, lm, -, l5, -⟩ := hi.1 k hk2
    obtain ⟨r1, r2, r3, r4, r5, r6, r7, r8⟩ := n2.2.2.1 k hk2
    have es : cgS R (NQ R) p r x (k + 1) = if cgB R (NQ R) p r k = true then cgS R (NQ R) p r x k ||| ((1 : Int32) <<< (nI (NQ R (5 + k) 3) &&& 31)) else cgS R (NQ R) p r x k := rfl
    have oz : ∀ y : Int32, y ||| 0 = y := fun y => Int32.or_zero
    unfold f_MM_caught_L52 f_MM_caught_J111 f_MM_caught_J112
    rw [n2.1, if_neg (nI_ge hk2 (by omega)), gIn_nI (by omega) (by decide), nI_clamp (by omega), r6, r3, h11, M_bears n2 hk2 hL l4' (by omega) (fun j hj => by have := (lm j hj).1; omega), bnd_some, r4, es, oz, ← nI_succ]
    unfold cgB
    by_cases w1 : NQ R (5 + k) 5 = r
    · rw [if_pos ((cmI_eq hr1 (by omega) (by omega)).mpr w1), decide_eq_true w1]
      by_cases w2 : NQ R (5 + k) 2 = p
      · rw [if_pos (by rw [w2]), decide_eq_true w2]
        cases anyB (fun i => decide (NQ R (5 + k) (6 + i) = R 1)) (NQ R (5 + k) 4) <;> rfl
      · rw [if_neg (fun z => w2 ((nI_eq (by omega) (by omega)).mp z)), decide_eq_false w2]
        rfl
    · rw [if_neg (fun z => w1 ((cmI_eq hr1 (by omega) (by omega)).mp z)), decide_eq_false w1]
      rfl
  · show f_MM_caught_L52 N (nI p) (nI r) _ (nI (NQ R 0 0)) = _
    unfold f_MM_caught_L52
    rw [n2.1, if_pos ((nI_leI (by omega) (by omega)).mpr (Nat.le_refl _))]
theorem q_caught {R : Nat → Nat} {Mc Mm : Mem} (h : RelP R Mc Mm) (x1 : Int32) : Ask (f_MC_caught Mc x1) (f_MM_caught Mm x1) Mm := by
  obtain ⟨N, n1, n2, n3, n4, n5⟩ := RelP.run h
  have hC46 := @C_faces R Mc Mm h
  obtain ⟨hV, hP, hM, hC, h28, hk⟩ := h
  have hn := pv_n hV
  have hR3 := hV.2.2.2.1
  have hR3' := hV.2.2.1
  have hR1 : R 1 < 8 := by have := hV.1; omega
  have h11 : N 1 1 = nI (R 1) := n5.1.1 1 (by decide)
  have h12 : N 1 2 = nI (R 2) := n5.1.1 2 (by decide)
  have h13 : N 1 3 = nI (R 3) := n5.1.1 3 (by decide)
  have c10 : Mc 1 0 = nI (R 1) := hP.2.2.2.2.2.1 0 (by decide)
  have c11 : Mc 1 1 = nI (R 2) := hP.2.2.2.2.2.1 1 (by decide)
  unfold f_MC_caught f_MM_caught
  rw [C_honest hV hP.1 hP.2.1, M_honB hV hM]
  rcases honB_cases R x1 hn with w | ⟨p, hp, hl, rfl, w⟩
  · rw [w]
    exact Ask.no rfl rfl
  · rw [w, gT, gT, n1, bnd_some, bnd_id]
    unfold f_Run_firstTwoFaced
    rw [c10, c11, h11, h12]
    have key : ∀ x : Int32, Ask (f_Run_firstTwoFaced_J30 112 Mc (nI p) (nI (R 1)) x) (f_MM_caught_J36 N (nI p) x) Mm := fun x => by
      unfold f_Run_firstTwoFaced_J30 f_Run_firstTwoFaced_J34 f_MM_caught_J36 f_MM_caught_J39
      rw [bnd_id, bnd_id]
      unfold f_Run_firstTwoFaced_W34 f_MM_caught_W39
      have b : ∀ (y : Int32), (decide (¬ f_Int_bitCount y ≤ (1 : Int32))) = true ∨ (decide (¬ f_Int_bitCount y ≤ (1 : Int32))) = false := fun y => by cases decide (¬ f_Int_bitCount y ≤ (1 : Int32)) <;> simp
      have c := loop_first (body := fun t => f_Run_firstTwoFaced_L34 112 Mc (nI p) (nI (R 1)) t.1 t.2) (fun i => (cgO R (NQ R) p x i, nI (i + 1))) (fun i => decide (¬ f_Int_bitCount (cgO R (NQ R) p x (i + 1)) ≤ (1 : Int32))) (R 3) (fun i => nI (i + 1)) (-2) (fun i hi hb => by
        show f_Run_firstTwoFaced_L34 112 Mc (nI p) (nI (R 1)) (cgO R (NQ R) p x i) (nI (i + 1)) = _
        unfold f_Run_firstTwoFaced_L34 f_Run_firstTwoFaced_J46
        rw [hk, if_neg (nI_nlt (by omega) (by omega)), hC46 (by omega) (by omega) (by omega), bnd_some, if_pos (by
          have hb' : decide (¬ f_Int_bitCount (cgS R (NQ R) p (i + 1) (cgO R (NQ R) p x i) (NQ R 0 0)) ≤ (1 : Int32)) = false := hb
          simpa using hb'), ← nI_succ]
        rfl) (fun i hi hb => by
        show f_Run_firstTwoFaced_L34 112 Mc (nI p) (nI (R 1)) (cgO R (NQ R) p x i) (nI (i + 1)) = _
        unfold f_Run_firstTwoFaced_L34 f_Run_firstTwoFaced_J46
        rw [hk, if_neg (nI_nlt (by omega) (by omega)), hC46 (by omega) (by omega) (by omega), bnd_some, if_neg (by
          have hb' : decide (¬ f_Int_bitCount (cgS R (NQ R) p (i + 1) (cgO R (NQ R) p x i) (NQ R 0 0)) ≤ (1 : Int32)) = true := hb
          simpa using hb')]) (by
        show f_Run_firstTwoFaced_L34 112 Mc (nI p) (nI (R 1)) _ (nI (R 3 + 1)) = _
        unfold f_Run_firstTwoFaced_L34
        rw [hk, if_pos (nI_lt (by omega) (by omega))])
      have m := loop_first (body := fun t => f_MM_caught_L39 N (nI p) t.1 t.2) (fun i => (cgO R (NQ R) p x i, nI (i + 1))) (fun i => decide (¬ f_Int_bitCount (cgO R (NQ R) p x (i + 1)) ≤ (1 : Int32))) (R 3) (fun i => (nI (i + 1), N)) (-2, N) (fun i hi hb => by
        show f_MM_caught_L39 N (nI p) (cgO R (NQ R) p x i) (nI (i + 1)) = _
        unfold f_MM_caught_L39 f_MM_caught_J52
        rw [h13, if_neg (nI_nlt (by omega) (by omega)), M_faces hV n5.1 n2 (by omega) (by omega) (by omega), bnd_some, if_pos (by
          have hb' : decide (¬ f_Int_bitCount (cgS R (NQ R) p (i + 1) (cgO R (NQ R) p x i) (NQ R 0 0)) ≤ (1 : Int32)) = false := hb
          simpa using hb'), ← nI_succ]
        rfl) (fun i hi hb => by
        show f_MM_caught_L39 N (nI p) (cgO R (NQ R) p x i) (nI (i + 1)) = _
        unfold f_MM_caught_L39 f_MM_caught_J52
        rw [h13, if_neg (nI_nlt (by omega) (by omega)), M_faces hV n5.1 n2 (by omega) (by omega) (by omega), bnd_some, if_neg (by
          have hb' : decide (¬ f_Int_bitCount (cgS R (NQ R) p (i + 1) (cgO R (NQ R) p x i) (NQ R 0 0)) ≤ (1 : Int32)) = true := hb
          simpa using hb')]) (by
        show f_MM_caught_L39 N (nI p) _ (nI (R 3 + 1)) = _
        unfold f_MM_caught_L39
        rw [h13, if_pos (nI_lt (by omega) (by omega))])
      refine ⟨_, N, c, m.trans ?_, n3⟩
      split <;> rfl
    by_cases e : nI p = nI (R 1)
    · rw [if_pos e, if_pos e]
      exact key _
    · rw [if_neg e, if_neg e]
      exact key _
