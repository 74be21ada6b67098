/-! plan -/
theorem M_told {R : Nat → Nat} {M : Mem} {N n : Nat} (hV : PV R) (hM : PM R (M 1)) (hN : N < 2 ^ 31) (h1 : 1 ≤ n) (hl : 10 ^ (n - 1) ≤ N) (hu : N < 10 ^ n) : ∃ v M', f_MM_laysTold M (nI N) = some (v, M') ∧ (∀ a, a ≠ 8 → M' a = M a) ∧ ((v = -1 ∧ (9 ≤ n ∨ ¬ dgOK N n (R 0))) ∨ (v = nI n ∧ n ≤ 8 ∧ dgOK N n (R 0) ∧ ∀ k, k < n → M' 8 k = nI (dg N (n - 1 - k) - 1))) := by
  have hn := pv_n hV
  unfold f_MM_laysTold f_MM_laysTold_J4
  rw [M_dcount hN h1 hl hu, bnd_some]
  unfold f_MM_laysTold_J37
  rw [M_in18]
  by_cases w : n < 9
  · have i18 : in18 (nI n) = true := by
      unfold in18
      rw [nI_toInt (by omega)]
      simp
      omega
    rw [if_pos w, i18, gT]
    unfold f_MM_laysTold_J62
    rw [bnd_id]
    unfold f_MM_laysTold_W62
    suffices hh : ∃ r, loop (fun t => f_MM_laysTold_L62 (nI n) t.1 t.2.1 t.2.2.1 t.2.2.2) ((fun (i : Nat) (s : Mem) => (nI (N / 10 ^ i), nI (brN (fun j => dg N j - 1) i), nI (n - i) - 1, s)) 0 M) = some r ∧ (∀ a, a ≠ 8 → r.2 a = M a) ∧ ((r.1 = -1 ∧ (9 ≤ n ∨ ¬ dgOK N n (R 0))) ∨ (r.1 = nI n ∧ n ≤ 8 ∧ dgOK N n (R 0) ∧ ∀ k, k < n → r.2 8 k = nI (dg N (n - 1 - k) - 1))) by
      obtain ⟨r, q1, q2⟩ := hh
      refine ⟨r.1, r.2, ?_, q2⟩
      rw [← q1]
      show _ = loop _ (nI (N / 10 ^ 0), nI 0, nI (n - 0) - 1, M)
      rw [Nat.pow_zero, Nat.div_one, Nat.sub_zero]
      rfl
    refine loop_enc (fun i s => (nI (N / 10 ^ i), nI (brN (fun j => dg N j - 1) i), nI (n - i) - 1, s)) n (fun i M' => (∀ a, a ≠ 8 → M' a = M a) ∧ (∀ j, j < i → 1 ≤ dg N j ∧ dg N j ≤ R 0) ∧ (∀ k j, k < j → j < i → dg N k ≠ dg N j) ∧ ∀ j, j < i → M' 8 (n - 1 - j) = nI (dg N j - 1)) _ ?_ ?_ 0 M (Nat.zero_le _) ⟨fun _ _ => rfl, fun j hj => absurd hj (Nat.not_lt_zero j), fun k j _ hj => absurd hj (Nat.not_lt_zero j), fun j hj => absurd hj (Nat.not_lt_zero j)⟩
    · rintro i M' hi ⟨g1, g2, g3, g4⟩
      have hNi : N / 10 ^ i < 2 ^ 31 := Nat.lt_of_le_of_lt (Nat.div_le_self _ _) hN
      have d10 := dg_lt N i
      have hb : brN (fun j => dg N j - 1) i < 256 := brN_lt (fun j hj => by have := g2 j hj; show dg N j - 1 < 8; omega)
      have hM' : PM R (M' 1) := by rw [g1 1 (by decide)]; exact hM
      have nx : nI (N / 10 ^ i) / (10 : Int32) = nI (N / 10 ^ (i + 1)) := by
        rw [show (10 : Int32) = nI 10 from rfl, pk_div hNi (by decide) (by decide), Nat.div_div_eq_div_mul, Nat.pow_succ]
      have st : f_MM_laysTold_L62 (nI n) (nI (N / 10 ^ i)) (nI (brN (fun j => dg N j - 1) i)) (nI (n - i) - 1) M' = if (bI (f_MM_isParty M' (nI (dg N i) - 1))) = 0 then some (.inr ((-1 : Int32), M')) else if (bI (f_MM_has (nI (brN (fun j => dg N j - 1) i)) (nI (dg N i) - 1))) = 0 then lt1 (nI (brN (fun j => dg N j - 1) i) ||| ((1 : Int32) <<< ((nI (dg N i) - 1) &&& 31))) (fun y1 => gIn (nI (n - (i + 1))) 8 (lt1 (upM M' 8 (nI (n - (i + 1))).toNatClampNeg (nI (dg N i) - 1)) (fun M3 => some (.inl (nI (N / 10 ^ (i + 1)), y1, nI (n - (i + 1)) - 1, M3))))) else some (.inr ((-1 : Int32), M')) := by
        unfold f_MM_laysTold_L62
        rw [dec_rem hNi, nx, down_step hi, if_neg (show ¬ nI (n - (i + 1)) < 0 from nI_pos (by omega)), down_next]
        rfl
      show (∃ s', f_MM_laysTold_L62 (nI n) (nI (N / 10 ^ i)) (nI (brN (fun j => dg N j - 1) i)) (nI (n - i) - 1) M' = some (.inl (nI (N / 10 ^ (i + 1)), nI (brN (fun j => dg N j - 1) (i + 1)), nI (n - (i + 1)) - 1, s')) ∧ _) ∨ ∃ r, f_MM_laysTold_L62 (nI n) (nI (N / 10 ^ i)) (nI (brN (fun j => dg N j - 1) i)) (nI (n - i) - 1) M' = some (.inr r) ∧ _
      rw [st, M_party hV hM', pre_int _ d10]
      by_cases w1 : 1 ≤ dg N i ∧ dg N i ≤ R 0
      · have p1 : (decide (0 ≤ ((dg N i : Nat) : Int) - 1) && decide (((dg N i : Nat) : Int) - 1 < ((R 0 : Nat) : Int))) = true := by
          simp only [Bool.and_eq_true, decide_eq_true_eq]
          omega
        rw [p1, if_neg (show ¬ bI true = 0 by decide), show (1 : Int32) = nI 1 from rfl, pk_sub w1.1, M_has (by omega) (by omega), brN_bit]
        cases e : anyB (fun j => decide (dg N j - 1 = dg N i - 1)) i
        · left
          refine ⟨upM M' 8 (n - (i + 1)) (nI (dg N i - 1)), ?_, fun a ha => (upM_row ha).trans (g1 a ha), fun j hj => ?_, fun k j hkj hj => ?_, fun j hj => ?_⟩
          · rw [if_pos (show bI false = 0 from rfl), lt1_eq, gIn_nI (by omega) (by decide), nI_clamp (by omega), lt1_eq, ← show (1 : Int32) = nI 1 from rfl, sh1 _ (by omega), fa_or]
            rfl
          · by_cases q : j = i
            · rw [q]; exact w1
            · exact g2 j (by omega)
          · by_cases q : j = i
            · rw [q]
              rw [q] at hkj
              have := anyB_f.mp e k hkj
              have h9 := g2 k hkj
              simp only [decide_eq_false_iff_not] at this
              omega
            · exact g3 k j hkj (by omega)
          · by_cases q : j = i
            · rw [q, show n - 1 - i = n - (i + 1) by omega, upM_eq]
            · rw [upM_ne (by omega)]
              exact g4 j (by omega)
        · right
          refine ⟨(-1, M'), by rw [if_neg (show ¬ bI true = 0 by decide)]; rfl, g1, Or.inl ⟨rfl, Or.inr (fun q => ?_)⟩⟩
          obtain ⟨k, hk, ek⟩ := anyB_iff.mp e
          have ek := of_decide_eq_true ek
          have h9 := g2 k hk
          exact q.2 k i hk hi (by omega)
      · have p1 : (decide (0 ≤ ((dg N i : Nat) : Int) - 1) && decide (((dg N i : Nat) : Int) - 1 < ((R 0 : Nat) : Int))) = false := by
          simp only [Bool.and_eq_false_iff, decide_eq_false_iff_not]
          omega
        right
        refine ⟨(-1, M'), by rw [p1, if_pos (show bI false = 0 from rfl)], g1, Or.inl ⟨rfl, Or.inr (fun q => w1 (q.1 i hi))⟩⟩
    · rintro M' ⟨g1, g2, g3, g4⟩
      refine ⟨(nI n, M'), ?_, g1, Or.inr ⟨rfl, by omega, ⟨g2, g3⟩, fun k hk => ?_⟩⟩
      · show f_MM_laysTold_L62 (nI n) (nI (N / 10 ^ n)) (nI (brN (fun j => dg N j - 1) n)) (nI (n - n) - 1) M' = _
        unfold f_MM_laysTold_L62
        rw [if_pos (neg_1 n)]
      · have := g4 (n - 1 - k) (by omega)
        rw [show n - 1 - (n - 1 - k) = k by omega] at this
        exact this
  · rw [if_neg w, show in18 (nI 9) = false from rfl, gF]
    exact ⟨-1, M, rfl, fun _ _ => rfl, Or.inl ⟨rfl, Or.inl (by omega)⟩⟩
theorem both_digits {R : Nat → Nat} {Mc Mm : Mem} (hV : PV R) (hP : PC R Mc 0) (hM : PM R (Mm 1)) (x5 : Int32) : ∃ c b v Mm1, f_Chain_ofDigits x5 = some c ∧ f_Play_hasMarks 0 Mc c = some b ∧ (if (1 : Int32) ≤ x5 then f_MM_laysTold Mm x5 else some ((-1 : Int32), Mm)) = some (v, Mm1) ∧ (∀ a, a ≠ 8 → Mm1 a = Mm a) ∧ ((b = false ∧ v = -1) ∨ (b = true ∧ ∃ (n : Nat) (mk : Nat → Nat), v = nI n ∧ 1 ≤ n ∧ n ≤ 8 ∧ Chn c n mk ∧ (∀ k, k < n → mk k < R 0) ∧ (∀ i j, i < j → j < n → mk i ≠ mk j) ∧ ∀ k, k < n → Mm1 8 k = nI (mk k))) := by
  have hn := pv_n hV
  have no : f_Play_hasMarks 0 Mc (-1) = some false := by
    unfold f_Play_hasMarks f_Play_hasMarks_J21
    rw [if_pos rfl]
  have low : x5 ≤ 0 → ¬ (1 : Int32) ≤ x5 := fun q => by
    rw [Int32.le_iff_toInt_le] at q ⊢
    have e0 : (0 : Int32).toInt = 0 := rfl
    have e1 : (1 : Int32).toInt = 1 := rfl
    omega
  by_cases q0 : x5 ≤ 0
  · refine ⟨-1, false, -1, Mm, ?_, no, by rw [if_neg (low q0)], fun _ _ => rfl, Or.inl ⟨rfl, rfl⟩⟩
    unfold f_Chain_ofDigits
    rw [if_pos q0]
  · obtain ⟨N, hN, rfl⟩ : ∃ N : Nat, N < 2 ^ 31 ∧ x5 = nI N := by
      rcases i32c x5 with h | h
      · exact absurd (Int32.le_of_lt h) q0
      · exact h
    have hN1 : 1 ≤ N := Nat.pos_of_ne_zero (fun z => q0 (by rw [z]; decide))
    obtain ⟨n, h1, h10, hl, hu⟩ := dg_n 10 N hN1 (by omega)
    obtain ⟨v, Mm1, t1, t2, t3⟩ := M_told hV hM hN h1 hl hu
    have e1 : (1 : Int32) ≤ nI N := (nI_leI (a := 1) (by decide) hN).mpr hN1
    rw [if_pos e1, t1]
    by_cases w : n ≤ 8
    · obtain ⟨c, c1, c2⟩ := C_digits h1 w hl hu
      rcases c2 with ⟨rfl, c3⟩ | ⟨c2, c3⟩
      · refine ⟨-1, false, v, Mm1, c1, no, rfl, t2, Or.inl ⟨rfl, ?_⟩⟩
        rcases t3 with ⟨t3, -⟩ | ⟨-, -, t4, -⟩
        · exact t3
        · exact absurd ⟨fun j hj => ⟨(t4.1 j hj).1, Nat.le_trans (t4.1 j hj).2 hn⟩, t4.2⟩ c3
      · obtain ⟨b, b1, b2⟩ := C_marks hP.1 hn c2
        refine ⟨c, b, v, Mm1, c1, b1, rfl, t2, ?_⟩
        cases b with
        | true =>
          have b3 := b2.mp rfl
          have ok : dgOK N n (R 0) := ⟨fun j hj => by
            have a1 := b3 (n - 1 - j) (by omega)
            have a2 := c3.1 j hj
            rw [show n - 1 - (n - 1 - j) = j by omega] at a1
            omega, c3.2⟩
          right
          rcases t3 with ⟨t3, t4⟩ | ⟨t3, -, t4, t5⟩
          · rcases t4 with t4 | t4
            · omega
            · exact absurd ok t4
          · refine ⟨rfl, n, fun k => dg N (n - 1 - k) - 1, t3, h1, w, c2, b3, fun i j hij hj => ?_, t5⟩
            have a1 := c3.1 (n - 1 - i) (by omega)
            have a2 := c3.1 (n - 1 - j) (by omega)
            have a3 := c3.2 (n - 1 - j) (n - 1 - i) (by omega) (by omega)
            show dg N (n - 1 - i) - 1 ≠ dg N (n - 1 - j) - 1
            omega
        | false =>
          left
          refine ⟨rfl, ?_⟩
          rcases t3 with ⟨t3, -⟩ | ⟨-, -, t4, -⟩
          · exact t3
          · refine absurd (b2.mpr (fun i hi => ?_)) (by decide)
            have a1 := t4.1 (n - 1 - i) (by omega)
            show dg N (n - 1 - i) - 1 < R 0
            omega
    · refine ⟨-1, false, v, Mm1, ?_, no, rfl, t2, Or.inl ⟨rfl, ?_⟩⟩
      · have h8 : 10 ^ 8 ≤ N := Nat.le_trans (Nat.pow_le_pow_right (by decide) (by omega)) hl
        unfold f_Chain_ofDigits
        rw [if_neg q0, show (10 : Int32) = nI 10 from rfl, pk_div hN (by decide) (by decide), show (10000000 : Int32) = nI 10000000 from rfl, if_neg (nI_nlt (by omega) (by omega))]
      · rcases t3 with ⟨t3, -⟩ | ⟨-, t4, -⟩
        · exact t3
        · exact absurd t4 w
theorem Rel.told {R : Nat → Nat} {Mc Mm Mm1 : Mem} (h : Rel Mc Mm) (hP : RelP R Mc Mm) (e : ∀ a, a ≠ 8 → Mm1 a = Mm a) : Rel Mc Mm1 ∧ RelP R Mc Mm1 := by
  refine ⟨h.ask ⟨fun a h1 h2 => e a (by omega), fun b _ _ _ => by rw [e 0 (by decide)]⟩, hP.cg (fun _ _ => rfl) (fun _ _ _ => rfl) ?_ ?_⟩
  · rw [e 1 (by decide)]; exact hP.2.2.1
  · rw [e 0 (by decide)]; exact hP.2.2.2.2.1
/-- an act that remembers and then changes the play: from the change on -/
theorem act_fin8 {R R' : Nat → Nat} {Mc Mm : Mem} (h : Rel Mc Mm) (hP0 : RelP R Mc Mm) : ∃ Mc1 Mm1, f_MC_remember Mc = some Mc1 ∧ f_MM_keepsPast Mm = some Mm1 ∧ (∀ a, a < 8 → Mc1 a = Mc a) ∧ (∀ a, a ≠ 0 → a ≠ 4 → Mm1 a = Mm a) ∧ (∀ b, b ≠ 6 → Mm1 0 b = Mm 0 b) ∧ ∀ Mc2 Mm2, (∀ a, 8 ≤ a → Mc2 a = Mc1 a) → (∀ a, a ≠ 1 → a ≠ 8 → Mm2 a = Mm1 a) → PV R' → PC R' Mc2 0 → PM R' (Mm2 1) → ∃ Mc3, f_MC_replay Mc2 = some Mc3 ∧ Rel Mc3 Mm2 ∧ ∀ a, ¬ (112 ≤ a ∧ a ≤ 123) → Mc3 a = Mc2 a := by
  obtain ⟨-, hH, hS, hT⟩ := h
  obtain ⟨hV, hP, hM, hC, h28, hk⟩ := hP0
  obtain ⟨Mc1, Mm1, r1, r2, r3, r4, r5, r6, r7⟩ := rem_sp hV hP hM hH
  refine ⟨Mc1, Mm1, r1, r2, fun a ha => r4 a (by omega) (by omega) (by omega), r6, r7, fun Mc2 Mm2 e1 e2 hV' hP' hM' => ?_⟩
  refine Rel.fin hV' hP' hM' ?_ (r3.cg (fun a _ _ => e1 a (by omega)) (by rw [e1 138 (by decide)]) (e1 139 (by decide)) (by rw [e2 0 (by decide) (by decide)]) (e2 4 (by decide) (by decide))) (hS.cg (fun a w1 w2 => (e1 a (by omega)).trans (r4 a (by omega) (by omega) (by omega))) (by rw [e1 138 (by decide), r5 7 (by decide)]) ((e1 140 (by decide)).trans (r4 140 (by omega) (by omega) (by omega))) ((e2 5 (by decide) (by decide)).trans (r6 5 (by decide) (by decide))) ((e2 6 (by decide) (by decide)).trans (r6 6 (by decide) (by decide)))) (hT.cg (by rw [e1 136 (by decide), r4 136 (by omega) (by omega) (by omega)]) ((e1 137 (by decide)).trans (r4 137 (by omega) (by omega) (by omega))) (by rw [e2 0 (by decide) (by decide), r7 8 (by decide)]) ((e2 7 (by decide) (by decide)).trans (r6 7 (by decide) (by decide))))
  rw [e2 0 (by decide) (by decide), r7 28 (by decide)]
  exact h28
def mkRc (r f t v n : Nat) (mk : Nat → Nat) : Nat → Nat := fun i => if i = 0 then r else if i = 1 then f else if i = 2 then t else if i = 3 then v else if i = 4 then n else mk (i - 5)
theorem mkRc_5 (r f t v n : Nat) (mk : Nat → Nat) (i : Nat) : mkRc r f t v n mk (5 + i) = mk i := by
  unfold mkRc
  rw [if_neg (by omega), if_neg (by omega), if_neg (by omega), if_neg (by omega), if_neg (by omega)]
  congr 1
  omega
theorem a_plan {Mc Mm : Mem} (h : Rel Mc Mm) (x1 x2 x3 x4 x5 : Int32) : Act (f_MC_plan Mc x1 x2 x3 x4 x5) (f_MM_plan Mm x1 x2 x3 x4 x5) := by
  have hrel := h
  obtain ⟨⟨R, hP0⟩, -⟩ := h
  have hP0' := hP0
  obtain ⟨hV, hP, hM, hC, h28, hk⟩ := hP0'
  have hn := pv_n hV
  have v7 := hV.2.2.2.2.2.2.2.2.1
  obtain ⟨c, b, v, Mm1, c1, c2, c3, c4, c5⟩ := both_digits hV hP hM x5
  obtain ⟨hrel1, hP1⟩ := hrel.told hP0 c4
  have hM1 : PM R (Mm1 1) := hP1.2.2.1
  have em : f_MM_plan Mm x1 x2 x3 x4 x5 = f_MM_plan_J16 Mm1 x1 x2 x3 x4 v := by
    unfold f_MM_plan
    by_cases w : (1 : Int32) ≤ x5
    · rw [if_pos w] at c3 ⊢
      rw [c3, bnd2_some]
    · rw [if_neg w] at c3 ⊢
      have c3 := Option.some.inj c3
      rw [show v = -1 from (congrArg Prod.fst c3).symm, show Mm1 = Mm from (congrArg Prod.snd c3).symm]
  rw [em]
  unfold f_MC_plan f_MM_plan_J16
  rw [c1, bnd_some, C_route hV hP.1, M_in18, M_unlike hV hM1, C_value, M_inB x4 4 3 (by decide)]
  have go : ∀ {o1 o2}, o1 = some ((-1 : Int32), Mc) → o2 = some ((-1 : Int32), Mm1) → Act o1 o2 := fun e1 e2 => ⟨-1, Mc, Mm1, e1, e2, hrel1⟩
  rcases route_cases hn x1 x2 x3 with w | ⟨r, f, t, hr1, hr, hf, ht, hft, rfl, rfl, rfl, w1, w2⟩
  · rw [w]
    refine go rfl ?_
    cases e : in18 x1
    · rfl
    · rw [e, Bool.true_and] at w
      rw [w]
      rfl
  · rw [w1, w2, Bool.true_and, gT, gT, gT]
    rcases inB_cases x4 4 with w3 | ⟨vv, hv, -, rfl, w3⟩
    · rw [w3]
      exact go rfl rfl
    · rw [w3, gT, gT, c2, bnd_some]
      rcases c5 with ⟨rfl, rfl⟩ | ⟨rfl, n, mk, rfl, n1, n8, hc, hm1, hm2, hm3⟩
      · exact go rfl rfl
      · have h17 : Mm1 1 7 = nI (R 7) := hM1.1 7 (by decide)
        rw [gT, if_neg (nI_neg1 (by omega)), hP.2.2.1, h17, show (16 : Int32) = nI 16 from rfl]
        by_cases w7 : R 7 < 16
        · rw [if_pos (nI_lt w7 (by decide)), if_neg (fun z => by have := (nI_eq (by omega) (by decide)).mp z; omega)]
          have e5 : ∀ i, mkRc r f t vv n mk (5 + i) = mk i := mkRc_5 r f t vv n mk
          have hrc : rcOK R (mkRc r f t vv n mk) := by
            refine ⟨⟨hr1, hr, hf, ht, hft⟩, hv, n1, n8, fun i hi => ?_, fun i j hij hj => ?_⟩
            · rw [e5]; exact hm1 i hi
            · rw [e5, e5]; exact hm2 i j hij hj
          obtain ⟨Mc1, Mm2, r1, r2, r3, r4, r5, r6⟩ := act_fin8 (R' := apR R (mkRc r f t vv n mk)) hrel1 hP1
          have hPc : PC R Mc1 0 := hP.cg (fun a _ q => r3 a (by omega))
          obtain ⟨Mc2, p1, p2, p3⟩ := apR_PC (rc := mkRc r f t vv n mk) (c := c) hV hPc w7 n8 (hc.congr (fun i _ => e5 i))
          have hM2 : PM R (Mm2 1) := by rw [r4 1 (by decide) (by decide)]; exact hM1
          obtain ⟨Mm3, m1, m2, m3, m4, m5, m6, m7, m8, m9, m10⟩ := M_plans (M := Mm2) (n := R 7) (r := r) (f := f) (t := t) (v := vv) (m := n) (mk := mk) w7 (hM2.1 7 (by decide)) n8 (fun i hi => by rw [r4 8 (by decide) (by decide)]; exact hm3 i hi)
          have hM3 : PM (apR R (mkRc r f t vv n mk)) (Mm3 1) := by
            refine apR_PM hV w7 n8 hM2 m3 (fun i hi => ?_) m4
            have hi : i < 5 + n := hi
            rcases (show i = 0 ∨ i = 1 ∨ i = 2 ∨ i = 3 ∨ i = 4 ∨ 5 ≤ i by omega) with rfl | rfl | rfl | rfl | rfl | q
            · exact m5
            · exact m6
            · exact m7
            · exact m8
            · exact m9
            · have := m10 (i - 5) (by omega)
              rw [← e5, show 5 + (i - 5) = i by omega, show 10 + 13 * R 7 + 5 + (i - 5) = 10 + 13 * R 7 + i by omega] at this
              exact this
          obtain ⟨Mc3, q1, q2, q3⟩ := r6 Mc2 Mm3 p2 (fun a ha _ => m2 a ha) (apR_PV hV w7 hrc) p3 hM3
          refine ⟨nI (R 7), Mc3, Mm3, ?_, ?_, q2⟩
          · have p1 : f_Play_addPlan 0 Mc1 (nI (64 * r + 8 * f + t)) (nI vv) c = some Mc2 := p1
            have e02 : Mc2 0 2 = nI (R 7 + 1) := by rw [p3.2.2.1, apR_7]
            rw [r1, bnd_some, way_of, p1, bnd_some, q1, bnd_some, q3 0 (by omega), e02, show (1 : Int32) = nI 1 from rfl, pk_sub (by omega), Nat.add_sub_cancel]
          · rw [r2, bnd_some, m1, bnd_some, m3, show (1 : Int32) = nI 1 from rfl, pk_sub (by omega), Nat.add_sub_cancel]
        · have e16 : R 7 = 16 := by omega
          rw [if_neg (nI_nlt (by omega) (by omega)), if_pos (by rw [e16])]
          exact ⟨-3, Mc, Mm1, rfl, rfl, hrel1⟩
