/-! the reference: honest parties, planned letters, reading, the run -/
theorem M_hon {r p : Nat} {R x : Nat → Nat} {P : Tab} {M : Mem} (hV : PV R) (hS : SM R x M) (hQ : RM P M) (hI : INV R r P) (hp : p < R 0) (hl : lie R p = false) (hr1 : 1 ≤ r) (hr : r ≤ 8) (hB1 : r = 1 → P 0 0 + 7 ≤ 212) (hB : 2 ≤ r → P 0 0 + 7 * fb_ct (fun c => decide (P 1 c = r - 1)) 32 ≤ 212 + 7 * fb_ct (fun c => decide (P 1 c = r - 1)) (4 * p)) : ∃ M', f_MM_sendsHonest M (nI r) (nI p) = some M' ∧ RM (sHon R (dlM R x) r p P) M' ∧ FrM M M' := by
  have hn := pv_n hV
  have hv := hV.2.1
  have h11 : M 1 1 = nI (R 1) := hS.1.1 1 (by decide)
  have h12 : M 1 2 = nI (R 2) := hS.1.1 2 (by decide)
  have hR1 : R 1 < 8 := by have := hV.1; omega
  unfold f_MM_sendsHonest sHon
  rw [if_neg (show ¬ lie R p = true by rw [hl]; decide), j1]
  by_cases e : r = 1
  · subst e
    have J35 : ∀ N, f_MM_sendsHonest_J35 N (nI 1) (nI p) = some N := fun N => by
      unfold f_MM_sendsHonest_J35 f_MM_sendsHonest_J37
      rw [bnd_id]
      unfold f_MM_sendsHonest_W37
      refine loop_inr ?_
      show f_MM_sendsHonest_L37 (nI 1) (nI p) (0 : Int32) N = _
      unfold f_MM_sendsHonest_L37
      rw [if_neg (by decide), if_pos (by decide)]
    rw [if_pos (show nI 1 = nI 1 from rfl), if_pos (show (1:Nat) = 1 from rfl), h11]
    by_cases w : p = R 1
    · subst w
      have hs : sdH R := ⟨hp, hl⟩
      have rB : ∀ a, a ≠ 8 → upM M 8 0 (nI (R 1)) a = M a := fun a ha => upM_row ha
      have tB : toldIs (upM M 8 0 (nI (R 1))) 1 (fun _ => R 1) := fun i hi => by
        rw [show i = 0 by omega, upM_eq]
        exact ⟨rfl, hR1⟩
      obtain ⟨N', p1, p2, p3⟩ := M_all (x := x) hV (hS.fr (FrM.told rB)) (hQ.told rB) hI (by have := hB1 rfl; omega) (by omega) (by omega) hp hv (by decide) (fst_ok hV hI hs) tB
      rw [if_pos rfl, if_pos rfl, lt1_eq, rB 1 (by decide), h12, p1, bnd_some, J35]
      exact ⟨N', rfl, p2, (FrM.told rB).tr p3⟩
    · rw [if_neg (fun z => w ((nI_eq (by omega) (by omega)).mp z)), if_neg w, J35]
      exact ⟨M, rfl, hQ, FrM.rf⟩
  · rw [if_neg (fun z => e ((nI_eq (by omega) (by decide)).mp z)), if_neg e]
    unfold f_MM_sendsHonest_J35 f_MM_sendsHonest_J37
    rw [bnd_id]
    exact M_rels hV hS hQ hI hp (by omega) hr (hB (by omega))
set_option maxHeartbeats 1000000 in
theorem M_hons {r : Nat} {R x : Nat → Nat} {Q : Tab} {M : Mem} (hV : PV R) (hS : SM R x M) (hQ : RM Q M) (hI : INV R r Q) (hr1 : 1 ≤ r) (hr : r ≤ 8) (hB1 : r = 1 → Q 0 0 + 7 ≤ 212) (hB : 2 ≤ r → Q 0 0 + 7 * fb_ct (fun c => decide (Q 1 c = r - 1)) 32 ≤ 212) : ∃ M', f_MM_runs_W219 (nI r) ((0 : Int32), M) = some M' ∧ RM (sHons R (dlM R x) r Q) M' ∧ FrM M M' := by
  have hn := pv_n hV
  unfold f_MM_runs_W219 sHons
  refine loop_enc (fun i s => (nI i, s)) (R 0) (fun p N => RM (itr (fun p Q => sHon R (dlM R x) r p Q) p Q) N ∧ FrM M N) _ ?_ ?_ 0 M (Nat.zero_le _) ⟨hQ, FrM.rf⟩
  · rintro p N hp ⟨h1, h2⟩
    left
    have ep : itr (fun p Q => sHon R (dlM R x) r p Q) (p + 1) Q = sHon R (dlM R x) r p (itr (fun p Q => sHon R (dlM R x) r p Q) p Q) := rfl
    obtain ⟨g1, g2, g3, g4⟩ := sHons_sp (dl := dlM R x) hV hI hr1 hr p (by omega)
    have hSN := hS.fr h2
    have h10 : N 1 0 = nI (R 0) := hSN.1.1 0 (by decide)
    have hcong : ∀ n, fb_ct (fun c => decide (itr (fun p Q => sHon R (dlM R x) r p Q) p Q 1 c = r - 1)) n = fb_ct (fun c => decide (Q 1 c = r - 1)) n := fun n => fb_ct_cong (fun c _ => by rw [(g3 c).1])
    rw [ep]
    have start : f_MM_runs_L219 (nI r) (nI p) N = if lie R p = true then some (.inl (nI (p + 1), N)) else bnd (f_MM_sendsHonest N (nI r) (nI p)) (fun M2 => some (.inl (nI (p + 1), M2))) := by
      unfold f_MM_runs_L219
      rw [h10, if_neg (nI_ge hp (by omega)), M_liar (x := x) hV hSN.1 (by omega), nI_succ]
      cases e : lie R p
      · rfl
      · rfl
    by_cases hl : lie R p = true
    · refine ⟨N, ?_, ?_, h2⟩
      · show f_MM_runs_L219 (nI r) (nI p) N = _
        rw [start, if_pos hl]
      · unfold sHon
        rw [if_pos hl]
        exact h1
    · have hl' : lie R p = false := by simpa using hl
      by_cases hs1 : r = 1 ∧ p ≠ R 1
      · -- nothing is sent
        obtain ⟨e1, e2⟩ := hs1
        subst e1
        have hR1 : R 1 < 8 := by have := hV.1; omega
        refine ⟨N, ?_, ?_, h2⟩
        · show f_MM_runs_L219 (nI 1) (nI p) N = _
          rw [start, if_neg hl]
          unfold f_MM_sendsHonest
          rw [if_pos (show nI 1 = (1:Int32) from rfl), hSN.1.1 1 (by decide), if_neg (fun z => e2 ((nI_eq (by omega) (by omega)).mp z))]
          unfold f_MM_sendsHonest_J35 f_MM_sendsHonest_J37
          rw [bnd_id]
          unfold f_MM_sendsHonest_W37
          have : loop (fun t => f_MM_sendsHonest_L37 (nI 1) (nI p) t.1 t.2) ((0 : Int32), N) = some N := by
            refine loop_inr ?_
            show f_MM_sendsHonest_L37 (nI 1) (nI p) (0 : Int32) N = _
            unfold f_MM_sendsHonest_L37
            rw [if_neg (by decide), if_pos (by decide)]
          rw [this, bnd_some]
        · unfold sHon
          rw [if_neg hl, if_pos rfl, if_neg e2]
          exact h1
      · obtain ⟨N', p1, p2, p3⟩ := M_hon hV hSN h1 g1 hp hl' hr1 hr (fun e1 => by
            have ep1 : p = R 1 := Classical.byContradiction (fun z => hs1 ⟨e1, z⟩)
            have := hB1 e1
            rw [if_pos e1, if_neg (by omega)] at g2
            omega) (fun e2 => by
            rw [hcong, hcong]
            rw [if_neg (by omega)] at g2
            have := hB e2
            omega)
        refine ⟨N', ?_, p2, h2.tr p3⟩
        show f_MM_runs_L219 (nI r) (nI p) N = _
        rw [start, if_neg hl, p1, bnd_some]
  · rintro N ⟨h1, h2⟩
    refine ⟨N, ?_, h1, h2⟩
    have h10 : N 1 0 = nI (R 0) := (hS.fr h2).1.1 0 (by decide)
    show f_MM_runs_L219 (nI r) (nI (R 0)) N = _
    unfold f_MM_runs_L219
    rw [h10, if_pos ((nI_leI (by omega) (by omega)).mpr (Nat.le_refl _))]
/-- the plans of a play -/
def plR (R : Nat → Nat) : Nat → Nat → Nat := fun l i => R (10 + 13 * l + i)
theorem plR_ok {R : Nat → Nat} (hV : PV R) : ∀ l, l < R 7 → plOK R (plR R l) := by
  intro l hl
  obtain ⟨⟨a1, a2, a3, a4, a5⟩, b1, b2, b3, b4, b5⟩ := hV.2.2.2.2.2.2.2.2.2.2.2.1 l hl
  refine ⟨a1, a2, a3, a4, b1, b2, b3, fun i hi => ?_, fun i j hij hj => ?_⟩
  · unfold plR
    rw [← Nat.add_assoc]
    exact b4 i hi
  · unfold plR
    rw [← Nat.add_assoc, ← Nat.add_assoc]
    exact b5 i j hij hj
theorem M_forged {r l : Nat} {R : Nat → Nat} {Q : Tab} {M : Mem} (hV : PV R) (hM : PM R (M 1)) (hQ : RM Q M) (hI : INV R r Q) (hl : l < R 7) (hr : r ≤ 8) : f_MM_isForged M (nI (10 + 13 * l)) (nI r) = some (anyB (fun i => decide (r < Q 3 (4 * plR R l (5 + i) + plR R l 3))) (plR R l 4)) := by
  have hn := pv_n hV
  have h7 := hV.2.2.2.2.2.2.2.2.1
  obtain ⟨p0, p0', p1, p2, p3, p4, p4', pm, pd⟩ := plR_ok hV l hl
  have hrow : ∀ i, i < 5 + plR R l 4 → M 1 (10 + 13 * l + i) = nI (plR R l i) := fun i hi => hM.2.1 l i hl hi
  unfold f_MM_isForged f_MM_isForged_J2
  rw [bnd_id]
  unfold f_MM_isForged_W2
  suffices hh : ∃ y, loop (fun t => f_MM_isForged_L2 M (nI (10 + 13 * l)) (nI r) t) (nI 0) = some y ∧ y = anyB (fun i => decide (r < Q 3 (4 * plR R l (5 + i) + plR R l 3))) (plR R l 4) by
    obtain ⟨y, g1, g2⟩ := hh
    rw [← g2, ← g1]
    rfl
  have start : ∀ i, f_MM_isForged_L2 M (nI (10 + 13 * l)) (nI r) (nI i) = if nI (plR R l 4) ≤ nI i then some (.inr false) else gIn (nI (10 + 13 * l + 5 + i)) 302 (gIn (f_MM_cell (M 1 (nI (10 + 13 * l + 5 + i)).toNatClampNeg) (nI (plR R l 3))) 32 (if (M 19 (f_MM_cell (M 1 (nI (10 + 13 * l + 5 + i)).toNatClampNeg) (nI (plR R l 3))).toNatClampNeg) ≤ nI r then some (.inl (nI (i + 1))) else some (.inr true))) := fun i => by
    unfold f_MM_isForged_L2
    rw [j4, nI_add, gIn_nI (by omega) (by decide), nI_clamp (by omega), hrow 4 (by omega), j5, nI_add, nI_add, j3, nI_add, gIn_nI (j := 10 + 13 * l + 3) (by omega) (by decide), nI_clamp (show 10 + 13 * l + 3 < 2 ^ 31 by omega), hrow 3 (by omega), ← nI_succ]
  refine loop_enc (fun i (_ : Unit) => nI i) (plR R l 4) (fun i _ => anyB (fun i => decide (r < Q 3 (4 * plR R l (5 + i) + plR R l 3))) i = false) _ ?_ ?_ 0 () (Nat.zero_le _) rfl
  · rintro i - hi h1
    have hmk := pm i hi
    have hcl : 4 * plR R l (5 + i) + plR R l 3 < 32 := by omega
    have hu := (hQ.2.2.2 _ hcl).2.2
    have hb := hI.b3 _ hcl
    have st2 : f_MM_isForged_L2 M (nI (10 + 13 * l)) (nI r) (nI i) = if Q 3 (4 * plR R l (5 + i) + plR R l 3) ≤ r then some (.inl (nI (i + 1))) else some (.inr true) := by
      rw [start, if_neg (nI_ge hi (by omega)), gIn_nI (by omega) (by decide), nI_clamp (by omega), Nat.add_assoc, hrow (5 + i) (by omega), mcell_of, gIn_nI hcl (by decide), nI_clamp (by omega), hu]
      by_cases w : Q 3 (4 * plR R l (5 + i) + plR R l 3) ≤ r
      · rw [if_pos w, if_pos ((nI_leI (by omega) (by omega)).mpr w)]
      · rw [if_neg w, if_neg (nI_ge (by omega) (by omega))]
    by_cases w : Q 3 (4 * plR R l (5 + i) + plR R l 3) ≤ r
    · left
      refine ⟨(), ?_, ?_⟩
      · show f_MM_isForged_L2 M (nI (10 + 13 * l)) (nI r) (nI i) = _
        rw [st2, if_pos w]
      · show (anyB _ i || _) = false
        rw [h1, Bool.false_or]
        simpa using w
    · right
      refine ⟨true, ?_, ?_⟩
      · show f_MM_isForged_L2 M (nI (10 + 13 * l)) (nI r) (nI i) = _
        rw [st2, if_neg w]
      · exact (anyB_iff.mpr ⟨i, hi, by simpa using w⟩).symm
  · rintro - h1
    refine ⟨false, ?_, h1.symm⟩
    show f_MM_isForged_L2 M (nI (10 + 13 * l)) (nI r) (nI (plR R l 4)) = _
    rw [start, if_pos ((nI_leI (by omega) (by omega)).mpr (Nat.le_refl _))]
theorem M_layP {l m : Nat} {M : Mem} {pl : Nat → Nat} (hl : l < 16) (hm : m ≤ 8) (hrow : ∀ i, i < 5 + m → M 1 (10 + 13 * l + i) = nI (pl i)) (h4 : pl 4 = m) : ∃ M', f_MM_sendsPlanned_W76 (nI (10 + 13 * l)) ((0 : Int32), M) = some M' ∧ (∀ a, a ≠ 8 → M' a = M a) ∧ ∀ i, i < m → M' 8 i = nI (pl (5 + i)) := by
  have start : ∀ i N, (∀ a, a ≠ 8 → N a = M a) → f_MM_sendsPlanned_L76 (nI (10 + 13 * l)) (nI i) N = if nI m ≤ nI i then some (.inr N) else gIn (nI (10 + 13 * l + 5 + i)) 302 (gIn (nI i) 8 (some (.inl (nI (i + 1), upM N 8 (nI i).toNatClampNeg (N 1 (nI (10 + 13 * l + 5 + i)).toNatClampNeg))))) := fun i N hN => by
    unfold f_MM_sendsPlanned_L76
    rw [j4, nI_add, gIn_nI (by omega) (by decide), nI_clamp (by omega), hN 1 (by decide), hrow 4 (by omega), h4, j5, nI_add, nI_add, lt1_eq, nI_succ]
  unfold f_MM_sendsPlanned_W76
  refine loop_enc (fun i s => (nI i, s)) m (fun i N => (∀ a, a ≠ 8 → N a = M a) ∧ ∀ j, j < i → N 8 j = nI (pl (5 + j))) _ ?_ ?_ 0 M (Nat.zero_le _) ⟨fun _ _ => rfl, fun j hj => absurd hj (Nat.not_lt_zero j)⟩
  · rintro i N hi ⟨h1, h2⟩
    refine Or.inl ⟨upM N 8 i (nI (pl (5 + i))), ?_, fun a ha => (upM_row ha).trans (h1 a ha), fun j hj => ?_⟩
    · show f_MM_sendsPlanned_L76 (nI (10 + 13 * l)) (nI i) N = _
      rw [start i N h1, if_neg (nI_ge hi (by omega)), gIn_nI (by omega) (by decide), gIn_nI (by omega) (by decide), nI_clamp (by omega), nI_clamp (by omega), h1 1 (by decide), Nat.add_assoc, hrow (5 + i) (by omega)]
    · by_cases e : j = i
      · subst e; exact upM_eq
      · exact (upM_ne (fun _ => e)).trans (h2 j (by omega))
  · rintro N ⟨h1, h2⟩
    refine ⟨N, ?_, h1, h2⟩
    show f_MM_sendsPlanned_L76 (nI (10 + 13 * l)) (nI m) N = _
    rw [start m N h1, if_pos ((nI_leI (by omega) (by omega)).mpr (Nat.le_refl _))]
