theorem C_hasNumber {tl : Nat} {B : Nat → Nat} (ht : tl ≤ 400) (hB : ∀ j, j < tl → B j < 256) {i w : Nat} {M : Mem} (h : TC tl B i w M) : f_Tape_hasNumber M = some (hdB tl B (nS tl B i), upM M 136 4 (nI (nS tl B i))) := by
  obtain ⟨r1, r2, r3, -, -⟩ := nS_sp (B := B) h.2.2.2.1
  have hs : f_Tape_skipBlanks M = some (upM M 136 4 (nI (nS tl B i))) := C_skip ht hB h
  unfold f_Tape_hasNumber f_Tape_hasNumber_J34 hdB
  rw [hs, bnd_some, upM_eq, upM_ne (by omega), h.1]
  by_cases z : nS tl B i < tl
  · rw [if_neg (nI_ge z (by omega)), gIn_nI (by omega) (by decide), nI_clamp (by omega), upM_row (by decide), h.2.2.2.2 _ z, C_isDigit (hB _ z), decide_eq_true z, Bool.true_and]
    cases dgB B (nS tl B i) <;> rfl
  · rw [if_pos ((nI_leI (by omega) (by omega)).mpr (by omega)), decide_eq_false z, Bool.false_and]
theorem tr_0 (x : Int32) : x + f_MM_truth (bI false) = x := by
  show x + 0 = x
  exact Int32.add_zero x
/-- a sign is read -/
theorem sign_st {tl : Nat} {B : Nat → Nat} (ht : tl ≤ 400) (hB : ∀ j, j < tl → B j < 256) {w i c : Nat} {M N : Mem} (h : SS tl B w i M N) (hc : c < 256) : ∃ w' i' M' N1, f_Tape_readSign M (nI c) = some M' ∧ (∀ K : Mem → Option Mem, (if bI (f_MM_isRight N) = 0 then K N else bnd2 (f_MM_next N) (fun y N1 => if y = nI c then K N1 else bnd (f_MM_fails N1 1 (N1 0 9)) (fun N2 => K N2))) = K N1) ∧ SS tl B w' i' M' (upM N1 0 9 (N1 0 9 + f_MM_truth (bI (f_MM_isRight N1)))) ∧ (w ≠ 0 → w' = w) ∧ (w' = 0 → i < i') ∧ (∀ a, a ≠ 136 → M' a = M a) ∧ FrR N N1 := by
  have h0 := h
  obtain ⟨h1, h2, i0, h3, h4⟩ := h
  obtain ⟨r1, r2, r3, -, -⟩ := nS_sp (B := B) h1.2.2.2.1
  have hs : f_Tape_skipBlanks M = some (upM M 136 4 (nI (nS tl B i))) := C_skip ht hB h1
  have hT := h1.to (i' := nS tl B i) (by omega)
  have fr : ∀ a, a ≠ 136 → upM M 136 4 (nI (nS tl B i)) a = M a := fun a ha => upM_row ha
  have cls : f_Tape_readSign M (nI c) = if nS tl B i < tl ∧ B (nS tl B i) = c then some (upM M 136 4 (nI (nS tl B i + 1))) else bnd (f_Tape_blame (upM M 136 4 (nI (nS tl B i))) (nI (nS tl B i)) 1) (fun M2 => some M2) := by
    unfold f_Tape_readSign f_Tape_readSign_J41
    rw [hs, bnd_some, upM_eq, upM_ne (by omega), h1.1]
    by_cases z : nS tl B i < tl
    · have hb := hB _ z
      rw [if_neg (nI_ge z (by omega)), gIn_nI (by omega) (by decide), nI_clamp (by omega), upM_row (by decide), h1.2.2.2.2 _ z]
      by_cases y : B (nS tl B i) = c
      · rw [if_pos (by rw [y]), if_pos ⟨z, y⟩, lt1_eq, upM_2, ← nI_succ]
      · rw [if_neg (fun q => y ((nI_eq (by omega) (by omega)).mp q)), if_neg (fun q => y q.2)]
    · rw [if_pos ((nI_leI (by omega) (by omega)).mpr (by omega)), if_neg (fun q => z q.1)]
  by_cases w0 : w = 0
  · subst w0
    have h3' : TM tl B i 0 N := h0.m
    have hn : f_MM_next N = some (sgI tl B (nS tl B i), upM N 0 9 (nI (nS tl B i))) := M_next ht hB h3'
    have hTN := h3'.to (i' := nS tl B i) (by omega)
    rw [cls, isR_iff h3'.2.1 (by decide), decide_eq_true rfl, hn]
    by_cases y : nS tl B i < tl ∧ B (nS tl B i) = c
    · rw [if_pos y]
      have ey : sgI tl B (nS tl B i) = nI c := by
        unfold sgI
        rw [if_pos y.1, y.2]
      refine ⟨0, nS tl B i + 1, _, upM N 0 9 (nI (nS tl B i)), rfl, fun K => by rw [gT, bnd2_some, if_pos ey], ?_, fun q => absurd rfl q, fun _ => by omega, fun a ha => upM_row ha, FrR.up _ (Or.inl rfl)⟩
      rw [isR_iff hTN.2.1 (by decide), decide_eq_true rfl, upM_eq, upM_2, show nI (nS tl B i) + f_MM_truth (bI true) = nI (nS tl B i + 1) from nI_add _ 1]
      exact ⟨h1.to (by omega), by decide, _, h3'.to (by omega), fun _ => rfl⟩
    · rw [if_neg y]
      have ey : ¬ sgI tl B (nS tl B i) = nI c := fun q => by
        unfold sgI at q
        by_cases z : nS tl B i < tl
        · rw [if_pos z] at q
          have hb := hB _ z
          exact y ⟨z, (nI_eq (by omega) (by omega)).mp q⟩
        · rw [if_neg z] at q
          exact nI_neg1 (by omega) q.symm
      have hSS : SS tl B 0 (nS tl B i) (upM M 136 4 (nI (nS tl B i))) (upM N 0 9 (nI (nS tl B i))) := ⟨hT, by decide, _, hTN, fun _ => rfl⟩
      obtain ⟨M4, N4, d1, d2, d3, d4, d5, d6, d7⟩ := blame_st (s := nS tl B i) (k := 1) hSS (by omega) (by decide) (by decide)
      have d1 : f_Tape_blame (upM M 136 4 (nI (nS tl B i))) (nI (nS tl B i)) 1 = some M4 := d1
      have d2 : f_MM_fails (upM N 0 9 (nI (nS tl B i))) 1 (nI (nS tl B i)) = some N4 := d2
      have d3c := d3
      obtain ⟨-, g2, g3, g4, -⟩ := d3c
      refine ⟨blm 0 (nS tl B i) 1, nS tl B i, M4, N4, by rw [d1, bnd_some], fun K => by rw [gT, bnd2_some, if_neg ey, upM_eq, d2, bnd_some], ?_, fun q => absurd rfl q, fun q => absurd q (blm_ne (by decide)), fun a ha => (d5 a ha).trans (fr a ha), (FrR.up _ (Or.inl rfl)).tr ⟨d6, fun b _ q _ => d7 b q⟩⟩
      rw [isR_iff g4.2.1 g2, decide_eq_false (blm_ne (by decide)), tr_0, upM_self rfl]
      exact d3
  · rw [cls, isR_iff h3.2.1 h2, decide_eq_false w0]
    rw [blame_f hT h2 w0, bnd_some]
    by_cases y : nS tl B i < tl ∧ B (nS tl B i) = c
    · rw [if_pos y]
      refine ⟨w, nS tl B i + 1, _, N, rfl, fun K => by rw [gF], ?_, fun _ => rfl, fun q => absurd q w0, fun a ha => upM_row ha, FrR.rf⟩
      rw [isR_iff h3.2.1 h2, decide_eq_false w0, tr_0, upM_self rfl]
      exact ⟨h1.to (by omega), h2, i0, h3, fun q => absurd q w0⟩
    · rw [if_neg y]
      refine ⟨w, nS tl B i, _, N, rfl, fun K => by rw [gF], ?_, fun _ => rfl, fun q => absurd q w0, fr, FrR.rf⟩
      rw [isR_iff h3.2.1 h2, decide_eq_false w0, tr_0, upM_self rfl]
      exact ⟨hT, h2, i0, h3, fun q => absurd q w0⟩
/-- is a mark there twice? (the reference) -/
theorem M_dup {tl : Nat} {B : Nat → Nat} {i q k v s : Nat} {mk : Nat → Nat} {N N' : Mem} (h : TM tl B i 0 N) (hq : q + 13 ≤ 302) (hk : k ≤ 8) (hv : v < 8) (h4 : N 2 (q + 4) = nI k) (h5 : ∀ j, j < k → mk j < 8 ∧ N 2 (q + 5 + j) = nI (mk j)) (h11 : N 0 11 = nI s) (hf : f_MM_fails N 2 (nI s) = some N') (hN' : ∃ w i', w ≠ 0 ∧ w < 4000 ∧ TM tl B i' w N') (hr : ∀ a, a ≠ 0 → N' a = N a) : f_MM_readsLetter_W117 (nI q) (nI v) ((0 : Int32), N) = some (if anyB (fun j => decide (mk j = v)) k = true then N' else N) := by
  obtain ⟨w', i', w0, w4, hTN⟩ := hN'
  unfold f_MM_readsLetter_W117
  suffices hh : ∃ r, loop (fun t => f_MM_readsLetter_L117 (nI q) (nI v) t.1 t.2) ((fun (j : Nat) (s : Bool) => (nI j, if s = true then N' else N)) 0 false) = some r ∧ r = (if anyB (fun j => decide (mk j = v)) k = true then N' else N) by
    obtain ⟨r, e1, e2⟩ := hh
    rw [← e2]
    exact e1
  have g4 : ∀ {α : Type} (a : Option α), gIn (nI q + 4) 302 a = a := fun a => by rw [j4, nI_add]; exact gIn_nI (by omega) (by decide)
  have c4 : (nI q + 4).toNatClampNeg = q + 4 := by rw [j4, nI_add, nI_clamp (by omega)]
  refine loop_enc (fun j s => (nI j, if s = true then N' else N)) k (fun j s => (s = true → ∃ m, m < j ∧ mk m = v) ∧ (s = false → ∀ m, m < j → mk m ≠ v)) _ ?_ ?_ 0 false (Nat.zero_le _) ⟨fun z => (by cases z), fun _ m hm => absurd hm (Nat.not_lt_zero m)⟩
  · rintro j b hj ⟨g1, g2⟩
    cases b with
    | true =>
      right
      refine ⟨N', ?_, ?_⟩
      · show f_MM_readsLetter_L117 (nI q) (nI v) (nI j) N' = _
        unfold f_MM_readsLetter_L117
        rw [g4, c4, hr 2 (by decide), h4, if_neg (nI_ge hj (by omega)), isR_iff hTN.2.1 w4, decide_eq_false w0, gF]
      · obtain ⟨m, m1, m2⟩ := g1 rfl
        rw [if_pos (anyB_iff.mpr ⟨m, by omega, decide_eq_true m2⟩)]
    | false =>
      left
      obtain ⟨p1, p2⟩ := h5 j hj
      have g5 : ∀ {α : Type} (a : Option α), gIn (nI q + 5 + nI j) 302 a = a := fun a => by rw [j5, nI_add, nI_add]; exact gIn_nI (by omega) (by decide)
      have c5 : (nI q + 5 + nI j).toNatClampNeg = q + 5 + j := by rw [j5, nI_add, nI_add, nI_clamp (by omega)]
      have st : f_MM_readsLetter_L117 (nI q) (nI v) (nI j) N = if nI (mk j) = nI v then some (.inl (nI (j + 1), N')) else some (.inl (nI (j + 1), N)) := by
        unfold f_MM_readsLetter_L117
        rw [g4, c4, h4, if_neg (nI_ge hj (by omega)), isR_iff h.2.1 (by decide), decide_eq_true rfl, gT, g5, c5, p2, h11, hf, bnd_some, ← nI_succ]
      by_cases e : mk j = v
      · refine ⟨true, ?_, fun _ => ⟨j, by omega, e⟩, fun z => (by cases z)⟩
        show f_MM_readsLetter_L117 (nI q) (nI v) (nI j) N = _
        rw [st, if_pos (by rw [e])]
        rfl
      · refine ⟨false, ?_, fun z => (by cases z), fun _ m hm => ?_⟩
        · show f_MM_readsLetter_L117 (nI q) (nI v) (nI j) N = _
          rw [st, if_neg (fun z => e ((nI_eq (by omega) (by omega)).mp z))]
          rfl
        · by_cases e2 : m = j
          · rw [e2]; exact e
          · exact g2 rfl m (by omega)
  · rintro b ⟨g1, g2⟩
    have ex : ∀ X : Mem, X 2 (q + 4) = nI k → f_MM_readsLetter_L117 (nI q) (nI v) (nI k) X = some (.inr X) := fun X hX => by
      unfold f_MM_readsLetter_L117
      rw [g4, c4, hX, if_pos ((nI_leI (by omega) (by omega)).mpr (Nat.le_refl _))]
    cases b with
    | true =>
      refine ⟨N', ex N' (by rw [hr 2 (by decide)]; exact h4), ?_⟩
      obtain ⟨m, m1, m2⟩ := g1 rfl
      rw [if_pos (anyB_iff.mpr ⟨m, m1, decide_eq_true m2⟩)]
    | false =>
      refine ⟨N, ex N h4, ?_⟩
      rw [if_neg (fun z => ?_)]
      obtain ⟨m, m1, m2⟩ := anyB_iff.mp z
      exact g2 rfl m m1 (of_decide_eq_true m2)
