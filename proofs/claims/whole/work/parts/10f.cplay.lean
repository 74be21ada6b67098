/-! the class's run, whole -/
theorem fill_sp {a n : Nat} {M : Mem} {x : Int32} (hn : n < 2 ^ 31) : ∃ M', f_Arr_fill a n M x = some M' ∧ (∀ b, b ≠ a → M' b = M b) ∧ (∀ j, j < n → M' a j = x) ∧ ∀ j, n ≤ j → M' a j = M a j := by
  unfold f_Arr_fill f_Arr_fill_J5
  rw [bnd_id]
  unfold f_Arr_fill_W5
  refine loop_enc (fun i s => (nI i, s)) n (fun i N => (∀ b, b ≠ a → N b = M b) ∧ (∀ j, j < i → N a j = x) ∧ ∀ j, i ≤ j → N a j = M a j) _ ?_ ?_ 0 M (Nat.zero_le _) ⟨fun _ _ => rfl, fun j hj => absurd hj (Nat.not_lt_zero j), fun _ _ => rfl⟩
  · rintro i N hi ⟨h1, h2, h3⟩
    refine Or.inl ⟨upM N a i x, ?_, fun b hb => (upM_row hb).trans (h1 b hb), fun j hj => ?_, fun j hj => ?_⟩
    · show f_Arr_fill_L5 a n x (nI n) (nI i) N = _
      unfold f_Arr_fill_L5
      rw [if_neg (nI_ge hi hn), gIn_nI hi (by omega), nI_clamp (by omega), lt1_eq, nI_succ]
    · by_cases e : j = i
      · subst e; exact upM_eq
      · exact (upM_ne (fun _ => e)).trans (h2 j (by omega))
    · exact (upM_ne (by omega)).trans (h3 j (by omega))
  · rintro N ⟨h1, h2, h3⟩
    refine ⟨N, ?_, h1, h2, h3⟩
    show f_Arr_fill_L5 a n x (nI n) (nI n) N = _
    unfold f_Arr_fill_L5
    rw [if_pos ((nI_leI hn hn).mpr (Nat.le_refl _))]
theorem C_begin37 {k : Nat} {R : Nat → Nat} {M : Mem} (hk : 112 ≤ k) (hV : PV R) (hcs : CS R M) : ∃ M', f_Run_begin_W37 k ((0 : Int32), M) = some M' ∧ (∀ a, a ≠ k + 10 → M' a = M a) ∧ ∀ c, c < 32 → M' (k + 10) c = nI (if lie R (c / 4) = true then 0 else 99) := by
  unfold f_Run_begin_W37
  refine loop_enc (fun i s => (nI i, s)) 32 (fun i N => (∀ a, a ≠ k + 10 → N a = M a) ∧ ∀ c, c < i → N (k + 10) c = nI (if lie R (c / 4) = true then 0 else 99)) _ ?_ ?_ 0 M (Nat.zero_le _) ⟨fun _ _ => rfl, fun j hj => absurd hj (Nat.not_lt_zero j)⟩
  · rintro i N hi ⟨h1, h2⟩
    refine Or.inl ⟨upM N (k + 10) i (nI (if lie R (i / 4) = true then 0 else 99)), ?_, fun a ha => (upM_row ha).trans (h1 a ha), fun c hc => ?_⟩
    · show f_Run_begin_L37 k (nI i) N = _
      unfold f_Run_begin_L37 f_Run_begin_J67
      rw [j32, if_neg (nI_ge hi (by decide)), j4, pk_div (by omega) (by decide) (by decide), C_isLiar hV (by rw [h1 0 (by omega)]; exact hcs.1) (by rw [h1 0 (by omega)]; exact hcs.2.1) (by omega), gIn_nI hi (by decide), gIn_nI hi (by decide), nI_clamp (by omega), lt1_eq, lt1_eq, nI_succ]
      cases e : lie R (i / 4)
      · rfl
      · rfl
    · by_cases e : c = i
      · subst e; exact upM_eq
      · exact (upM_ne (fun _ => e)).trans (h2 c (by omega))
  · rintro N ⟨h1, h2⟩
    refine ⟨N, ?_, h1, h2⟩
    show f_Run_begin_L37 k (nI 32) N = _
    unfold f_Run_begin_L37
    rw [j32, if_pos ((nI_leI (by decide) (by decide)).mpr (Nat.le_refl _))]
theorem C_begin76 {k : Nat} {M : Mem} : ∃ M', f_Run_begin_W76 k ((0 : Int32), M) = some M' ∧ (∀ a, a ≠ k + 11 → M' a = M a) ∧ ∀ c, c < 8 → M' (k + 11) c = 0 := by
  unfold f_Run_begin_W76
  refine loop_enc (fun i s => (nI i, s)) 8 (fun i N => (∀ a, a ≠ k + 11 → N a = M a) ∧ ∀ c, c < i → N (k + 11) c = 0) _ ?_ ?_ 0 M (Nat.zero_le _) ⟨fun _ _ => rfl, fun j hj => absurd hj (Nat.not_lt_zero j)⟩
  · rintro i N hi ⟨h1, h2⟩
    refine Or.inl ⟨upM N (k + 11) i 0, ?_, fun a ha => (upM_row ha).trans (h1 a ha), fun c hc => ?_⟩
    · show f_Run_begin_L76 k (nI i) N = _
      unfold f_Run_begin_L76
      rw [j8, if_neg (nI_ge hi (by decide)), gIn_nI (by omega) (by decide), nI_clamp (by omega), lt1_eq, nI_succ]
    · by_cases e : c = i
      · subst e; exact upM_eq
      · exact (upM_ne (fun _ => e)).trans (h2 c (by omega))
  · rintro N ⟨h1, h2⟩
    refine ⟨N, ?_, h1, h2⟩
    show f_Run_begin_L76 k (nI 8) N = _
    unfold f_Run_begin_L76
    rw [j8, if_pos ((nI_leI (by decide) (by decide)).mpr (Nat.le_refl _))]
theorem setN_Q0 {R : Nat → Nat} {p : Nat} (hv : R 2 < 4) : setN (sQ0 R) p 0 = if R 1 < R 0 ∧ lie R (R 1) = false ∧ p = R 1 then 2 ^ R 2 else 0 := by
  have e : ∀ c, sQ0 R 1 c ≤ 0 ↔ (R 1 < R 0 ∧ lie R (R 1) = false ∧ c = 4 * R 1 + R 2) := by
    intro c
    have e1 : sQ0 R 1 c = if R 1 < R 0 ∧ lie R (R 1) = false ∧ c = 4 * R 1 + R 2 then 0 else 99 := rfl
    rw [e1]
    by_cases h : R 1 < R 0 ∧ lie R (R 1) = false ∧ c = 4 * R 1 + R 2
    · rw [if_pos h]; exact ⟨fun _ => h, fun _ => Nat.le_refl _⟩
    · rw [if_neg h]; exact ⟨fun w => by omega, fun w => absurd w h⟩
  unfold setN
  simp only [e]
  by_cases hs : R 1 < R 0 ∧ lie R (R 1) = false
  · by_cases hp : p = R 1
    · rw [if_pos (⟨hs.1, hs.2, hp⟩ : R 1 < R 0 ∧ lie R (R 1) = false ∧ p = R 1)]
      subst hp
      rcases (show R 2 = 0 ∨ R 2 = 1 ∨ R 2 = 2 ∨ R 2 = 3 by omega) with h | h | h | h <;> rw [h] <;> simp [hs.1, hs.2]
    · rw [if_neg (fun w => hp (by have := w.2.2; omega)), if_neg (fun w => hp (by have := w.2.2; omega)), if_neg (fun w => hp (by have := w.2.2; omega)), if_neg (fun w => hp (by have := w.2.2; omega)), if_neg (fun w => hp w.2.2)]
  · rw [if_neg (fun w => hs ⟨w.1, w.2.1⟩), if_neg (fun w => hs ⟨w.1, w.2.1⟩), if_neg (fun w => hs ⟨w.1, w.2.1⟩), if_neg (fun w => hs ⟨w.1, w.2.1⟩), if_neg (fun w => hs ⟨w.1, w.2.1⟩)]
set_option maxHeartbeats 1000000 in
theorem C_begin {k : Nat} {R : Nat → Nat} {M : Mem} (hk : 112 ≤ k) (hV : PV R) (hcs : CS R M) : ∃ M', f_Run_begin k M = some M' ∧ RC k 1 0 (sQ0 R) M' ∧ FrC k M M' := by
  have hn := pv_n hV
  have hv := hV.2.1
  have hR1 : R 1 < 8 := by have := hV.1; omega
  obtain ⟨A, a0, a1, a2, -⟩ := fill_sp (a := k + 7) (n := 32) (M := upM (upM M k 4 0) k 3 0) (x := 99) (by decide)
  obtain ⟨B, b0, b1, b2, -⟩ := fill_sp (a := k + 8) (n := 32) (M := A) (x := -1) (by decide)
  obtain ⟨C, c0, c1, c2, -⟩ := fill_sp (a := k + 9) (n := 32) (M := B) (x := 0) (by decide)
  have rowC : ∀ a, a ≠ k + 7 → a ≠ k + 8 → a ≠ k + 9 → a ≠ k → C a = M a := fun a h1 h2 h3 h4 => by rw [c1 a h3, b1 a h2, a1 a h1, upM_row h4, upM_row h4]
  have hcC : CS R C := by
    unfold CS
    rw [rowC 0 (by omega) (by omega) (by omega) (by omega), rowC 1 (by omega) (by omega) (by omega) (by omega)]
    exact hcs
  obtain ⟨D, d0, d1, d2⟩ := C_begin37 hk hV hcC
  obtain ⟨E, e0, e1, e2⟩ := C_begin76 (k := k) (M := D)
  have rowE : ∀ a, a ≠ k + 10 → a ≠ k + 11 → E a = C a := fun a h1 h2 => by rw [e1 a h2, d1 a h1]
  have Ek : ∀ b, E k b = upM (upM M k 4 0) k 3 0 k b := fun b => by rw [rowE k (by omega) (by omega), c1 k (by omega), b1 k (by omega), a1 k (by omega)]
  have hcE : CS R E := by
    unfold CS
    rw [rowE 0 (by omega) (by omega), rowE 1 (by omega) (by omega)]
    exact hcC
  have E7 : ∀ c, c < 32 → E (k + 7) c = 99 := fun c hc => by rw [rowE _ (by omega) (by omega), c1 _ (by omega), b1 _ (by omega), a2 c hc]
  have E8 : ∀ c, c < 32 → E (k + 8) c = -1 := fun c hc => by rw [rowE _ (by omega) (by omega), c1 _ (by omega), b2 c hc]
  have E9 : ∀ c, c < 32 → E (k + 9) c = 0 := fun c hc => by rw [rowE _ (by omega) (by omega), c2 c hc]
  have E10 : ∀ c, c < 32 → E (k + 10) c = nI (if lie R (c / 4) = true then 0 else 99) := fun c hc => by rw [e1 _ (by omega), d2 c hc]
  have frE : FrC k M E := by
    refine ⟨fun a ha => ?_, ?_, ?_, ?_⟩
    · rw [rowE a (by omega) (by omega), rowC a (by omega) (by omega) (by omega) (by omega)]
    · rw [rowE _ (by omega) (by omega), rowC _ (by omega) (by omega) (by omega) (by omega)]
    · rw [Ek, upM_ne (by omega), upM_ne (by omega)]
    · rw [Ek, upM_ne (by omega), upM_ne (by omega)]
  -- the end, with the sender's cell
  obtain ⟨N, hN⟩ : ∃ N, N = if R 1 < R 0 ∧ lie R (R 1) = false then upM (upM E (k + 7) (4 * R 1 + R 2) 0) (k + 11) (R 1) (nI (2 ^ R 2)) else E := ⟨_, rfl⟩
  have run : f_Run_begin k M = some N := by
    unfold f_Run_begin
    rw [lt1_eq, lt1_eq, a0, bnd_some, b0, bnd_some, c0, bnd_some]
    unfold f_Run_begin_J37
    rw [d0, bnd_some]
    unfold f_Run_begin_J76
    rw [e0, bnd_some, hcE.2.2.1, C_isHonest hV hcE.1 hcE.2.1 (by omega), hN]
    by_cases hs : R 1 < R 0 ∧ lie R (R 1) = false
    · rw [if_pos hs, if_neg (by rw [hs.2]; simp [hs.1, bI]), hcE.2.2.2.1, cell_of, gIn_nI (by omega) (by decide), nI_clamp (by omega), lt1_eq, gIn_nI (by omega) (by decide), nI_clamp (by omega), lt1_eq, upM_row (by omega), hcE.2.2.2.1, sh1 _ (by omega)]
    · rw [if_neg hs, if_pos]
      rw [bI_0]
      by_cases w : R 1 < R 0
      · have : lie R (R 1) = true := by
          cases e : lie R (R 1) with
          | true => rfl
          | false => exact absurd ⟨w, e⟩ hs
        simp [this]
      · simp [w]
  have rowN : ∀ a, a ≠ k + 7 → a ≠ k + 11 → N a = E a := fun a h1 h2 => by
    rw [hN]
    split
    · rw [upM_row h2, upM_row h1]
    · rfl
  have q1 : ∀ c, sQ0 R 1 c = if R 1 < R 0 ∧ lie R (R 1) = false ∧ c = 4 * R 1 + R 2 then 0 else 99 := fun _ => rfl
  refine ⟨N, run, ⟨?_, ?_, fun i hi => absurd hi (Nat.not_lt_zero i), fun c hc => ?_, fun c hc => ?_, fun q p hq hp => ?_⟩, ?_⟩
  · rw [rowN k (by omega) (by omega), Ek, upM_ne (by omega), upM_eq]
    rfl
  · rw [rowN k (by omega) (by omega), Ek, upM_eq]
    rfl
  · refine ⟨?_, fun _ => ⟨by rw [rowN _ (by omega) (by omega), E8 c hc], by rw [rowN _ (by omega) (by omega), E9 c hc]⟩, fun w => absurd rfl w⟩
    rw [q1, hN]
    by_cases hs : R 1 < R 0 ∧ lie R (R 1) = false
    · rw [if_pos hs, upM_row (by omega), upM_get]
      by_cases w : c = 4 * R 1 + R 2
      · rw [if_pos ⟨rfl, w⟩, if_pos ⟨hs.1, hs.2, w⟩]
        rfl
      · rw [if_neg (fun z => w z.2), if_neg (fun z => w z.2.2), E7 c hc]
        rfl
    · rw [if_neg hs, if_neg (fun z => hs ⟨z.1, z.2.1⟩), E7 c hc]
      rfl
  · rw [rowN _ (by omega) (by omega), E10 c hc]
    congr 1
    have e3 : sQ0 R 3 c = if lie R (c / 4) = true then 0 else 1000 := rfl
    rw [e3]
    cases lie R (c / 4) <;> rfl
  · have : q = 0 := by omega
    subst this
    rw [setN_Q0 hv, Nat.mul_zero, Nat.zero_add, hN]
    by_cases hs : R 1 < R 0 ∧ lie R (R 1) = false
    · rw [if_pos hs, upM_get]
      by_cases w : p = R 1
      · rw [if_pos ⟨rfl, w⟩, if_pos ⟨hs.1, hs.2, w⟩]
      · rw [if_neg (fun z => w z.2), if_neg (fun z => w z.2.2), upM_row (by omega), e2 p hp]
        rfl
    · rw [if_neg hs, if_neg (fun z => hs ⟨z.1, z.2.1⟩), e2 p hp]
      rfl
  · rw [hN]
    split
    · exact (frE.up _ (by omega)).up _ (by omega)
    · exact frE

theorem sPlans_fg {R : Nat → Nat} {dl : Nat → Nat → Nat → Nat} {r : Nat} {PL : Nat → Nat → Nat} {al : Nat → Bool} {Q : Tab} (h : Q 0 1 < 2 ^ 16) : ∀ n, n ≤ 16 → itr (fun l Q => sPlan R dl r l (PL l) (al l) Q) n Q 0 1 < 2 ^ 16 := by
  intro n
  induction n with
  | zero => intro _; exact h
  | succ n ih =>
    intro hn
    have h1 := ih (by omega)
    have es : itr (fun l Q => sPlan R dl r l (PL l) (al l) Q) (n + 1) Q = sPlan R dl r n (PL n) (al n) (itr (fun l Q => sPlan R dl r l (PL l) (al l) Q) n Q) := rfl
    rw [es]
    generalize itr (fun l Q => sPlan R dl r l (PL l) (al l) Q) n Q = T at h1
    unfold sPlan
    split
    · split
      · rw [upN_eq]
        exact Nat.or_lt_two_pow h1 (Nat.pow_lt_pow_right (by decide) (by omega))
      · rw [sSend_0]
        exact h1
    · exact h1
theorem setN_cong2 {Q Q' : Tab} {p q q' : Nat} (h : ∀ o, o < 4 → (Q' 1 (4 * p + o) ≤ q' ↔ Q 1 (4 * p + o) ≤ q)) : setN Q' p q' = setN Q p q := by
  unfold setN
  have h0 := h 0 (by decide)
  rw [Nat.add_zero] at h0
  simp only [h0, h 1 (by decide), h 2 (by decide), h 3 (by decide)]
theorem RC.mvr {k r sr : Nat} {Q : Tab} {M : Mem} (h : RC k r sr Q M) (hn : ∀ c, c < 32 → Q 1 c ≠ sr + 1) (hsr : sr < 8) : RC k r (sr + 1) Q (cpM M (k + 11) (k + 11) (8 * sr) (8 * (sr + 1)) 8) := by
  obtain ⟨h1, h2, h3, h4, h5, h6⟩ := h
  have row : ∀ a, a ≠ k + 11 → cpM M (k + 11) (k + 11) (8 * sr) (8 * (sr + 1)) 8 a = M a := fun a ha => cpM_row ha
  unfold RC RCl RCc
  simp (disch := omega) only [row]
  refine ⟨h1, h2, h3, h4, h5, fun q p hq hp => ?_⟩
  rw [cpM_get]
  by_cases e : q = sr + 1
  · subst e
    rw [if_pos ⟨rfl, by omega, by omega⟩, show 8 * sr + (8 * (sr + 1) + p - 8 * (sr + 1)) = 8 * sr + p by omega, h6 sr p (Nat.le_refl _) hp]
    congr 1
    refine (setN_cong2 (fun o ho => ?_)).symm
    have := hn (4 * p + o) (by omega)
    omega
  · rw [if_neg (by omega), h6 q p (by omega) hp]
set_option maxHeartbeats 1000000 in
/-- one round of the class's run -/
theorem C_round {k r np : Nat} {R : Nat → Nat} {dl : Nat → Nat → Nat → Nat} {Q : Tab} {M : Mem} {PL : Nat → Nat → Nat} {al : Nat → Bool} (hk : 112 ≤ k) (hV : PV R) (hcs : CS R M) (hS : SC k R dl M) (hP : CP k np PL al M) (hC : RC k (r + 1) r Q M) (hI : INV R r Q) (hct : CNT R np PL r Q) (hok : ∀ l, l < np → plOK R (PL l)) (hr : r < 8) (hfg : Q 0 1 < 2 ^ 16) : ∃ M', (if nI (r + 1) = (1 : Int32) then bnd (f_Run_sendFirst k M) (fun M13 => f_Run_play_J37 k M13 (nI (r + 1))) else bnd (f_Run_relayAll k M (nI (r + 1))) (fun M11 => f_Run_play_J37 k M11 (nI (r + 1)))) = some (.inl (nI (r + 1 + 1), M')) ∧ RC k (r + 1 + 1) (r + 1) (sRnd R dl np PL al (r + 1) Q) M' ∧ FrC k M M' ∧ sRnd R dl np PL al (r + 1) Q 0 1 < 2 ^ 16 := by
  obtain ⟨s1, s2, s3, s4, s5, s6, s7, s8, s9, s10⟩ := rnd_sp (dl := dl) (al := al) hV hI hct hP.2.1 hok hr
  have hI1 := hI.mono (show r ≤ r + 1 by omega)
  -- the honest ones
  obtain ⟨A, a1, a2, a3⟩ : ∃ A, (if nI (r + 1) = (1 : Int32) then bnd (f_Run_sendFirst k M) (fun M13 => f_Run_play_J37 k M13 (nI (r + 1))) else bnd (f_Run_relayAll k M (nI (r + 1))) (fun M11 => f_Run_play_J37 k M11 (nI (r + 1)))) = f_Run_play_J37 k A (nI (r + 1)) ∧ RC k (r + 1) r (sHons R dl (r + 1) Q) A ∧ FrC k M A := by
    by_cases e : r + 1 = 1
    · have : r = 0 := by omega
      subst this
      obtain ⟨A, a1, a2, a3⟩ := C_sendFirst hk hV hcs hS hC hI1 (s1 rfl)
      exact ⟨A, by rw [if_pos (show nI (0 + 1) = (1 : Int32) from rfl), a1, bnd_some], a2, a3⟩
    · obtain ⟨A, a1, a2, a3⟩ := C_relayAll hk hV hcs hS hC hI1 (by omega) (by omega) (s2 (by omega))
      exact ⟨A, by rw [j1, if_neg (fun w => e ((nI_eq (by omega) (by decide)).mp w)), a1, bnd_some], a2, a3⟩
  obtain ⟨B, b1, b2, b3, b4⟩ := C_sendPlans hk hV (hcs.fr hk a3) (hS.fr a3) (hP.fr hk a3) a2 s4 hok (by omega) (by omega) (by rw [s10]; exact hfg) s3
  have h99 : ∀ c, c < 32 → sPlans R dl np PL al (r + 1) (sHons R dl (r + 1) Q) 1 c ≠ r + 1 := fun c hc => by
    rw [s9]
    have := (hI.2.1 c hc).2.2.2.1
    omega
  have hmv := b2.mvr h99 (by omega)
  have frB : FrC k B (cpM B (k + 11) (k + 11) (8 * r) (8 * (r + 1)) 8) := ⟨fun a ha => cpM_row (by omega), cpM_row (by omega), by rw [cpM_row (by omega)], by rw [cpM_row (by omega)]⟩
  obtain ⟨C, c1, c2, c3⟩ := C_readAll hk hV ((hcs.fr hk a3).fr hk (b3.tr frB)) hmv s5 (by omega) (by omega) s7
  refine ⟨C, ?_, c2, a3.tr (b3.tr (frB.tr c3)), ?_⟩
  · rw [a1]
    unfold f_Run_play_J37 f_Run_rowOf
    rw [b1, bnd_some, j1, pk_sub (by omega), j8, pk_mul, pk_mul, gIn_nI (by omega) (by decide), gIn_nI (by omega) (by decide), nI_clamp (by omega), nI_clamp (by omega), gLt_of (by omega), gLt_of (by omega), lt1_eq, show (r + 1 - 1) * 8 = 8 * r by omega, show (r + 1) * 8 = 8 * (r + 1) by omega, c1, bnd_some, nI_add]
  · obtain ⟨-, m2, -⟩ := sRds_sp hV s5 (by omega) (by omega) (sPlans R dl np PL al (r + 1) (sHons R dl (r + 1) Q) 0 0) (Nat.le_refl _)
    show itr (fun k Q => sRd R (r + 1) k Q) (sPlans R dl np PL al (r + 1) (sHons R dl (r + 1) Q) 0 0) (sPlans R dl np PL al (r + 1) (sHons R dl (r + 1) Q)) 0 1 < _
    rw [m2]
    exact b4
/-- THE CLASS'S RUN -/
theorem C_play {k np : Nat} {R : Nat → Nat} {dl : Nat → Nat → Nat → Nat} {M : Mem} {PL : Nat → Nat → Nat} {al : Nat → Bool} (hk : 112 ≤ k) (hV : PV R) (hcs : CS R M) (hS : SC k R dl M) (hP : CP k np PL al M) (hok : ∀ l, l < np → plOK R (PL l)) : ∃ M', f_Run_play k M = some M' ∧ RC k (R 3 + 1) (R 3) (sRun R dl np PL al (R 3)) M' ∧ FrC k M M' := by
  have hR3 := hV.2.2.2.1
  obtain ⟨A, a1, a2, a3⟩ := C_begin hk hV hcs
  unfold f_Run_play
  rw [a1, bnd_some]
  unfold f_Run_play_J6
  rw [bnd_id]
  unfold f_Run_play_W6
  refine loop_enc (fun i s => (nI (i + 1), s)) (R 3) (fun i N => RC k (i + 1) i (sRun R dl np PL al i) N ∧ FrC k M N ∧ sRun R dl np PL al i 0 1 < 2 ^ 16) (fun M' => RC k (R 3 + 1) (R 3) (sRun R dl np PL al (R 3)) M' ∧ FrC k M M') ?_ ?_ 0 A (Nat.zero_le _) ⟨a2, a3, show (0 : Nat) < 2 ^ 16 by decide⟩
  · rintro i N hi ⟨h1, h2, h3⟩
    left
    obtain ⟨g1, g2⟩ := run_sp (dl := dl) (al := al) hV hP.2.1 hok i (by omega)
    obtain ⟨N', p1, p2, p3, p4⟩ := C_round hk hV (hcs.fr hk h2) (hS.fr h2) (hP.fr hk h2) h1 g1 g2 hok (by omega) h3
    refine ⟨N', ?_, p2, h2.tr p3, p4⟩
    show f_Run_play_L6 k (nI (i + 1)) N = _
    unfold f_Run_play_L6
    rw [(hS.fr h2).1, if_neg (nI_nlt (by omega) (by omega)), j8, if_neg (nI_nlt (by omega) (by omega))]
    exact p1
  · rintro N ⟨h1, h2, h3⟩
    refine ⟨N, ?_, h1, h2⟩
    show f_Run_play_L6 k (nI (R 3 + 1)) N = _
    unfold f_Run_play_L6
    rw [(hS.fr h2).1, if_pos (nI_lt (by omega) (by omega))]
