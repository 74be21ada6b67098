/-! both read alike, or both have found the same fault -/
def CT (M M' : Mem) : Prop := ∀ a, ¬ (8 ≤ a ∧ a < 16) → a ≠ 136 → M' a = M a
theorem CT.rf {M : Mem} : CT M M := fun _ _ _ => rfl
theorem CT.tr {M M' M'' : Mem} (h : CT M M') (h' : CT M' M'') : CT M M'' := fun a h1 h2 => (h' a h1 h2).trans (h a h1 h2)
theorem CT.of {M M' : Mem} (h : ∀ a, a ≠ 136 → M' a = M a) : CT M M' := fun a _ h2 => h a h2
def SS (tl : Nat) (B : Nat → Nat) (w i : Nat) (M N : Mem) : Prop := TC tl B i w M ∧ w < 4000 ∧ ∃ i', TM tl B i' w N ∧ (w = 0 → i' = i)
theorem SS.m {tl : Nat} {B : Nat → Nat} {i : Nat} {M N : Mem} (h : SS tl B 0 i M N) : TM tl B i 0 N := by
  obtain ⟨-, -, i', h1, h2⟩ := h
  rw [h2 rfl] at h1
  exact h1
theorem SS.cg {tl : Nat} {B : Nat → Nat} {w i : Nat} {M N M' N' : Mem} (h : SS tl B w i M N) (e : ∀ a, 136 ≤ a → M' a = M a) (e0 : N' 0 = N 0) (e7 : N' 7 = N 7) : SS tl B w i M' N' := by
  obtain ⟨h1, h2, i', h3, h4⟩ := h
  exact ⟨h1.cg e, h2, i', h3.cg e0 e7, h4⟩
theorem num_st {tl : Nat} {B : Nat → Nat} (ht : tl ≤ 400) (hB : ∀ j, j < tl → B j < 256) {w i lo hi : Nat} {M N : Mem} {xl xh : Int32} (h : SS tl B w i M N) (hlo : lo ≤ hi) (hhi : hi < 100) (hx : w = 0 → xl = nI lo ∧ xh = nI hi) : ∃ v x w' i' M' N', f_Tape_readNumber M (nI lo) (nI hi) = some (nI v, M') ∧ f_MM_number N xl xh = some (x, N') ∧ lo ≤ v ∧ v ≤ hi ∧ SS tl B w' i' M' N' ∧ (w ≠ 0 → w' = w) ∧ (w' = 0 → x = nI v ∧ i < i' ∧ ∃ s, s ≤ 400 ∧ M' 136 5 = nI s ∧ N' 0 11 = nI s) ∧ (∀ a, a ≠ 136 → M' a = M a) ∧ FrR N N' := by
  obtain ⟨h1, h2, i0, h3, h4⟩ := h
  obtain ⟨M', c1, c2, c3, c4, c5⟩ := C_num ht hB h1 h2 hhi hlo
  by_cases w0 : w = 0
  · subst w0
    obtain ⟨rfl, rfl⟩ := hx rfl
    rw [h4 rfl] at h3
    obtain ⟨x, i', N', m1, m2, m3, m4⟩ := M_num ht hB h3 hhi hlo
    obtain ⟨r1, r2, r3, -, -⟩ := nS_sp (B := B) h1.2.2.2.1
    by_cases z : nW tl B i lo hi 0 = 0
    · obtain ⟨p1, p2, p3, p4, p5, p6⟩ := m4 z
      rw [if_pos ⟨p4, p5⟩] at c1
      exact ⟨_, x, 0, nE tl B i, M', N', c1, m1, p4, p5, ⟨by rw [z] at c2; exact c2, by decide, i', by rw [z] at m2; exact m2, fun _ => p1⟩, fun q => absurd rfl q, fun _ => ⟨p2, p6, nS tl B i, by omega, c4, p3⟩, c5, m3⟩
    · refine ⟨_, x, nW tl B i lo hi 0, nE tl B i, M', N', c1, m1, ?_, ?_, ⟨c2, c3, i', m2, fun q => absurd q z⟩, fun q => absurd rfl q, fun q => absurd q z, c5, m3⟩
      · split <;> omega
      · split <;> omega
  · have e : nW tl B i lo hi w = w := if_pos w0
    rw [e] at c2
    refine ⟨_, 0, w, nE tl B i, M', N, c1, M_num_f h3 h2 w0 _ _, ?_, ?_, ⟨c2, h2, i0, h3, fun q => absurd q w0⟩, fun _ => rfl, fun q => absurd q w0, c5, FrR.rf⟩
    · split <;> omega
    · split <;> omega
theorem blame_st {tl : Nat} {B : Nat → Nat} {w i s k : Nat} {M N : Mem} (h : SS tl B w i M N) (hs : s ≤ 400) (hk : 1 ≤ k) (hk8 : k < 8) : ∃ M' N', f_Tape_blame M (nI s) (nI k) = some M' ∧ f_MM_fails N (nI k) (nI s) = some N' ∧ SS tl B (blm w s k) i M' N' ∧ M' 136 5 = M 136 5 ∧ (∀ a, a ≠ 136 → M' a = M a) ∧ (∀ a, a ≠ 0 → N' a = N a) ∧ ∀ b, b ≠ 10 → N' 0 b = N 0 b := by
  obtain ⟨h1, h2, i0, h3, h4⟩ := h
  obtain ⟨M', c1, c2, c3, c4⟩ := C_blame (p := s) (k := k) h1 h2
  obtain ⟨N', m1, m2, m3, m4⟩ := M_fails (p := s) (k := k) h3 h2 hk
  exact ⟨M', N', c1, m1, ⟨c2, blm_lt h2 hs hk8, i0, m2, fun z => absurd z (blm_ne hk)⟩, c3, c4, m3, m4⟩
theorem blame_f {tl : Nat} {B : Nat → Nat} {w i : Nat} {M : Mem} (h : TC tl B i w M) (hw : w < 4000) (h0 : w ≠ 0) (x y : Int32) : f_Tape_blame M x y = some M := by
  unfold f_Tape_blame
  rw [h.2.1, if_neg (show ¬ nI w = (0 : Int32) from fun q => h0 ((nI_eq (b := 0) (by omega) (by omega)).mp q))]
theorem fails_f {tl : Nat} {B : Nat → Nat} {w i : Nat} {N : Mem} (h : TM tl B i w N) (hw : w < 4000) (h0 : w ≠ 0) (x y : Int32) : f_MM_fails N x y = some N := by
  unfold f_MM_fails
  rw [isR_iff h.2.1 hw, decide_eq_false h0, gF]
/-- the play that the class hears is no matter; it only must not be out of bounds -/
def TW (M : Mem) : Prop := ∃ n c2 c3 c4, M 8 0 = nI n ∧ 1 ≤ n ∧ n ≤ 8 ∧ M 8 2 = nI c2 ∧ c2 ≤ 16 ∧ M 8 3 = nI c3 ∧ c3 ≤ 12 ∧ (∀ l, l < c3 → ∃ W, W < 2 ^ 31 ∧ M 13 l = nI W) ∧ M 8 4 = nI c4 ∧ c4 ≤ 12 ∧ ∀ l, l < c4 → ∃ W, W < 2 ^ 31 ∧ M 14 l = nI W
theorem TW.cg {M M' : Mem} (h : TW M) (e : ∀ a, a ≠ 136 → M' a = M a) : TW M' := by
  unfold TW at h ⊢
  rw [e 8 (by decide), e 13 (by decide), e 14 (by decide)]
  exact h
theorem TW.of {S : Nat → Nat} {M : Mem} (hV : PV S) (hP : PC S M 8) (h0 : S 0 ≠ 0) : TW M := by
  have hn := pv_n hV
  obtain ⟨v0, v2, v3, v3', v4, v5, v5', v6, v7, v8, v9, va, vb, vc, vd, ve⟩ := hV
  obtain ⟨p0, p1, p2, p3, p4, p5, p6, p7, p8⟩ := hP
  exact ⟨S 0, S 7, S 8, S 9, p0, by omega, by omega, p2, v7, p3, v8, fun l hl => ⟨_, by have := wayOK_lt hn (vb l hl); omega, p7 l hl⟩, p4, v9, fun l hl => ⟨_, by have := wayOK_lt hn (vc l hl).1; omega, (p8 l hl).1⟩⟩
/-- the class has found the fault w -/
def CF (tl : Nat) (B : Nat → Nat) (w : Nat) (M : Mem) : Prop := (∃ i, TC tl B i w M) ∧ w ≠ 0 ∧ w < 4000 ∧ TW M
theorem CF.num {tl : Nat} {B : Nat → Nat} (ht : tl ≤ 400) (hB : ∀ j, j < tl → B j < 256) {w lo hi : Nat} {M : Mem} (h : CF tl B w M) (hlo : lo ≤ hi) (hhi : hi < 100) : ∃ v M', f_Tape_readNumber M (nI lo) (nI hi) = some (nI v, M') ∧ lo ≤ v ∧ v ≤ hi ∧ CF tl B w M' ∧ ∀ a, a ≠ 136 → M' a = M a := by
  obtain ⟨⟨i, h1⟩, h2, h3, h4⟩ := h
  obtain ⟨M', c1, c2, c3, c4, c5⟩ := C_num ht hB h1 h3 hhi hlo
  have e : nW tl B i lo hi w = w := if_pos h2
  rw [e] at c2
  refine ⟨_, M', c1, ?_, ?_, ⟨⟨_, c2⟩, h2, h3, h4.cg c5⟩, c5⟩
  · split <;> omega
  · split <;> omega
theorem CF.party {tl : Nat} {B : Nat → Nat} (ht : tl ≤ 400) (hB : ∀ j, j < tl → B j < 256) {w : Nat} {M : Mem} (h : CF tl B w M) : ∃ v M', f_Tape_readParty M = some (nI v, M') ∧ v < 8 ∧ CF tl B w M' ∧ ∀ a, a ≠ 136 → M' a = M a := by
  obtain ⟨n, c2, c3, c4, p0, p1, p2, -⟩ := h.2.2.2
  obtain ⟨v, M', a1, a2, a3, a4, a5⟩ := h.num ht hB (lo := 0) (hi := n - 1) (by omega) (by omega)
  refine ⟨v, M', ?_, by omega, a4, a5⟩
  unfold f_Tape_readParty
  rw [p0, show nI n - 1 = nI (n - 1) from pk_sub (b := 1) p1, show (0 : Int32) = nI 0 from rfl, a1, bnd2_some]
theorem CF.bl {tl : Nat} {B : Nat → Nat} {w : Nat} {M : Mem} (h : CF tl B w M) (x y : Int32) : f_Tape_blame M x y = some M := by
  obtain ⟨⟨i, h1⟩, h2, h3, h4⟩ := h
  exact blame_f h1 h3 h2 x y
theorem CF.route {tl : Nat} {B : Nat → Nat} (ht : tl ≤ 400) (hB : ∀ j, j < tl → B j < 256) {w : Nat} {M : Mem} (h : CF tl B w M) : ∃ W M', f_Tape_readRoute M = some (nI W, M') ∧ W < 2 ^ 31 ∧ CF tl B w M' ∧ ∀ a, a ≠ 136 → M' a = M a := by
  obtain ⟨r, M1, a1, a2, a3, a4, a5⟩ := h.num ht hB (lo := 1) (hi := 8) (by omega) (by omega)
  obtain ⟨f, M2, b1, b2, b4, b5⟩ := a4.party ht hB
  obtain ⟨t, M3, c1, c2, c4, c5⟩ := b4.party ht hB
  refine ⟨64 * r + 8 * f + t, M3, ?_, by omega, c4, fun a ha => by rw [c5 a ha, b5 a ha, a5 a ha]⟩
  unfold f_Tape_readRoute f_Tape_readRoute_J32
  rw [show (1 : Int32) = nI 1 from rfl, show (8 : Int32) = nI 8 from rfl, a1, bnd2_some, b1, bnd2_some, c1, bnd2_some, c4.bl, bnd_some, way_of]
  split <;> rfl
theorem CF.sign {tl : Nat} {B : Nat → Nat} (ht : tl ≤ 400) (hB : ∀ j, j < tl → B j < 256) {w : Nat} {M : Mem} (h : CF tl B w M) (x : Int32) : ∃ M', f_Tape_readSign M x = some M' ∧ CF tl B w M' ∧ ∀ a, a ≠ 136 → M' a = M a := by
  obtain ⟨⟨i, h1⟩, h2, h3, h4⟩ := h
  obtain ⟨r1, r2, -, -⟩ := runN_sp (blB B) h1.2.2.2.1
  have hT := h1.to (i' := runN (blB B) tl i) r2
  have fr : ∀ a, a ≠ 136 → upM M 136 4 (nI (runN (blB B) tl i)) a = M a := fun a ha => upM_row ha
  have hC : CF tl B w (upM M 136 4 (nI (runN (blB B) tl i))) := ⟨⟨_, hT⟩, h2, h3, h4.cg fr⟩
  unfold f_Tape_readSign f_Tape_readSign_J41
  rw [C_skip ht hB h1, bnd_some, hC.bl, bnd_some, upM_eq, upM_ne (by omega), h1.1]
  by_cases z : runN (blB B) tl i < tl
  · rw [if_neg (nI_ge z (by omega)), gIn_nI (by omega) (by decide)]
    split
    · rw [lt1_eq, upM_2, ← nI_succ]
      exact ⟨_, rfl, ⟨⟨_, h1.to (by omega)⟩, h2, h3, h4.cg (fun a ha => upM_row ha)⟩, fun a ha => upM_row ha⟩
    · exact ⟨_, rfl, hC, fr⟩
  · rw [if_pos ((nI_leI (by omega) (by omega)).mpr (by omega))]
    exact ⟨_, rfl, hC, fr⟩
theorem CF.loopEnd {tl : Nat} {B : Nat → Nat} {w : Nat} {M : Mem} (h : CF tl B w M) : ¬ M 136 3 = 0 := by
  obtain ⟨⟨i, h1⟩, h2, h3, h4⟩ := h
  rw [h1.2.1]
  exact fun q => h2 ((nI_eq (b := 0) (by omega) (by omega)).mp q)
theorem SS.cf {tl : Nat} {B : Nat → Nat} {w i : Nat} {M N : Mem} (h : SS tl B w i M N) (h0 : w ≠ 0) (hT : TW M) : CF tl B w M := ⟨⟨i, h.1⟩, h0, h.2.1, hT⟩
