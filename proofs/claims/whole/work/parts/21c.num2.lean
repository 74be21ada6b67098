def vcN (B : Nat → Nat) (cap s : Nat) : Nat → Nat
  | 0 => 0
  | k + 1 => min (10 * vcN B cap s k + (B (s + k) - 48)) cap
theorem vc_le (B : Nat → Nat) (cap s : Nat) : ∀ k, vcN B cap s k ≤ cap := by
  intro k
  cases k with
  | zero => exact Nat.zero_le _
  | succ k => exact Nat.min_le_right _ _
theorem vc_rel (B : Nat → Nat) (s : Nat) : ∀ k, vcN B 100 s k = min (vcN B 1000 s k) 100 := by
  intro k
  induction k with
  | zero => rfl
  | succ k ih =>
    show min (10 * vcN B 100 s k + (B (s + k) - 48)) 100 = min (min (10 * vcN B 1000 s k + (B (s + k) - 48)) 1000) 100
    rw [ih]
    omega
def blm (w p k : Nat) : Nat := if w = 0 then 8 * p + k else w
theorem blm_ne {w p k : Nat} (hk : 1 ≤ k) : blm w p k ≠ 0 := by
  unfold blm
  split <;> omega
theorem blm_lt {w p k : Nat} (hw : w < 4000) (hp : p ≤ 400) (hk : k < 8) : blm w p k < 4000 := by
  unfold blm
  split <;> omega
theorem C_blame {tl : Nat} {B : Nat → Nat} {i w p k : Nat} {M : Mem} (h : TC tl B i w M) (hw : w < 4000) : ∃ M', f_Tape_blame M (nI p) (nI k) = some M' ∧ TC tl B i (blm w p k) M' ∧ M' 136 5 = M 136 5 ∧ ∀ a, a ≠ 136 → M' a = M a := by
  have h0 := h
  obtain ⟨h1, h2, h3, h4, h5⟩ := h
  unfold f_Tape_blame blm
  rw [h2]
  by_cases z : w = 0
  · rw [if_pos (by rw [z]; rfl), if_pos z, lt1_eq, j8, pk_mul, nI_add]
    exact ⟨_, rfl, ⟨(upM_ne (by omega)).trans h1, upM_eq, (upM_ne (by omega)).trans h3, h4, fun j hj => by rw [upM_row (by decide)]; exact h5 j hj⟩, upM_ne (by omega), fun a ha => upM_row ha⟩
  · rw [if_neg (show ¬ nI w = (0 : Int32) from fun q => z ((nI_eq (b := 0) (by omega) (by omega)).mp q)), if_neg z]
    exact ⟨M, rfl, h0, rfl, fun _ _ => rfl⟩
theorem C_isDigit {B : Nat → Nat} {j : Nat} (hb : B j < 256) : f_Tape_isDigit (nI (B j)) = dgB B j := by
  unfold f_Tape_isDigit f_Tape_isDigit_J16 dgB
  by_cases c : B j < 48
  · rw [if_pos (show nI (B j) < 48 from nI_lt (b := 48) c (by decide)), decide_eq_false (by omega)]
  · rw [if_neg (show ¬ nI (B j) < 48 from nI_nlt (b := 48) (by omega) (by omega))]
    by_cases c2 : 57 < B j
    · rw [if_pos (show (57 : Int32) < nI (B j) from nI_lt (a := 57) c2 (by omega)), decide_eq_false (by omega)]
    · rw [if_neg (show ¬ (57 : Int32) < nI (B j) from nI_nlt (a := 57) (by omega) (by omega)), decide_eq_true (by omega)]
def nS (tl : Nat) (B : Nat → Nat) (i : Nat) : Nat := runN (blB B) tl i
def nE (tl : Nat) (B : Nat → Nat) (i : Nat) : Nat := runN (dgB B) tl (nS tl B i)
def nV (tl : Nat) (B : Nat → Nat) (i : Nat) : Nat := vcN B 100 (nS tl B i) (nE tl B i - nS tl B i)
def nW (tl : Nat) (B : Nat → Nat) (i lo hi w : Nat) : Nat := if w ≠ 0 then w else if nE tl B i = nS tl B i then 8 * nS tl B i + 1 else if lo ≤ nV tl B i ∧ nV tl B i ≤ hi then 0 else 8 * nS tl B i + 2
theorem nS_sp {tl : Nat} {B : Nat → Nat} {i : Nat} (h : i ≤ tl) : i ≤ nS tl B i ∧ nS tl B i ≤ nE tl B i ∧ nE tl B i ≤ tl ∧ (nE tl B i = nS tl B i ↔ hdB tl B (nS tl B i) = false) ∧ ∀ j, nS tl B i ≤ j → j < nE tl B i → dgB B j = true := by
  obtain ⟨h1, h2, h3, h4⟩ := runN_sp (blB B) h
  obtain ⟨q1, q2, q3, q4⟩ := runN_sp (dgB B) h2
  refine ⟨h1, q1, q2, ⟨fun z => ?_, fun z => ?_⟩, q3⟩
  · unfold hdB
    by_cases c : nS tl B i < tl
    · have z : runN (dgB B) tl (runN (blB B) tl i) = nS tl B i := z
      have := q4 (by rw [z]; exact c)
      rw [z] at this
      rw [this, Bool.and_false]
    · rw [decide_eq_false c, Bool.false_and]
  · refine runN_0 h2 (fun c => ?_)
    unfold hdB at z
    rw [decide_eq_true (show nS tl B i < tl from c), Bool.true_and] at z
    exact z
theorem C_num {tl : Nat} {B : Nat → Nat} (ht : tl ≤ 400) (hB : ∀ j, j < tl → B j < 256) {i w lo hi : Nat} {M : Mem} (h : TC tl B i w M) (hw : w < 4000) (hhi : hi < 100) (hlo : lo ≤ hi) : ∃ M', f_Tape_readNumber M (nI lo) (nI hi) = some (nI (if lo ≤ nV tl B i ∧ nV tl B i ≤ hi then nV tl B i else lo), M') ∧ TC tl B (nE tl B i) (nW tl B i lo hi w) M' ∧ nW tl B i lo hi w < 4000 ∧ M' 136 5 = nI (nS tl B i) ∧ ∀ a, a ≠ 136 → M' a = M a := by
  obtain ⟨r1, r2, r3, r4, r5⟩ := nS_sp (B := B) h.2.2.2.1
  have hs := C_skip ht hB h
  have hV := vc_le B 100 (nS tl B i) (nE tl B i - nS tl B i)
  have hs : f_Tape_skipBlanks M = some (upM M 136 4 (nI (nS tl B i))) := hs
  have eE : nE tl B i = runN (dgB B) tl (nS tl B i) := rfl
  have eV : nV tl B i = vcN B 100 (nS tl B i) (nE tl B i - nS tl B i) := rfl
  unfold nW
  generalize nV tl B i = v at *
  generalize nE tl B i = e at *
  generalize nS tl B i = s at *
  have hA := h.to (i' := s) (by omega)
  -- from J39 on
  have go : ∀ A w', TC tl B s w' A → w' < 4000 → (∀ a, a ≠ 136 → A a = M a) → (w' = if w ≠ 0 then w else if e = s then 8 * s + 1 else 0) → ∃ M', f_Tape_readNumber_J39 A (nI lo) (nI hi) = some (nI (if lo ≤ v ∧ v ≤ hi then v else lo), M') ∧ TC tl B e (if w ≠ 0 then w else if e = s then 8 * s + 1 else if lo ≤ v ∧ v ≤ hi then 0 else 8 * s + 2) M' ∧ (if w ≠ 0 then w else if e = s then 8 * s + 1 else if lo ≤ v ∧ v ≤ hi then 0 else 8 * s + 2) < 4000 ∧ M' 136 5 = nI s ∧ ∀ a, a ≠ 136 → M' a = M a := by
    intro A w' hT hw' hfr ew
    obtain ⟨D, hD⟩ : ∃ D, D = upM A 136 5 (nI s) := ⟨_, rfl⟩
    have hTD : TC tl B s w' D := by rw [hD]; exact hT.bg _
    have hTD0 := hTD
    obtain ⟨t1, t2, t3, t4, t5⟩ := hTD
    have lp := run_loop (body := fun t => f_Tape_readNumber_L49 t.1 t.2) (dgB B) t4 (fun k => (nI (vcN B 100 s k), upM D 136 4 (nI (s + k)))) (fun k => (nI (vcN B 100 s k), upM D 136 4 (nI (s + k)))) (fun k hk hp => by
      show f_Tape_readNumber_L49 (nI (vcN B 100 s k)) (upM D 136 4 (nI (s + k))) = some (.inl (nI (min (10 * vcN B 100 s k + (B (s + k) - 48)) 100), upM D 136 4 (nI (s + (k + 1)))))
      have hb := hB _ hk
      have hc := vc_le B 100 s k
      unfold f_Tape_readNumber_L49
      rw [upM_eq, upM_ne (by omega), t1, if_neg (nI_ge hk (by omega)), gIn_nI (by omega) (by decide), nI_clamp (by omega), upM_row (by decide), t5 _ hk, C_isDigit hb, hp, gT, lt1_eq, lt1_eq, upM_2]
      unfold dgB at hp
      have hp := of_decide_eq_true hp
      rw [j10, pk_mul, nI_add, j48, pk_sub (by omega), j100, miI_nI (by omega) (by omega), ← nI_succ, Nat.add_assoc, show vcN B 100 s k * 10 + B (s + k) - 48 = 10 * vcN B 100 s k + (B (s + k) - 48) by omega]) (fun k hk hp => by
      show f_Tape_readNumber_L49 (nI (vcN B 100 s k)) (upM D 136 4 (nI (s + k))) = _
      unfold f_Tape_readNumber_L49
      rw [upM_eq, upM_ne (by omega), t1]
      by_cases z : s + k < tl
      · have hp := hp z
        have hb := hB _ z
        rw [if_neg (nI_ge z (by omega)), gIn_nI (by omega) (by decide), nI_clamp (by omega), upM_row (by decide), t5 _ z, C_isDigit hb, hp, gF]
      · rw [if_pos ((nI_leI (by omega) (by omega)).mpr (by omega))])
    rw [← eE, ← eV, show s + (e - s) = e by omega] at lp
    have lp : loop (fun t => f_Tape_readNumber_L49 t.1 t.2) ((0 : Int32), D) = some (nI v, upM D 136 4 (nI e)) := by
      rw [← lp]
      show _ = loop _ (nI 0, upM D 136 4 (nI (s + 0)))
      rw [upM_self (by rw [Nat.add_zero]; exact t3)]
      rfl
    have hTE := hTD0.to (i' := e) (by omega)
    have h5E : upM D 136 4 (nI e) 136 5 = nI s := by rw [upM_ne (by omega), hD, upM_eq]
    have frE : ∀ a, a ≠ 136 → upM D 136 4 (nI e) a = M a := fun a ha => by rw [upM_row ha, hD, upM_row ha]; exact hfr a ha
    unfold f_Tape_readNumber_J39 f_Tape_readNumber_J49 f_Tape_readNumber_W49
    rw [lt1_eq, hT.2.2.1, ← hD, lp, bnd_some]
    unfold f_Tape_readNumber_J111 f_Tape_readNumber_J121
    dsimp only
    rw [h5E]
    by_cases rg : lo ≤ v ∧ v ≤ hi
    · rw [if_neg (nI_nlt rg.1 (by omega)), if_pos ((nI_leI (by omega) (by omega)).mpr rg.2), if_pos rg, if_pos rg]
      refine ⟨_, rfl, by rw [ew] at hTE; exact hTE, by rw [← ew]; exact hw', h5E, frE⟩
    · obtain ⟨F, f1, f2, f3, f4⟩ := C_blame (p := s) (k := 2) hTE hw'
      have f1 : f_Tape_blame (upM D 136 4 (nI e)) (nI s) 2 = some F := f1
      have ev : blm w' s 2 = if w ≠ 0 then w else if e = s then 8 * s + 1 else 8 * s + 2 := by
        unfold blm
        rw [ew]
        by_cases w0 : w ≠ 0
        · rw [if_pos w0, if_pos w0, if_neg w0]
        · rw [if_neg w0, if_neg w0]
          by_cases es : e = s
          · rw [if_pos es, if_pos es, if_neg (by omega)]
          · rw [if_neg es, if_neg es, if_pos rfl]
      rw [if_neg rg, if_neg rg]
      refine ⟨F, ?_, by rw [ev] at f2; exact f2, by rw [← ev]; exact blm_lt hw' (by omega) (by decide), f3.trans h5E, fun a ha => (f4 a ha).trans (frE a ha)⟩
      rw [f1, bnd_some]
      by_cases c : v < lo
      · rw [if_pos (nI_lt c (by omega))]
      · rw [if_neg (nI_nlt (by omega) (by omega)), if_neg (nI_ge (by omega) (by omega))]
  have fr0 : ∀ a, a ≠ 136 → upM M 136 4 (nI s) a = M a := fun a ha => upM_row ha
  have J30 : e = s → ∃ M', f_Tape_readNumber_J30 (upM M 136 4 (nI s)) (nI lo) (nI hi) = some (nI (if lo ≤ v ∧ v ≤ hi then v else lo), M') ∧ TC tl B e (if w ≠ 0 then w else if e = s then 8 * s + 1 else if lo ≤ v ∧ v ≤ hi then 0 else 8 * s + 2) M' ∧ (if w ≠ 0 then w else if e = s then 8 * s + 1 else if lo ≤ v ∧ v ≤ hi then 0 else 8 * s + 2) < 4000 ∧ M' 136 5 = nI s ∧ ∀ a, a ≠ 136 → M' a = M a := by
    intro es
    obtain ⟨F, f1, f2, f3, f4⟩ := C_blame (p := s) (k := 1) hA hw
    have f1 : f_Tape_blame (upM M 136 4 (nI s)) (nI s) 1 = some F := f1
    unfold f_Tape_readNumber_J30
    rw [upM_eq, f1, bnd_some]
    refine go F _ f2 (blm_lt hw (by omega) (by decide)) (fun a ha => (f4 a ha).trans (fr0 a ha)) ?_
    unfold blm
    by_cases w0 : w ≠ 0
    · rw [if_neg w0, if_pos w0]
    · rw [if_pos (by omega), if_neg w0, if_pos es]
  unfold f_Tape_readNumber
  rw [hs, bnd_some, upM_eq, upM_ne (by omega), h.1]
  by_cases z : s < tl
  · rw [if_neg (nI_ge z (by omega)), gIn_nI (by omega) (by decide), nI_clamp (by omega), upM_row (by decide), h.2.2.2.2 _ z, C_isDigit (hB _ z)]
    unfold hdB at r4
    rw [decide_eq_true z, Bool.true_and] at r4
    cases d : dgB B s
    · rw [gF]
      exact J30 (r4.mpr d)
    · rw [gT]
      have es : ¬ e = s := fun q => by rw [r4.mp q] at d; cases d
      refine go _ w hA hw fr0 ?_
      by_cases w0 : w ≠ 0
      · rw [if_pos w0]
      · rw [if_neg w0, if_neg es]
        omega
  · rw [if_pos ((nI_leI (by omega) (by omega)).mpr (by omega))]
    exact J30 (by omega)
