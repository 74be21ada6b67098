theorem isR_iff {w : Nat} {N : Mem} (h : N 0 10 = cmI w) (hw : w < 4000) : f_MM_isRight N = decide (w = 0) := by
  unfold f_MM_isRight
  rw [h]
  by_cases z : w = 0
  · rw [if_pos ((cmI_neg (by omega)).mpr z), decide_eq_true z]
  · rw [if_neg (fun q => z ((cmI_neg (by omega)).mp q)), decide_eq_false z]
theorem M_fails {tl : Nat} {B : Nat → Nat} {i w p k : Nat} {N : Mem} (h : TM tl B i w N) (hw : w < 4000) (hk : 1 ≤ k) : ∃ N', f_MM_fails N (nI k) (nI p) = some N' ∧ TM tl B i (blm w p k) N' ∧ (∀ a, a ≠ 0 → N' a = N a) ∧ ∀ b, b ≠ 10 → N' 0 b = N 0 b := by
  have h0 := h
  obtain ⟨h1, h2, h3, h4, h5⟩ := h
  unfold f_MM_fails blm
  rw [isR_iff h2 hw]
  by_cases z : w = 0
  · rw [decide_eq_true z, gT, if_pos z, lt1_eq, j8, pk_mul, nI_add]
    refine ⟨_, rfl, ⟨(upM_ne (by omega)).trans h1, ?_, (upM_ne (by omega)).trans h3, h4, fun j hj => by rw [upM_row (by decide)]; exact h5 j hj⟩, fun a ha => upM_row ha, fun b hb => upM_ne (fun _ => hb)⟩
    rw [upM_eq]
    unfold cmI
    rw [if_neg (by omega)]
  · rw [decide_eq_false z, gF, if_neg z]
    exact ⟨N, rfl, h0, fun _ _ => rfl, fun _ _ => rfl⟩
/-- rows and places that the reference's reading leaves alone -/
def FrR (N N' : Mem) : Prop := (∀ a, a ≠ 0 → N' a = N a) ∧ ∀ b, b ≠ 9 → b ≠ 10 → b ≠ 11 → N' 0 b = N 0 b
theorem FrR.rf {N : Mem} : FrR N N := ⟨fun _ _ => rfl, fun _ _ _ _ => rfl⟩
theorem FrR.tr {N N' N'' : Mem} (h : FrR N N') (h' : FrR N' N'') : FrR N N'' := ⟨fun a ha => (h'.1 a ha).trans (h.1 a ha), fun b h1 h2 h3 => (h'.2 b h1 h2 h3).trans (h.2 b h1 h2 h3)⟩
theorem FrR.up {N : Mem} {b : Nat} (x : Int32) (h : b = 9 ∨ b = 10 ∨ b = 11) : FrR N (upM N 0 b x) := ⟨fun a ha => upM_row ha, fun c h1 h2 h3 => upM_ne (by omega)⟩
theorem M_num {tl : Nat} {B : Nat → Nat} (ht : tl ≤ 400) (hB : ∀ j, j < tl → B j < 256) {i lo hi : Nat} {N : Mem} (h : TM tl B i 0 N) (hhi : hi < 100) (hlo : lo ≤ hi) : ∃ x i' N', f_MM_number N (nI lo) (nI hi) = some (x, N') ∧ TM tl B i' (nW tl B i lo hi 0) N' ∧ FrR N N' ∧ (nW tl B i lo hi 0 = 0 → i' = nE tl B i ∧ x = nI (nV tl B i) ∧ N' 0 11 = nI (nS tl B i) ∧ lo ≤ nV tl B i ∧ nV tl B i ≤ hi ∧ i < nE tl B i) := by
  obtain ⟨r1, r2, r3, r4, r5⟩ := nS_sp (B := B) h.2.2.2.1
  have hd := M_isDigit ht hB h
  have hd : f_MM_isDigit N = some (hdB tl B (nS tl B i), upM N 0 9 (nI (nS tl B i))) := hd
  have hrel := vc_rel B (nS tl B i) (nE tl B i - nS tl B i)
  have hV := vc_le B 1000 (nS tl B i) (nE tl B i - nS tl B i)
  have eE : nE tl B i = runN (dgB B) tl (nS tl B i) := rfl
  have eV : nV tl B i = vcN B 100 (nS tl B i) (nE tl B i - nS tl B i) := rfl
  rw [← eV] at hrel
  unfold nW
  rw [if_neg (show ¬ (0 : Nat) ≠ 0 from fun z => z rfl)]
  generalize nV tl B i = v at *
  generalize nE tl B i = e at *
  generalize nS tl B i = s at *
  have hA := h.to (i' := s) (by omega)
  unfold f_MM_number
  rw [isR_iff h.2.1 (by decide), decide_eq_true rfl, gT, hd, bnd2_some]
  by_cases es : e = s
  · rw [r4.mp es, gF]
    unfold f_MM_number_J14
    obtain ⟨F, f1, f2, f3, f4⟩ := M_fails (p := s) (k := 1) hA (by decide) (by decide)
    have f1 : f_MM_fails (upM N 0 9 (nI s)) 1 (nI s) = some F := f1
    rw [upM_eq, f1, bnd_some, if_pos es]
    refine ⟨0, s, F, rfl, f2, (FrR.up _ (Or.inl rfl)).tr ⟨f3, fun b _ h2 _ => f4 b h2⟩, fun z => by omega⟩
  · have d : hdB tl B s = true := by
      cases q : hdB tl B s
      · exact absurd (r4.mpr q) es
      · rfl
    rw [d, gT, lt1_eq, upM_eq]
    obtain ⟨D, hD⟩ : ∃ D, D = upM (upM N 0 9 (nI s)) 0 11 (nI s) := ⟨_, rfl⟩
    rw [← hD]
    have hTD : TM tl B s 0 D := by rw [hD]; exact hA.na _
    have t3 := hTD.2.2.1
    have lp := run_loop (body := fun t => f_MM_number_L35 t.1 t.2) (dgB B) hTD.2.2.2.1 (fun k => (nI (vcN B 1000 s k), upM D 0 9 (nI (s + k)))) (fun k => (nI (vcN B 1000 s k), upM D 0 9 (nI (s + k)))) (fun k hk hp => by
      show f_MM_number_L35 (nI (vcN B 1000 s k)) (upM D 0 9 (nI (s + k))) = some (.inl (nI (min (10 * vcN B 1000 s k + (B (s + k) - 48)) 1000), upM D 0 9 (nI (s + (k + 1)))))
      have hb := hB _ hk
      have hc := vc_le B 1000 s k
      unfold f_MM_number_L35
      rw [M_sign ht hB (hTD.to (by omega)), bnd_some, bnd_some, in_dg hB, show hdB tl B (s + k) = true by unfold hdB; rw [decide_eq_true hk, hp]; rfl, gT, lt1_eq, upM_eq, upM_2, show sgI tl B (s + k) = nI (B (s + k)) from if_pos hk]
      unfold dgB at hp
      have hp := of_decide_eq_true hp
      rw [j10, pk_mul, nI_add, j48, pk_sub (by omega), j1000, miI_nI (by omega) (by omega), ← nI_succ, Nat.add_assoc, Nat.min_comm, show 10 * vcN B 1000 s k + B (s + k) - 48 = 10 * vcN B 1000 s k + (B (s + k) - 48) by omega]) (fun k hk hp => by
      show f_MM_number_L35 (nI (vcN B 1000 s k)) (upM D 0 9 (nI (s + k))) = _
      unfold f_MM_number_L35
      rw [M_sign ht hB (hTD.to (by omega)), bnd_some, in_dg hB, show hdB tl B (s + k) = false from ?_, gF]
      unfold hdB
      by_cases z : s + k < tl
      · rw [hp z, Bool.and_false]
      · rw [decide_eq_false z, Bool.false_and])
    rw [← eE, show s + (e - s) = e by omega] at lp
    obtain ⟨u, hu⟩ : ∃ u, u = vcN B 1000 s (e - s) := ⟨_, rfl⟩
    rw [← hu] at lp hrel hV
    have lp : f_MM_number_W35 ((0 : Int32), D) = some (nI u, upM D 0 9 (nI e)) := by
      unfold f_MM_number_W35
      rw [← lp]
      show _ = loop _ (nI 0, upM D 0 9 (nI (s + 0)))
      rw [upM_self (by rw [Nat.add_zero]; exact t3)]
      rfl
    have hTE := hTD.to (i' := e) (by omega)
    have frE : FrR N (upM D 0 9 (nI e)) := (FrR.up _ (Or.inl rfl)).tr ((by rw [hD]; exact FrR.up _ (Or.inr (Or.inr rfl)) : FrR (upM N 0 9 (nI s)) D).tr (FrR.up _ (Or.inl rfl)))
    have n11 : upM D 0 9 (nI e) 0 11 = nI s := by rw [upM_ne (by omega), hD, upM_eq]
    unfold f_MM_number_J35
    rw [lp, bnd_some]
    dsimp only
    rw [M_in, Int32.toInt_toInt64, Int32.toInt_toInt64, Int32.toInt_toInt64, nI_toInt (by omega), nI_toInt (show hi < 2 ^ 31 by omega), if_neg es]
    by_cases rg : lo ≤ v ∧ v ≤ hi
    · have uv : u = v := by omega
      rw [if_pos rg]
      refine ⟨nI v, e, _, ?_, hTE, frE, fun _ => ⟨rfl, rfl, n11, rg.1, rg.2, by omega⟩⟩
      rw [nI_toInt (by omega), decide_eq_true (show (lo : Int) ≤ (u : Int) by omega), decide_eq_true (show (u : Int) ≤ (hi : Int) by omega), uv]
      rfl
    · rw [if_neg rg]
      obtain ⟨F, f1, f2, f3, f4⟩ := M_fails (p := s) (k := 2) hTE (by decide) (by decide)
      have f1 : f_MM_fails (upM D 0 9 (nI e)) 2 (nI s) = some F := f1
      refine ⟨nI u, e, F, ?_, f2, frE.tr ⟨f3, fun b _ h2 _ => f4 b h2⟩, fun z => by omega⟩
      have nin : (decide ((lo : Int) ≤ (u : Int)) && decide ((u : Int) ≤ (hi : Int))) = false := by
        rw [Bool.eq_false_iff]
        intro q
        simp only [Bool.and_eq_true, decide_eq_true_eq] at q
        omega
      rw [nI_toInt (show u < 2 ^ 31 by omega), nin, gF, n11, f1, bnd_some]
theorem M_num_f {tl : Nat} {B : Nat → Nat} {i w : Nat} {N : Mem} (h : TM tl B i w N) (hw : w < 4000) (h0 : w ≠ 0) (x y : Int32) : f_MM_number N x y = some (0, N) := by
  unfold f_MM_number f_MM_number_J14 f_MM_fails
  rw [isR_iff h.2.1 hw, decide_eq_false h0, gF, gF, bnd_some]
