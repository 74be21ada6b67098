theorem bnd2_id {α β : Type} (x : Option (α × β)) : bnd2 x (fun a b => some (a, b)) = x := by
  rcases x with _ | ⟨a, b⟩ <;> rfl
theorem party_eq (N : Mem) : f_MM_party N = f_MM_number N 0 (N 2 0 - 1) := by
  unfold f_MM_party
  exact bnd2_id _
theorem set_st {tl : Nat} {B : Nat → Nat} (ht : tl ≤ 400) (hB : ∀ j, j < tl → B j < 256) {S : Nat → Nat} {i p lo hi : Nat} {M N : Mem} {xl xh : Int32} (h : RT tl B S i M N) (hp : p < 5) (hlo : lo ≤ hi) (hhi : hi < 100) (hxl : xl = nI lo) (hxh : xh = nI hi) (hv : ∀ v, lo ≤ v → v ≤ hi → PV (setR S (1 + p) v)) : ∃ M' N', bnd2 (f_Tape_readNumber M (nI lo) (nI hi)) (fun y M8 => gIn (nI p) 5 (lt1 (upM M8 9 (nI p).toNatClampNeg y) (fun M11 => some M11))) = some M' ∧ bnd2 (f_MM_number N xl xh) (fun y N1 => lt1 (upM N1 2 (1 + p) y) (fun N2 => some N2)) = some N' ∧ RF tl B i M N M' N' := by
  have htw := h.tw
  obtain ⟨hS, hV, hS0, hP, hM⟩ := h
  obtain ⟨v, x, w1, i1, M1, N1, a1, a2, a3, a4, a5, a6, a7, a8, a9⟩ := num_st ht hB (lo := lo) (hi := hi) (xl := xl) (xh := xh) hS hlo hhi (fun _ => ⟨hxl, hxh⟩)
  have fr : ∀ a, a ≠ 136 → a ≠ 9 → upM M1 9 p (nI v) a = M a := fun a h1 h2 => by rw [upM_row h2]; exact a8 a h1
  have frN : FrH (fun j => j = 1 + p) N (upM N1 2 (1 + p) x) := a9.H.tr (FrH.up _ rfl)
  have hSX : SS tl B w1 i1 (upM M1 9 p (nI v)) (upM N1 2 (1 + p) x) := (a5.cg (fun a ha => upM_row (by omega)) rfl rfl).up2 _ _
  refine ⟨upM M1 9 p (nI v), upM N1 2 (1 + p) x, ?_, by rw [a2, bnd2_some, lt1_eq], fun a h1 h2 => fr a h2 (by omega), frN.mono (fun _ _ => trivial), ?_⟩
  · rw [a1, bnd2_some, gIn_nI hp (by decide), nI_clamp (by omega), lt1_eq]
  · by_cases z : w1 = 0
    · subst z
      obtain ⟨e1, e2, -⟩ := a7 rfl
      refine Or.inl ⟨setR S (1 + p) v, i1, Nat.le_of_lt e2, hSX, hv v a3 a4, by rw [setR_ne (by omega)]; exact hS0, ?_, ?_⟩
      · rw [PC8]
        refine (PC8.mp hP).hd (fun j hj => setR_ne (by omega)) (fun b _ => ?_) ?_ (fun j hj => ?_) (fun a h1 h2 => fr (a + 8) (by omega) (by omega))
        · show upM M1 9 p (nI v) 8 b = M 8 b
          rw [fr 8 (by decide) (by decide)]
        · show upM M1 9 p (nI v) 8 1 = _
          rw [fr 8 (by decide) (by decide), setR_ne (by omega)]
          exact hP.2.1
        · show upM M1 9 p (nI v) 9 j = _
          by_cases e : j = p
          · subst e; rw [upM_eq, setR_eq]
          · rw [upM_ne (fun _ => e), a8 9 (by decide), setR_ne (by omega)]
            exact hP.2.2.2.2.2.1 j hj
      · refine hM.hd (fun j hj => setR_ne (by omega)) (fun j h1 h2 => ?_) (fun j hj => frN.2.2 j (by omega))
        by_cases e : j = 1 + p
        · subst e; rw [upM_eq, setR_eq, e1]
        · rw [frN.2.2 j e, setR_ne e]; exact hM.1 j (by omega)
    · refine Or.inr ⟨w1, hSX.cf z ?_, hSX.rf⟩
      have t1 := htw.cg a8
      obtain ⟨n, c2, c3, c4, p0, p1, p2, p3, p4, p5, p6, p7, p8, p9, p10⟩ := t1
      exact ⟨n, c2, c3, c4, by rw [upM_row (by decide)]; exact p0, p1, p2, by rw [upM_row (by decide)]; exact p3, p4, by rw [upM_row (by decide)]; exact p5, p6, fun l hl => by rw [upM_row (by decide)]; exact p7 l hl, by rw [upM_row (by decide)]; exact p8, p9, fun l hl => by rw [upM_row (by decide)]; exact p10 l hl⟩
theorem CF.set {tl : Nat} {B : Nat → Nat} (ht : tl ≤ 400) (hB : ∀ j, j < tl → B j < 256) {w p lo hi : Nat} {M : Mem} (h : CF tl B w M) (hp : p < 5) (hlo : lo ≤ hi) (hhi : hi < 100) : ∃ M', bnd2 (f_Tape_readNumber M (nI lo) (nI hi)) (fun y M8 => gIn (nI p) 5 (lt1 (upM M8 9 (nI p).toNatClampNeg y) (fun M11 => some M11))) = some M' ∧ CF tl B w M' ∧ CT M M' := by
  obtain ⟨v, M1, a1, a2, a3, a4, a5⟩ := h.num ht hB (lo := lo) (hi := hi) hlo hhi
  obtain ⟨⟨i, h1⟩, h2, h3, n, c2, c3, c4, p0, p1, p2, p3, p4, p5, p6, p7, p8, p9, p10⟩ := a4
  refine ⟨upM M1 9 p (nI v), ?_, ⟨⟨i, h1.cg (fun a ha => upM_row (by omega))⟩, h2, h3, n, c2, c3, c4, by rw [upM_row (by decide)]; exact p0, p1, p2, by rw [upM_row (by decide)]; exact p3, p4, by rw [upM_row (by decide)]; exact p5, p6, fun l hl => by rw [upM_row (by decide)]; exact p7 l hl, by rw [upM_row (by decide)]; exact p8, p9, fun l hl => by rw [upM_row (by decide)]; exact p10 l hl⟩, fun a h4 h5 => by rw [upM_row (by omega)]; exact a5 a h5⟩
  rw [a1, bnd2_some, gIn_nI hp (by decide), nI_clamp (by omega), lt1_eq]
def ptI (B : Nat → Nat) (s e : Nat) : Int32 := if wdB B 1 s e = true then 0 else if wdB B 2 s e = true then 1 else if wdB B 3 s e = true then 2 else if wdB B 4 s e = true then 3 else if wdB B 5 s e = true then 4 else if wdB B 6 s e = true then 5 else if wdB B 7 s e = true then 6 else if wdB B 8 s e = true then 7 else if wdB B 9 s e = true then 8 else -1
theorem C_partOf {tl : Nat} {B : Nat → Nat} (ht : tl ≤ 400) {s e w : Nat} {M : Mem} (h : TC tl B e w M) (hb : M 136 5 = nI s) (hse : s ≤ e) : f_Tape_partOf M = some (ptI B s e) := by
  unfold f_Tape_partOf ptI
  rw [C_isWord ht h hb hse (a := 1) (by decide), C_isWord ht h hb hse (a := 2) (by decide), C_isWord ht h hb hse (a := 3) (by decide), C_isWord ht h hb hse (a := 4) (by decide), C_isWord ht h hb hse (a := 5) (by decide), C_isWord ht h hb hse (a := 6) (by decide), C_isWord ht h hb hse (a := 7) (by decide), C_isWord ht h hb hse (a := 8) (by decide), C_isWord ht h hb hse (a := 9) (by decide)]
  rw [bnd_some]
  cases wdB B 1 s e
  case true => rfl
  rw [if_pos (show bI false = 0 from rfl), if_neg (by decide)]
  rw [bnd_some]
  cases wdB B 2 s e
  case true => rfl
  rw [if_pos (show bI false = 0 from rfl), if_neg (by decide)]
  rw [bnd_some]
  cases wdB B 3 s e
  case true => rfl
  rw [if_pos (show bI false = 0 from rfl), if_neg (by decide)]
  rw [bnd_some]
  cases wdB B 4 s e
  case true => rfl
  rw [if_pos (show bI false = 0 from rfl), if_neg (by decide)]
  rw [bnd_some]
  cases wdB B 5 s e
  case true => rfl
  rw [if_pos (show bI false = 0 from rfl), if_neg (by decide)]
  rw [bnd_some]
  cases wdB B 6 s e
  case true => rfl
  rw [if_pos (show bI false = 0 from rfl), if_neg (by decide)]
  rw [bnd_some]
  cases wdB B 7 s e
  case true => rfl
  rw [if_pos (show bI false = 0 from rfl), if_neg (by decide)]
  rw [bnd_some]
  cases wdB B 8 s e
  case true => rfl
  rw [if_pos (show bI false = 0 from rfl), if_neg (by decide)]
  rw [bnd_some]
  cases wdB B 9 s e
  · rfl
  · rfl
theorem RF.pre {tl : Nat} {B : Nat → Nat} {i e : Nat} {M N M2 N2 M' N' : Mem} (h1 : CT M M2) (h2 : FrH (fun _ => True) N N2) (he : i ≤ e) (h : RF tl B e M2 N2 M' N') : RF tl B i M N M' N' := by
  obtain ⟨a1, a2, a3⟩ := h
  refine ⟨h1.tr a1, h2.tr a2, ?_⟩
  rcases a3 with ⟨S', i', k1, k2⟩ | k
  · exact Or.inl ⟨S', i', Nat.le_trans he k1, k2⟩
  · exact Or.inr k
theorem CF.part {tl : Nat} {B : Nat → Nat} (ht : tl ≤ 400) (hB : ∀ j, j < tl → B j < 256) {w : Nat} {M : Mem} (h : CF tl B w M) : ∃ M', f_Tape_readPart M = some M' ∧ CF tl B w M' ∧ CT M M' := by
  obtain ⟨⟨i, h1⟩, h2, h3, h4⟩ := h
  obtain ⟨M2, a1, a2, a3, a4⟩ := C_word ht hB h1
  have cf : CF tl B w M2 := ⟨⟨_, a2⟩, h2, h3, h4.cg a4⟩
  obtain ⟨r1, r2, -, -⟩ := runN_sp (blB B) h1.2.2.2.1
  obtain ⟨q1, q2, -, -⟩ := runN_sp (ltB B) r2
  have hpt := C_partOf ht a2 a3 q1
  have tw := cf.2.2.2
  obtain ⟨n, c2, c3, c4, p0, p1, p2, -⟩ := tw
  unfold f_Tape_readPart
  rw [a1, bnd_some, hpt, bnd_some]
  suffices hh : ∀ y, y = ptI B (runN (blB B) tl i) (runN (ltB B) tl (runN (blB B) tl i)) → y = -1 ∨ y = 0 ∨ y = 1 ∨ y = 2 ∨ y = 3 ∨ y = 4 ∨ y = 5 ∨ y = 6 ∨ y = 7 ∨ y = 8 by
    have key := hh _ rfl
    generalize ptI B (runN (blB B) tl i) (runN (ltB B) tl (runN (blB B) tl i)) = y at key
    rcases key with rfl | rfl | rfl | rfl | rfl | rfl | rfl | rfl | rfl | rfl
    · rw [if_pos rfl, cf.bl, bnd_some]
      exact ⟨M2, rfl, cf, CT.of a4⟩
    · rw [if_neg (by decide), if_pos rfl, show f_Play_leastSetting 8 0 = nI 0 from rfl, show f_Play_mostSetting 8 M2 0 = nI (n - 1) from by show M2 8 0 - 1 = _; rw [p0]; exact pk_sub (b := 1) p1, show (0 : Int32) = nI 0 from rfl]
      obtain ⟨M3, b1, b2, b3⟩ := cf.set ht hB (p := 0) (lo := 0) (hi := n - 1) (by omega) (by omega) (by omega)
      exact ⟨M3, b1, b2, (CT.of a4).tr b3⟩
    · rw [if_neg (by decide), if_neg (by decide), if_pos rfl, show f_Play_leastSetting 8 1 = nI 0 from rfl, show f_Play_mostSetting 8 M2 1 = nI 3 from rfl, show (1 : Int32) = nI 1 from rfl]
      obtain ⟨M3, b1, b2, b3⟩ := cf.set ht hB (p := 1) (lo := 0) (hi := 3) (by omega) (by omega) (by omega)
      exact ⟨M3, b1, b2, (CT.of a4).tr b3⟩
    · rw [if_neg (by decide), if_neg (by decide), if_neg (by decide), if_pos rfl, show f_Play_leastSetting 8 2 = nI 1 from rfl, show f_Play_mostSetting 8 M2 2 = nI 8 from rfl, show (2 : Int32) = nI 2 from rfl]
      obtain ⟨M3, b1, b2, b3⟩ := cf.set ht hB (p := 2) (lo := 1) (hi := 8) (by omega) (by omega) (by omega)
      exact ⟨M3, b1, b2, (CT.of a4).tr b3⟩
    · rw [if_neg (by decide), if_neg (by decide), if_neg (by decide), if_neg (by decide), if_pos rfl, show f_Play_leastSetting 8 3 = nI 0 from rfl, show f_Play_mostSetting 8 M2 3 = nI 3 from rfl, show (3 : Int32) = nI 3 from rfl]
      obtain ⟨M3, b1, b2, b3⟩ := cf.set ht hB (p := 3) (lo := 0) (hi := 3) (by omega) (by omega) (by omega)
      exact ⟨M3, b1, b2, (CT.of a4).tr b3⟩
    · rw [if_neg (by decide), if_neg (by decide), if_neg (by decide), if_neg (by decide), if_neg (by decide), if_pos rfl, show f_Play_leastSetting 8 4 = nI 1 from rfl, show f_Play_mostSetting 8 M2 4 = nI 4 from rfl, show (4 : Int32) = nI 4 from rfl]
      obtain ⟨M3, b1, b2, b3⟩ := cf.set ht hB (p := 4) (lo := 1) (hi := 4) (by omega) (by omega) (by omega)
      exact ⟨M3, b1, b2, (CT.of a4).tr b3⟩
    · rw [if_neg (by decide), if_neg (by decide), if_neg (by decide), if_neg (by decide), if_neg (by decide), if_neg (by decide), if_pos rfl]
      obtain ⟨v, M3, b1, b2, b3, b4⟩ := cf.party ht hB
      have cf4 : CF tl B w (upM M3 8 1 ((M2 8 1) ||| ((1 : Int32) <<< (nI v &&& 31)))) := by
        obtain ⟨⟨j, k1⟩, k2, k3, k4⟩ := b3
        exact ⟨⟨j, k1.cg (fun a ha => upM_row (by omega))⟩, k2, k3, k4.cg8 (fun a _ ha => upM_row ha) (fun b hb => upM_ne (fun _ => hb))⟩
      refine ⟨upM M3 8 1 ((M2 8 1) ||| ((1 : Int32) <<< (nI v &&& 31))), ?_, cf4, fun a k1 k2 => by rw [upM_row (by omega), b4 a k2]; exact a4 a k2⟩
      unfold f_Tape_readLiars f_Tape_readLiars_J20 f_Tape_readLiars_W20
      have le : loop (fun t : Int32 × Mem => f_Tape_readLiars_L20 t.1 t.2) ((0 : Int32), upM M3 8 1 ((M2 8 1) ||| ((1 : Int32) <<< (nI v &&& 31)))) = some (upM M3 8 1 ((M2 8 1) ||| ((1 : Int32) <<< (nI v &&& 31)))) := loop_inr (by
        show f_Tape_readLiars_L20 0 _ = _
        unfold f_Tape_readLiars_L20
        rw [if_neg (by decide), if_neg cf4.loopEnd])
      rw [b1, bnd2_some, lt1_eq, le, bnd_some, bnd_some]
    · rw [if_neg (by decide), if_neg (by decide), if_neg (by decide), if_neg (by decide), if_neg (by decide), if_neg (by decide), if_neg (by decide), if_pos rfl]
      obtain ⟨M3, b1, b2, b3⟩ := cf.letter ht hB
      refine ⟨M3, ?_, b2, (CT.of a4).tr b3⟩
      unfold f_Tape_readLetter
      rw [cf.bl, bnd_some, b1]
      split <;> rfl
    · rw [if_neg (by decide), if_neg (by decide), if_neg (by decide), if_neg (by decide), if_neg (by decide), if_neg (by decide), if_neg (by decide), if_neg (by decide), if_pos rfl]
      obtain ⟨M3, b1, b2, b3⟩ := cf.rdO ht hB
      refine ⟨M3, ?_, b2, (CT.of a4).tr b3⟩
      unfold f_Tape_readOmit
      rw [cf.bl, bnd_some, b1]
      split <;> rfl
    · rw [if_neg (by decide), if_neg (by decide), if_neg (by decide), if_neg (by decide), if_neg (by decide), if_neg (by decide), if_neg (by decide), if_neg (by decide), if_neg (by decide), if_pos rfl]
      obtain ⟨M3, b1, b2, b3⟩ := cf.rdL ht hB
      refine ⟨M3, ?_, b2, (CT.of a4).tr b3⟩
      unfold f_Tape_readLate
      rw [cf.bl, bnd_some, b1]
      split <;> rfl
  intro y hy
  unfold ptI at hy
  rw [hy]
  repeat' split
  all_goals simp
theorem tk_f {tl : Nat} {B : Nat → Nat} (ht : tl ≤ 400) (hB : ∀ j, j < tl → B j < 256) {s w a : Nat} {N : Mem} (h : TM tl B s w N) (hs : runN (blB B) tl s = s) (ha : a < 10) (hw : wdB B a s (runN (ltB B) tl s) = false) : f_MM_takes a N = some (false, N) := by
  rw [M_word ht hB h ha, hs, hw, if_neg (by decide), upM_self h.2.2.1]
theorem tk_t {tl : Nat} {B : Nat → Nat} (ht : tl ≤ 400) (hB : ∀ j, j < tl → B j < 256) {s w a : Nat} {N : Mem} (h : TM tl B s w N) (hs : runN (blB B) tl s = s) (ha : a < 10) (hw : wdB B a s (runN (ltB B) tl s) = true) : f_MM_takes a N = some (true, upM N 0 9 (nI (runN (ltB B) tl s))) := by
  rw [M_word ht hB h ha, hs, hw, if_pos rfl]
set_option maxHeartbeats 2000000 in
theorem part_st {tl : Nat} {B : Nat → Nat} (ht : tl ≤ 400) (hB : ∀ j, j < tl → B j < 256) {S : Nat → Nat} {i : Nat} {M N : Mem} (h : RT tl B S i M N) : ∃ M' N', f_Tape_readPart M = some M' ∧ f_MM_readsPart N = some N' ∧ RF tl B i M N M' N' := by
  have htw := h.tw
  have h0 := h
  obtain ⟨hS, hV, hS0, hP, hM⟩ := h
  have hn := pv_n hV
  have n1 : 1 ≤ S 0 := Nat.pos_of_ne_zero hS0
  have hTC := hS.1
  have hTM := hS.m
  obtain ⟨M2, a1, a2, a3, a4⟩ := C_word ht hB hTC
  obtain ⟨r1, r2, -, -⟩ := runN_sp (blB B) hTC.2.2.2.1
  have hnx := M_next ht hB hTM
  have rr := runN_2 (p := blB B) hTC.2.2.2.1
  obtain ⟨s, hs⟩ : ∃ s, s = runN (blB B) tl i := ⟨_, rfl⟩
  rw [← hs] at a2 a3 r1 r2 hnx rr
  obtain ⟨q1, q2, -, -⟩ := runN_sp (ltB B) r2
  obtain ⟨e, he⟩ : ∃ e, e = runN (ltB B) tl s := ⟨_, rfl⟩
  rw [← he] at a2 q1 q2
  have hpt := C_partOf ht a2 a3 q1
  obtain ⟨N2, hN2⟩ : ∃ N2, N2 = upM N 0 9 (nI s) := ⟨_, rfl⟩
  have hT2 : TM tl B s 0 N2 := by rw [hN2]; exact hTM.to r2
  have hN20 : N2 0 9 = nI s := hT2.2.2.1
  rw [← hN2] at hnx
  obtain ⟨N3, hN3⟩ : ∃ N3, N3 = upM N2 0 9 (nI e) := ⟨_, rfl⟩
  have hN3r : ∀ a, a ≠ 0 → N3 a = N a := fun a ha => by rw [hN3, upM_row ha, hN2, upM_row ha]
  have frN3 : FrH (fun _ => True) N N3 := by rw [hN3, hN2]; exact ((FrR.up _ (Or.inl rfl)).tr (FrR.up _ (Or.inl rfl))).H
  have frN2 : FrH (fun _ => True) N N2 := by rw [hN2]; exact (FrR.up _ (Or.inl rfl)).H
  have hRT : RT tl B S e M2 N3 := ⟨⟨a2, by decide, e, by rw [hN3]; exact hT2.to q2, fun _ => rfl⟩, hV, hS0, hP.cg (fun a k1 k2 => a4 a (by omega)), by rw [hN3r 2 (by decide)]; exact hM⟩
  have ie : i ≤ e := Nat.le_trans r1 q1
  have fin : ∀ {o1 o2 : Option Mem}, (∃ M' N', o1 = some M' ∧ o2 = some N' ∧ RF tl B e M2 N3 M' N') → ∃ M' N', bnd o1 (fun x => some x) = some M' ∧ bnd o2 (fun x => some x) = some N' ∧ RF tl B i M N M' N' := by
    rintro o1 o2 ⟨M', N', e1, e2, e3⟩
    exact ⟨M', N', by rw [e1, bnd_some], by rw [e2, bnd_some], e3.pre (CT.of a4) frN3 ie⟩
  have fin1 : ∀ {o1 o2 : Option Mem}, (∃ M' N', o1 = some M' ∧ o2 = some N' ∧ RF tl B e M2 N3 M' N') → ∃ M' N', o1 = some M' ∧ o2 = some N' ∧ RF tl B i M N M' N' := by
    rintro o1 o2 ⟨M', N', e1, e2, e3⟩
    exact ⟨M', N', e1, e2, e3.pre (CT.of a4) frN3 ie⟩
  have tf : ∀ a, a < 10 → wdB B a s e = false → f_MM_takes a N2 = some (false, N2) := fun a ha hw => tk_f ht hB hT2 rr ha (by rw [← he]; exact hw)
  have tt : ∀ a, a < 10 → wdB B a s e = true → f_MM_takes a N2 = some (true, N3) := fun a ha hw => by rw [hN3, he]; exact tk_t ht hB hT2 rr ha (by rw [← he]; exact hw)
  have hV0 := hV
  obtain ⟨v0, v2, v3, v3', v4, v5, v5', v6, -⟩ := hV0
  have p0 : M2 8 0 = nI (S 0) := by rw [a4 8 (by decide)]; exact hP.1
  have n30 : N3 2 0 = nI (S 0) := by rw [hN3r 2 (by decide)]; exact hM.1 0 (by decide)
  unfold f_Tape_readPart f_MM_readsPart
  rw [a1, bnd_some, hpt, bnd_some, hnx, bnd2_some]
  unfold ptI
  cases h1 : wdB B 1 s e
  case true =>
    rw [if_pos rfl, tt 1 (by decide) h1, bnd2_some, if_neg (show ¬ bI true = 0 by decide)]
    rw [if_neg (by decide), if_pos rfl, show f_Play_leastSetting 8 0 = nI 0 from rfl, show f_Play_mostSetting 8 M2 0 = nI (S 0 - 1) from by show M2 8 0 - 1 = _; rw [p0]; exact pk_sub (b := 1) n1, show (0 : Int32) = nI 0 from rfl]
    rw [party_eq]
    exact fin1 (set_st ht hB (p := 0) (lo := 0) (hi := S 0 - 1) (xl := 0) (xh := (N3 2 0 - 1)) hRT (by decide) (by omega) (by omega) rfl (by rw [n30]; exact pk_sub (b := 1) n1) (fun v k1 k2 => hV.hd (fun j hj => setR_ne (by omega)) (Or.inr ⟨by show 3 ≤ S 0; omega, by show S 0 ≤ 8; omega, by show v < S 0; omega⟩) v2 v3 v3' v4 v5 v5' v6))
  rw [if_neg (show ¬ false = true by decide), tf 1 (by decide) h1, bnd2_some, if_pos (show bI false = 0 from rfl)]
  cases h2 : wdB B 2 s e
  case true =>
    rw [if_pos rfl, tt 2 (by decide) h2, bnd2_some, if_neg (show ¬ bI true = 0 by decide)]
    rw [if_neg (by decide), if_neg (by decide), if_pos rfl, show f_Play_leastSetting 8 1 = nI 0 from rfl, show f_Play_mostSetting 8 M2 1 = nI 3 from rfl, show (1 : Int32) = nI 1 from rfl]
    exact fin1 (set_st ht hB (p := 1) (lo := 0) (hi := 3) (xl := 0) (xh := 3) hRT (by decide) (by omega) (by omega) rfl rfl (fun v k1 k2 => hV.hd (fun j hj => setR_ne (by omega)) v0 (by show v < 4; omega) v3 v3' v4 v5 v5' v6))
  rw [if_neg (show ¬ false = true by decide), tf 2 (by decide) h2, bnd2_some, if_pos (show bI false = 0 from rfl)]
  cases h3 : wdB B 3 s e
  case true =>
    rw [if_pos rfl, tt 3 (by decide) h3, bnd2_some, if_neg (show ¬ bI true = 0 by decide)]
    rw [if_neg (by decide), if_neg (by decide), if_neg (by decide), if_pos rfl, show f_Play_leastSetting 8 2 = nI 1 from rfl, show f_Play_mostSetting 8 M2 2 = nI 8 from rfl, show (2 : Int32) = nI 2 from rfl]
    exact fin1 (set_st ht hB (p := 2) (lo := 1) (hi := 8) (xl := 1) (xh := 8) hRT (by decide) (by omega) (by omega) rfl rfl (fun v k1 k2 => hV.hd (fun j hj => setR_ne (by omega)) v0 v2 k1 k2 v4 v5 v5' v6))
  rw [if_neg (show ¬ false = true by decide), tf 3 (by decide) h3, bnd2_some, if_pos (show bI false = 0 from rfl)]
  cases h4 : wdB B 4 s e
  case true =>
    rw [if_pos rfl, tt 4 (by decide) h4, bnd2_some, if_neg (show ¬ bI true = 0 by decide)]
    rw [if_neg (by decide), if_neg (by decide), if_neg (by decide), if_neg (by decide), if_pos rfl, show f_Play_leastSetting 8 3 = nI 0 from rfl, show f_Play_mostSetting 8 M2 3 = nI 3 from rfl, show (3 : Int32) = nI 3 from rfl]
    exact fin1 (set_st ht hB (p := 3) (lo := 0) (hi := 3) (xl := 0) (xh := 3) hRT (by decide) (by omega) (by omega) rfl rfl (fun v k1 k2 => hV.hd (fun j hj => setR_ne (by omega)) v0 v2 v3 v3' (by show v < 4; omega) v5 v5' v6))
  rw [if_neg (show ¬ false = true by decide), tf 4 (by decide) h4, bnd2_some, if_pos (show bI false = 0 from rfl)]
  cases h5 : wdB B 5 s e
  case true =>
    rw [if_pos rfl, tt 5 (by decide) h5, bnd2_some, if_neg (show ¬ bI true = 0 by decide)]
    rw [if_neg (by decide), if_neg (by decide), if_neg (by decide), if_neg (by decide), if_neg (by decide), if_pos rfl, show f_Play_leastSetting 8 4 = nI 1 from rfl, show f_Play_mostSetting 8 M2 4 = nI 4 from rfl, show (4 : Int32) = nI 4 from rfl]
    exact fin1 (set_st ht hB (p := 4) (lo := 1) (hi := 4) (xl := 1) (xh := 4) hRT (by decide) (by omega) (by omega) rfl rfl (fun v k1 k2 => hV.hd (fun j hj => setR_ne (by omega)) v0 v2 v3 v3' v4 k1 k2 v6))
  rw [if_neg (show ¬ false = true by decide), tf 5 (by decide) h5, bnd2_some, if_pos (show bI false = 0 from rfl)]
  cases h6 : wdB B 6 s e
  case true =>
    rw [if_pos rfl, tt 6 (by decide) h6, bnd2_some, if_neg (show ¬ bI true = 0 by decide)]
    rw [if_neg (by decide), if_neg (by decide), if_neg (by decide), if_neg (by decide), if_neg (by decide), if_neg (by decide), if_pos rfl]
    exact fin (liars_st ht hB hRT)
  rw [if_neg (show ¬ false = true by decide), tf 6 (by decide) h6, bnd2_some, if_pos (show bI false = 0 from rfl)]
  cases h7 : wdB B 7 s e
  case true =>
    rw [if_pos rfl, tt 7 (by decide) h7, bnd2_some, if_neg (show ¬ bI true = 0 by decide)]
    rw [if_neg (by decide), if_neg (by decide), if_neg (by decide), if_neg (by decide), if_neg (by decide), if_neg (by decide), if_neg (by decide), if_pos rfl, hN20]
    exact fin (letter_st ht hB hRT (by omega) a3)
  rw [if_neg (show ¬ false = true by decide), tf 7 (by decide) h7, bnd2_some, if_pos (show bI false = 0 from rfl)]
  cases h8 : wdB B 8 s e
  case true =>
    rw [if_pos rfl, tt 8 (by decide) h8, bnd2_some, if_neg (show ¬ bI true = 0 by decide)]
    rw [if_neg (by decide), if_neg (by decide), if_neg (by decide), if_neg (by decide), if_neg (by decide), if_neg (by decide), if_neg (by decide), if_neg (by decide), if_pos rfl, hN20]
    exact fin (rdO_st ht hB hRT (by omega) a3)
  rw [if_neg (show ¬ false = true by decide), tf 8 (by decide) h8, bnd2_some, if_pos (show bI false = 0 from rfl)]
  cases h9 : wdB B 9 s e
  case true =>
    rw [if_pos rfl, tt 9 (by decide) h9, bnd2_some, if_neg (show ¬ bI true = 0 by decide)]
    rw [if_neg (by decide), if_neg (by decide), if_neg (by decide), if_neg (by decide), if_neg (by decide), if_neg (by decide), if_neg (by decide), if_neg (by decide), if_neg (by decide), if_pos rfl, hN20]
    exact fin (rdL_st ht hB hRT (by omega) a3)
  rw [if_neg (show ¬ false = true by decide), tf 9 (by decide) h9, bnd2_some, if_pos (show bI false = 0 from rfl)]
  rw [if_pos rfl, a3, hN20]
  have hSS : SS tl B 0 e M2 N3 := hRT.1
  obtain ⟨M4, d1, d2, d3, d4⟩ := C_blame (p := s) (k := 1) a2 (by decide)
  obtain ⟨N4, k1, k2, k3, k4⟩ := M_fails (p := s) (k := 1) hT2 (by decide) (by decide)
  have d1 : f_Tape_blame M2 (nI s) 1 = some M4 := d1
  have k1 : f_MM_fails N2 1 (nI s) = some N4 := k1
  refine ⟨M4, N4, by rw [d1, bnd_some], by rw [k1, bnd_some], (CT.of a4).tr (CT.of d4), frN2.tr (FrH.fl k3 k4), Or.inr ⟨blm 0 s 1, ⟨⟨e, d2⟩, blm_ne (by decide), blm_lt (by decide) (by omega) (by decide), (htw.cg a4).cg d4⟩, s, k2⟩⟩
