/-! the plays that the two rows hold, and the loops that make them -/
theorem arrV_cg {cA : ClassId} {n : Nat} {f g : Nat → Value} (h : ∀ j, j < n → f j = g j) : arrV cA n f = arrV cA n g := by
  have hs : (arrV cA n f).slots = (arrV cA n g).slots := by
    apply Array.ext_getElem?
    intro i
    by_cases hi : i < n
    · rw [arrV_read _ _ hi, arrV_read _ _ hi, h i hi]
    · rw [Array.getElem?_eq_none (by rw [arrV_size]; omega), Array.getElem?_eq_none (by rw [arrV_size]; omega)]
  show ({ (arrV cA n g) with slots := (arrV cA n f).slots } : Cell) = arrV cA n g
  rw [hs]
theorem P_row {D : va_G} {cl : List vw_C} {ws : va_W} {H : Heap} {i a n : Nat} {cA : ClassId} {f g : Nat → Option Nat} (hP : va_P D cl ws H) (hi : ws[i]? = some (a, .inl (cA, n, .inr (.inr (.inr (.inr f)))))) (he : ∀ j, j < n → f j = g j) : va_P D cl (ws.set i (a, .inl (cA, n, .inr (.inr (.inr (.inr g)))))) H := by
  intro k q hk
  by_cases e : k = i
  · subst e
    have hl : k < ws.length := (List.getElem?_eq_some_iff.mp hi).1
    rw [List.getElem?_set_self hl] at hk
    cases hk
    have h0 : H[a]? = some (vp_cell cA (n, .inr (.inr (.inr (.inr f))))) := hP k _ hi
    show H[a]? = some (vp_cell cA (n, .inr (.inr (.inr (.inr g)))))
    rw [h0, vp_cell_q, vp_cell_q, arrV_cg (fun j hj => by rw [he j hj])]
  · rw [List.getElem?_set_ne (fun q => e q.symm)] at hk
    exact hP k q hk
theorem arr_uqO {D : va_G} {cl : List vw_C} {tys : List (ClassId × FieldType)} {U : State} {C : String} (hK : va_K D cl tys U) {i j : Nat} {c1 c2 : ClassId} (h1 : tys[i]? = some (c1, .object C)) (h2 : tys[j]? = some (c2, .object C)) : c1 = c2 := by
  obtain ⟨-, -, -, -, -, e1⟩ := (hK.2 i _ h1).2
  obtain ⟨-, -, -, -, -, e2⟩ := (hK.2 j _ h2).2
  exact Option.some.inj (e1.symm.trans e2)
def plC (b : Nat → Nat) (cI : ClassId) (q : Nat) : va_E := if q % 8 = 0 then .inr (0, playF b q z0) else .inl (cI, lenP.getD (q % 8) 0, .inl (if q % 8 = 1 then setRow else z0))
def plW (b : Nat → Nat) (cI : ClassId) (n : Nat) : va_W := (List.range n).map (fun q => (b q, plC b cI q))
theorem plW_at {b : Nat → Nat} {cI : ClassId} {n q : Nat} (h : q < n) : (plW b cI n)[q]? = some (b q, plC b cI q) := by
  unfold plW
  rw [List.getElem?_map, List.getElem?_range h]
  rfl
def plB (b : Nat → Nat) (n h : Nat) (a : Nat → Nat) : Nat → Nat := fun q => if q < n then b q else if q = n then h else a (q - n)
theorem plB_lo {b : Nat → Nat} {n h : Nat} {a : Nat → Nat} {q : Nat} (hq : q < n) : plB b n h a q = b q := if_pos hq
theorem plB_n {b : Nat → Nat} {n h : Nat} {a : Nat → Nat} : plB b n h a n = h := by
  unfold plB
  rw [if_neg (Nat.lt_irrefl n), if_pos rfl]
theorem plB_hi {b : Nat → Nat} {n h : Nat} {a : Nat → Nat} (j : Nat) (hj : 0 < j) : plB b n h a (n + j) = a j := by
  unfold plB
  rw [if_neg (by omega), if_neg (by omega), Nat.add_sub_cancel_left]
theorem plC_0 {b : Nat → Nat} {cI : ClassId} (k : Nat) : plC b cI (8 * k) = .inr (0, playF b (8 * k) z0) := by
  unfold plC
  rw [if_pos (by omega)]
theorem plC_1 {b : Nat → Nat} {cI : ClassId} (k : Nat) : plC b cI (8 * k + 1) = .inl (cI, 5, .inl setRow) := by
  unfold plC
  rw [show (8 * k + 1) % 8 = 1 by omega]
  rfl
theorem plC_j {b : Nat → Nat} {cI : ClassId} (k j : Nat) (h2 : 2 ≤ j) (h8 : j < 8) : plC b cI (8 * k + j) = .inl (cI, lenP.getD j 0, .inl z0) := by
  unfold plC
  rw [show (8 * k + j) % 8 = j by omega, if_neg (by omega), if_neg (by omega)]
theorem plC_cg {b b' : Nat → Nat} {cI : ClassId} {k q : Nat} (hq : q < 8 * k) (h : ∀ i, i < 8 * k → b' i = b i) : plC b' cI q = plC b cI q := by
  unfold plC
  by_cases e : q % 8 = 0
  · rw [if_pos e, if_pos e]
    unfold playF
    rw [h (q + 1) (by omega), h (q + 2) (by omega), h (q + 3) (by omega), h (q + 4) (by omega), h (q + 5) (by omega), h (q + 6) (by omega), h (q + 7) (by omega)]
  · rw [if_neg e, if_neg e]
theorem plW_add (b : Nat → Nat) (cI : ClassId) (k h : Nat) (a : Nat → Nat) : plW b cI (8 * k) ++ playW a cI h setRow = plW (plB b (8 * k) h a) cI (8 * (k + 1)) := by
  have e2 : plW (plB b (8 * k) h a) cI (8 * (k + 1)) = (List.range (8 * k)).map (fun q => (plB b (8 * k) h a q, plC (plB b (8 * k) h a) cI q)) ++ (List.range 8).map (fun j => (plB b (8 * k) h a (8 * k + j), plC (plB b (8 * k) h a) cI (8 * k + j))) := by
    unfold plW
    rw [show 8 * (k + 1) = 8 * k + 8 by omega, List.range_add, List.map_append, List.map_map]
    rfl
  rw [e2]
  have e3 : (List.range 8).map (fun j => (plB b (8 * k) h a (8 * k + j), plC (plB b (8 * k) h a) cI (8 * k + j))) = playW a cI h setRow := by
    show [(plB b (8 * k) h a (8 * k + 0), plC (plB b (8 * k) h a) cI (8 * k + 0)), (plB b (8 * k) h a (8 * k + 1), plC (plB b (8 * k) h a) cI (8 * k + 1)), (plB b (8 * k) h a (8 * k + 2), plC (plB b (8 * k) h a) cI (8 * k + 2)), (plB b (8 * k) h a (8 * k + 3), plC (plB b (8 * k) h a) cI (8 * k + 3)), (plB b (8 * k) h a (8 * k + 4), plC (plB b (8 * k) h a) cI (8 * k + 4)), (plB b (8 * k) h a (8 * k + 5), plC (plB b (8 * k) h a) cI (8 * k + 5)), (plB b (8 * k) h a (8 * k + 6), plC (plB b (8 * k) h a) cI (8 * k + 6)), (plB b (8 * k) h a (8 * k + 7), plC (plB b (8 * k) h a) cI (8 * k + 7))] = _
    rw [show 8 * k + 0 = 8 * k from rfl, plB_n, plC_0, plC_1, plC_j k 2 (by decide) (by decide), plC_j k 3 (by decide) (by decide), plC_j k 4 (by decide) (by decide), plC_j k 5 (by decide) (by decide), plC_j k 6 (by decide) (by decide), plC_j k 7 (by decide) (by decide)]
    unfold playF
    rw [plB_hi 1 (by decide), plB_hi 2 (by decide), plB_hi 3 (by decide), plB_hi 4 (by decide), plB_hi 5 (by decide), plB_hi 6 (by decide), plB_hi 7 (by decide)]
    rfl
  rw [e3]
  congr 1
  unfold plW
  refine List.map_congr_left (fun q hq => ?_)
  have hq := List.mem_range.mp hq
  rw [plB_lo hq, plC_cg hq (fun i hi => plB_lo hi)]
/-- of the base of a world: the object at 0, the row at r -/
def HasRow (B : (Nat → Option Nat) → va_W) (h0 : Nat) (fs : List Value) (r qr : Nat) (cP : ClassId) (N : Nat) : Prop := (∀ f w, (B f ++ w)[0]? = some (h0, .inr (3, fs))) ∧ (∀ f w, (B f ++ w)[r]? = some (qr, .inl (cP, N, .inr (.inr (.inr (.inr f)))))) ∧ ∀ f g w, (B f ++ w).set r (qr, .inl (cP, N, .inr (.inr (.inr (.inr g))))) = B g ++ w
section mc_loop1
variable {p : Program} {l : Launch} {e : Env} {R : Room} {s : State} {m : MethodId} {args : Array Value} {below : List Frame} {meth : Method} {c : Code} {H0 : Heap} {Q : State → Prop} {dC : Nat → ClassId} {dI : Nat → Nat → Nat} {A : Nat → Prop}
set_option maxHeartbeats 4000000 in
theorem mc_loop1 (S : CallFix p m c b_MC_init 2 s args gtb R_MC) {cI cC cP : ClassId} (hK : va_K (dC, dI) classes [(cI, .int), (cC, .char), (cP, .object "MarkedChains$Play")] s) (hA : ∀ q, H0.size ≤ q → A q) {c0 s0 : Nat} (hRc : c0 + 80 ≤ R.cells) (hRs : s0 + 1010 ≤ R.slots) (hRf : 2 ≤ R.frames) (hRl : 40 ≤ R.locals) {B : (Nat → Option Nat) → va_W} {h0 r qr : Nat} {fs : List Value} (hB : HasRow B h0 fs r qr cP 10) (hfs : fs[4]? = some (.ref qr)) (b0 : Nat → Nat)
    (kk : ∀ (f : Nat → Option Nat) (b : Nat → Nat) (H : Heap) (locs : List Loc) (ls : Array Slot), (∀ i, i < 10 → f i = some (b (8 * (0 + i)))) → (∀ q, q < 8 * 0 → b q = b0 q) → va_P (dC, dI) classes (B f ++ plW b cI (8 * (0 + 10))) H → va_D A (B f ++ plW b cI (8 * (0 + 10))) → va_S A H0 H locs → lv_has ls 2 [(1, .int (nI 10)), (0, .ref h0)] → W p l e R s m args below meth c H locs (c0 + 80) (s0 + 1010) Q (F0 m 110 ls [])) :
    ∀ (n k : Nat), k ≤ 10 → 10 - k < n → ∀ (f : Nat → Option Nat) (b : Nat → Nat) (H : Heap) (locs : List Loc) (ls : Array Slot), (∀ i, i < k → f i = some (b (8 * (0 + i)))) → (∀ q, q < 8 * 0 → b q = b0 q) → va_P (dC, dI) classes (B f ++ plW b cI (8 * (0 + k))) H → va_D A (B f ++ plW b cI (8 * (0 + k))) → va_S A H0 H locs → lv_has ls 2 [(1, .int (nI k)), (0, .ref h0)] → W p l e R s m args below meth c H locs (c0 + 8 * k) (s0 + 101 * k) Q (F0 m 85 ls []) := by
  obtain ⟨hx, hb, hml, hown, hts⟩ := id S
  intro n
  induction n with
  | zero => intro k h1 h2; omega
  | succ n ih =>
    intro k hk hn f b H locs ls hf hbb hP hD hS hl
    refine lv_iload_n hx hb d_MC_init_85 rfl (lv_at hl 0 rfl) ?_
    refine lv_bipush (v := (10 : Int32)) hx hb d_MC_init_86 (by decide) ?_
    refine lv_icmp_ge (tgt := 110) hx hb d_MC_init_88 (by decide) (fun hc => ?_) (fun hc => ?_)
    · have kN : k = 10 := by
        refine Nat.le_antisymm hk (Nat.le_of_not_lt (fun q => ?_))
        exact nI_ge (b := 10) q (by decide) hc
      subst kN
      exact kk f b H locs ls hf hbb hP hD hS hl
    · have klt : k < 10 := Nat.lt_of_not_le (fun q => hc ((nI_leI (a := 10) (by decide) (by omega)).mpr q))
      refine lv_aload_n hx hb d_MC_init_91 rfl (lv_at hl 1 rfl) ?_
      refine va_get (D := (dC, dI)) (ci := 3) (C := R_MC) (T := T_MC) (N := 8) hx hb hts i_MC hown hK hP 0 (hB.1 f _) rfl 4 (by decide) (hts _ w2_75) (fun _ h9 => h9) hfs d_MC_init_92 ?_
      refine lv_iload_n hx hb d_MC_init_95 rfl (lv_at hl 0 rfl) ?_
      refine w_newPlay S (hts _ w1_24) (hts _ w1_26) hK hP hD hS hA (by omega) (by omega) hRf hRl hl.1 (Nat.le_of_ble_eq_true rfl) d_MC_init_96 d_MC_init_99 d_MC_init_100 (fun a cI' h H locs hK1 hP hD hS => ?_)
      obtain rfl : cI = cI' := arr_uq (hK.app hK1) (i := 0) (j := 3) rfl rfl
      rw [List.append_assoc, plW_add] at hP hD
      have hb9 : plB b (8 * (0 + k)) h a (8 * (0 + k)) = h := plB_n
      generalize hb' : plB b (8 * (0 + k)) h a = b' at hP hD hb9
      have hlo : ∀ q, q < 8 * (0 + k) → b' q = b q := fun q hq => by rw [← hb']; exact plB_lo hq
      have hv : (B f ++ plW b' cI (8 * (0 + k + 1)))[(B f).length + 8 * (0 + k)]? = some (h, .inr (0, playF b' (8 * (0 + k)) z0)) := by
        rw [List.getElem?_append_right (by omega), Nat.add_sub_cancel_left, plW_at (by omega), hb9, plC_0]
      refine va_astq (D := (dC, dI)) hx hb hK hP hD hS r 2 ((B f).length + 8 * (0 + k)) 0 (hB.2.1 f _) rfl hv rfl (vp_nI klt (by decide)) d_MC_init_103 (fun H locs hP hD hS => ?_)
      rw [hB.2.2] at hP hD
      refine lv_iinc (v := nI (k + 1)) (lv' := [(1, .int (nI (k + 1))), (0, .ref h0)]) hx hb d_MC_init_104 hl (k := 0) rfl (by rw [nI_succ]; rfl) (by decide) rfl (fun ls hl => ?_)
      refine lv_goto (tgt := 85) hx hb d_MC_init_107 (by decide) ?_
      refine W.widen (k := c0 + 8 * (k + 1)) (n := s0 + 101 * (k + 1)) (by omega) (by omega) ?_
      refine ih (k + 1) klt (by omega) _ b' H locs ls (fun i hi => ?_) (fun q hq => by rw [hlo q (by omega)]; exact hbb q hq) hP hD hS hl
      rw [nI_clamp (by omega)]
      by_cases e9 : i = k
      · subst e9
        rw [va_up_self, hb9]
      · rw [va_up_ne _ _ e9, hlo _ (by omega)]
        exact hf i (by omega)
end mc_loop1
section mc_loop2
variable {p : Program} {l : Launch} {e : Env} {R : Room} {s : State} {m : MethodId} {args : Array Value} {below : List Frame} {meth : Method} {c : Code} {H0 : Heap} {Q : State → Prop} {dC : Nat → ClassId} {dI : Nat → Nat → Nat} {A : Nat → Prop}
set_option maxHeartbeats 4000000 in
theorem mc_loop2 (S : CallFix p m c b_MC_init 2 s args gtb R_MC) {cI cC cP : ClassId} (hK : va_K (dC, dI) classes [(cI, .int), (cC, .char), (cP, .object "MarkedChains$Play")] s) (hA : ∀ q, H0.size ≤ q → A q) {c0 s0 : Nat} (hRc : c0 + 16 ≤ R.cells) (hRs : s0 + 202 ≤ R.slots) (hRf : 2 ≤ R.frames) (hRl : 40 ≤ R.locals) {B : (Nat → Option Nat) → va_W} {h0 r qr : Nat} {fs : List Value} (hB : HasRow B h0 fs r qr cP 2) (hfs : fs[5]? = some (.ref qr)) (b0 : Nat → Nat)
    (kk : ∀ (f : Nat → Option Nat) (b : Nat → Nat) (H : Heap) (locs : List Loc) (ls : Array Slot), (∀ i, i < 2 → f i = some (b (8 * (10 + i)))) → (∀ q, q < 8 * 10 → b q = b0 q) → va_P (dC, dI) classes (B f ++ plW b cI (8 * (10 + 2))) H → va_D A (B f ++ plW b cI (8 * (10 + 2))) → va_S A H0 H locs → lv_has ls 2 [(1, .int (nI 2)), (0, .ref h0)] → W p l e R s m args below meth c H locs (c0 + 16) (s0 + 202) Q (F0 m 136 ls [])) :
    ∀ (n k : Nat), k ≤ 2 → 2 - k < n → ∀ (f : Nat → Option Nat) (b : Nat → Nat) (H : Heap) (locs : List Loc) (ls : Array Slot), (∀ i, i < k → f i = some (b (8 * (10 + i)))) → (∀ q, q < 8 * 10 → b q = b0 q) → va_P (dC, dI) classes (B f ++ plW b cI (8 * (10 + k))) H → va_D A (B f ++ plW b cI (8 * (10 + k))) → va_S A H0 H locs → lv_has ls 2 [(1, .int (nI k)), (0, .ref h0)] → W p l e R s m args below meth c H locs (c0 + 8 * k) (s0 + 101 * k) Q (F0 m 112 ls []) := by
  obtain ⟨hx, hb, hml, hown, hts⟩ := id S
  intro n
  induction n with
  | zero => intro k h1 h2; omega
  | succ n ih =>
    intro k hk hn f b H locs ls hf hbb hP hD hS hl
    refine lv_iload_n hx hb d_MC_init_112 rfl (lv_at hl 0 rfl) ?_
    refine lv_iconst (v := (2 : Int32)) hx hb d_MC_init_113 (by decide) ?_
    refine lv_icmp_ge (tgt := 136) hx hb d_MC_init_114 (by decide) (fun hc => ?_) (fun hc => ?_)
    · have kN : k = 2 := by
        refine Nat.le_antisymm hk (Nat.le_of_not_lt (fun q => ?_))
        exact nI_ge (b := 2) q (by decide) hc
      subst kN
      exact kk f b H locs ls hf hbb hP hD hS hl
    · have klt : k < 2 := Nat.lt_of_not_le (fun q => hc ((nI_leI (a := 2) (by decide) (by omega)).mpr q))
      refine lv_aload_n hx hb d_MC_init_117 rfl (lv_at hl 1 rfl) ?_
      refine va_get (D := (dC, dI)) (ci := 3) (C := R_MC) (T := T_MC) (N := 8) hx hb hts i_MC hown hK hP 0 (hB.1 f _) rfl 5 (by decide) (hts _ w2_76) (fun _ h9 => h9) hfs d_MC_init_118 ?_
      refine lv_iload_n hx hb d_MC_init_121 rfl (lv_at hl 0 rfl) ?_
      refine w_newPlay S (hts _ w1_24) (hts _ w1_26) hK hP hD hS hA (by omega) (by omega) hRf hRl hl.1 (Nat.le_of_ble_eq_true rfl) d_MC_init_122 d_MC_init_125 d_MC_init_126 (fun a cI' h H locs hK1 hP hD hS => ?_)
      obtain rfl : cI = cI' := arr_uq (hK.app hK1) (i := 0) (j := 3) rfl rfl
      rw [List.append_assoc, plW_add] at hP hD
      have hb9 : plB b (8 * (10 + k)) h a (8 * (10 + k)) = h := plB_n
      generalize hb' : plB b (8 * (10 + k)) h a = b' at hP hD hb9
      have hlo : ∀ q, q < 8 * (10 + k) → b' q = b q := fun q hq => by rw [← hb']; exact plB_lo hq
      have hv : (B f ++ plW b' cI (8 * (10 + k + 1)))[(B f).length + 8 * (10 + k)]? = some (h, .inr (0, playF b' (8 * (10 + k)) z0)) := by
        rw [List.getElem?_append_right (by omega), Nat.add_sub_cancel_left, plW_at (by omega), hb9, plC_0]
      refine va_astq (D := (dC, dI)) hx hb hK hP hD hS r 2 ((B f).length + 8 * (10 + k)) 0 (hB.2.1 f _) rfl hv rfl (vp_nI klt (by decide)) d_MC_init_129 (fun H locs hP hD hS => ?_)
      rw [hB.2.2] at hP hD
      refine lv_iinc (v := nI (k + 1)) (lv' := [(1, .int (nI (k + 1))), (0, .ref h0)]) hx hb d_MC_init_130 hl (k := 0) rfl (by rw [nI_succ]; rfl) (by decide) rfl (fun ls hl => ?_)
      refine lv_goto (tgt := 112) hx hb d_MC_init_133 (by decide) ?_
      refine W.widen (k := c0 + 8 * (k + 1)) (n := s0 + 101 * (k + 1)) (by omega) (by omega) ?_
      refine ih (k + 1) klt (by omega) _ b' H locs ls (fun i hi => ?_) (fun q hq => by rw [hlo q (by omega)]; exact hbb q hq) hP hD hS hl
      rw [nI_clamp (by omega)]
      by_cases e9 : i = k
      · subst e9
        rw [va_up_self, hb9]
      · rw [va_up_ne _ _ e9, hlo _ (by omega)]
        exact hf i (by omega)
end mc_loop2
