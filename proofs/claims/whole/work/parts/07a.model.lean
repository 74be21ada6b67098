noncomputable def f_MM_begins_L2 (a0 n0 : Nat) (x1 : Int32) (M : Mem) : Option ((Int32 × Mem) ⊕ Mem) := if (302 : Int32) ≤ x1 then 
    gIn (3 : Int32) n0 (lt1 (upM M a0 (((3 : Int32)).toNatClampNeg) (1 : Int32)) (fun M2 => 
    gIn (5 : Int32) n0 (lt1 (upM M2 a0 (((5 : Int32)).toNatClampNeg) (2 : Int32)) (fun M4 => some (.inr M4))))) else 
    gIn x1 n0 (lt1 (upM M a0 x1.toNatClampNeg (0 : Int32)) (fun M6 => some (.inl (x1 + (1 : Int32), M6))))
noncomputable def f_MM_begins_W2 (a0 n0 : Nat) (u : (Int32 × Mem)) : Option Mem := loop (fun t => f_MM_begins_L2 a0 n0 t.1 t.2) u
noncomputable def f_MM_begins_J2 (a0 n0 : Nat) (M : Mem) (x1 : Int32) : Option (Mem) := bnd (f_MM_begins_W2 a0 n0 (x1, M)) (fun e2 => some e2)
noncomputable def f_MM_begins (a0 n0 : Nat) (M : Mem) : Option Mem := f_MM_begins_J2 a0 n0 M (0 : Int32)
set_option maxHeartbeats 4000000 in
theorem wk_MM_begins {l : Launch} {Z : WD} (hI : wI Z) (a0 n0 : Nat) (M : Mem) (ha0 : AA .int Z a0 n0) {M' : Mem} {p : Program} {e : Env} {R : Room} {s : State} {m : MethodId} {args : Array Value} {below : List Frame} {meth : Method} {c : Code} {H : Heap} {locs : List Loc} {ls : Array Slot} {Q : State → Prop} (S : CallFix p m c b_MM_begins 2 s args gtb R_MM) (hX : wX Z s) (hR : 0 ≤ R.frames ∧ 0 ≤ R.locals) (hQ : ∀ (pc : Nat) (H : Heap) (locs : List Loc) (ls : Array Slot), HW Z M' s H locs → decode b_MM_begins pc = .ok (.return_, 1) → W p l e R s m args below meth c H locs 0 0 Q (F0 m pc ls [])) (hf0 : f_MM_begins a0 n0 M = some M') (hH : HW Z M s H locs) (hl : lv_has ls 2 [(0, .ref (Z.2.2.1 a0))]) : W p l e R s m args below meth c H locs 0 0 Q (F0 m 0 ls []) := by
  have hx := S.1
  have hb := S.2.1
  have hown := S.2.2.2.1
  have ht := S.2.2.2.2
  unfold f_MM_begins at hf0
  have J2 : ∀ (M : Mem) (x1 : Int32) (H : Heap) (locs : List Loc) (ls : Array Slot), f_MM_begins_J2 a0 n0 M x1 = some M' → HW Z M s H locs → lv_has ls 2 [(0, .ref (Z.2.2.1 a0)), (1, .int x1)] → W p l e R s m args below meth c H locs 0 0 Q (F0 m 2 ls []) := by
    intro M x1 H locs ls hf0 hH hl
    unfold f_MM_begins_J2 at hf0
    obtain ⟨e2, he2, hf0⟩ := o_b hf0
    unfold f_MM_begins_W2 at he2
    refine loop_W (fun t => ∀ (H : Heap) (locs : List Loc) (ls : Array Slot), HW Z t.2 s H locs → lv_has ls 2 [(0, .ref (Z.2.2.1 a0)), (1, .int t.1)] → W p l e R s m args below meth c H locs 0 0 Q (F0 m 2 ls [])) ?_ he2 H locs ls hH hl
    rintro ⟨x1, M⟩ o1 hf1 hG1 hR1 H locs ls hH hl
    replace hH : HW Z M s H locs := hH
    replace hl : lv_has ls 2 [(0, .ref (Z.2.2.1 a0)), (1, .int x1)] := hl
    replace hf1 : f_MM_begins_L2 a0 n0 x1 M = some o1 := hf1
    unfold f_MM_begins_L2 at hf1
    refine lv_iload_n hx hb d_MM_begins_2 rfl (lv_at hl 1 rfl) ?_
    refine lv_sipush (v := (302 : Int32)) hx hb d_MM_begins_3 (by decide) ?_
    refine lv_icmp_ge (tgt := 19) hx hb d_MM_begins_6 (by decide) (fun hc => ?_) (fun hc => ?_)
    · replace hf1 := o_t hc hf1
      refine lv_aload_n hx hb d_MM_begins_19 rfl (lv_at hl 0 rfl) ?_
      refine lv_iconst (v := (3 : Int32)) hx hb d_MM_begins_20 (by decide) ?_
      refine lv_iconst (v := (1 : Int32)) hx hb d_MM_begins_21 (by decide) ?_
      obtain ⟨hn1, hf1⟩ := o_in hf1
      obtain ⟨M2, hM2, hf1⟩ := o_l hf1
      refine q_iast (j := ((3 : Int32)).toNatClampNeg) hx hb hX hI hH ha0 hn1 rfl d_MM_begins_22 (fun H locs hH => ?_)
      rw [hM2] at hH
      refine lv_aload_n hx hb d_MM_begins_23 rfl (lv_at hl 0 rfl) ?_
      refine lv_iconst (v := (5 : Int32)) hx hb d_MM_begins_24 (by decide) ?_
      refine lv_iconst (v := (2 : Int32)) hx hb d_MM_begins_25 (by decide) ?_
      obtain ⟨hn3, hf1⟩ := o_in hf1
      obtain ⟨M4, hM4, hf1⟩ := o_l hf1
      refine q_iast (j := ((5 : Int32)).toNatClampNeg) hx hb hX hI hH ha0 hn3 rfl d_MM_begins_26 (fun H locs hH => ?_)
      rw [hM4] at hH
      obtain rfl := hR1 _ (o_v hf1).symm
      obtain rfl := o_v hf0
      exact hQ _ _ _ _ hH d_MM_begins_27
    · replace hf1 := o_f hc hf1
      refine lv_aload_n hx hb d_MM_begins_9 rfl (lv_at hl 0 rfl) ?_
      refine lv_iload_n hx hb d_MM_begins_10 rfl (lv_at hl 1 rfl) ?_
      refine lv_iconst (v := (0 : Int32)) hx hb d_MM_begins_11 (by decide) ?_
      obtain ⟨hn5, hf1⟩ := o_in hf1
      obtain ⟨M6, hM6, hf1⟩ := o_l hf1
      refine q_iast (j := x1.toNatClampNeg) hx hb hX hI hH ha0 hn5 rfl d_MM_begins_12 (fun H locs hH => ?_)
      rw [hM6] at hH
      refine lv_iinc (v := x1 + (1 : Int32)) (lv' := [(1, .int (x1 + (1 : Int32))), (0, .ref (Z.2.2.1 a0))]) hx hb d_MM_begins_13 hl (k := 1) rfl rfl (by decide) rfl (fun ls hl => ?_)
      refine lv_goto (tgt := 2) hx hb d_MM_begins_16 (by decide) ?_
      exact hG1 _ (o_v hf1).symm _ _ _ hH (lv_sub hl [1, 0] rfl)
  refine lv_iconst (v := (0 : Int32)) hx hb d_MM_begins_0 (by decide) ?_
  refine lv_istore_n (lv' := [(1, .int (0 : Int32)), (0, .ref (Z.2.2.1 a0))]) hx hb d_MM_begins_1 rfl hl (by decide) rfl (fun ls hl => ?_)
  exact J2 _ _ _ _ _ hf0 hH (lv_sub hl [1, 0] rfl)
theorem c_MM_begins (l : Launch) {Z : WD} (hI : wI Z) (a0 n0 : Nat) (M : Mem) (ha0 : AA .int Z a0 n0) {M' : Mem} (hf : f_MM_begins a0 n0 M = some M') : Cv l Z y_MM_begins b_MM_begins 2 none 0 0 [.ref (Z.2.2.1 a0)] M M' := by
  refine Met.ofW (cc := b_MM_begins) (maxL := 2) (ret := none) (by decide) rfl ?_
  intro p e s m args below meth c s₁ B hml hv
  obtain ⟨rfl, hP, hX⟩ := hv
  have S : CallFix p m c b_MM_begins 2 s ([.ref (Z.2.2.1 a0)] : List Value).toArray gtb R_MM := ⟨B.exec, B.bytes, hml, findClass_of_methodNamed B.named, fun w hw => atoms_spec (ws := .code y_MM_begins b_MM_begins 2 none :: gtb) B.pre w (List.mem_cons_of_mem _ hw)⟩
  have hl := lv_entry ([.ref (Z.2.2.1 a0)]) (n := 2) (Nat.le_of_ble_eq_true rfl)
  rw [lg_entry_eq]
  exact wk_MM_begins hI a0 n0 M ha0 S hX ⟨Nat.le_refl _, Nat.le_refl _⟩ (fun pc H locs ls hH d => q_rv S.1 S.2.1 B.returns B.notSynchronized hH rfl d) hf ⟨hP, va_S.rf⟩ hl
noncomputable def f_MM_puts_L3 (x1 : Int32) (x2 : Int32) (M : Mem) : Option ((Int32 × Mem) ⊕ Mem) := if x2 < 0 then some (.inr M) else 
    gIn (M 0 8) 400 (lt1 (upM M 7 ((M 0 8).toNatClampNeg) (vp_nar .byte ((x1 >>> (x2 &&& 31)).toInt8.toInt32))) (fun M2 => lt1 (upM M2 0 8 ((M2 0 8) + (1 : Int32))) (fun M3 => some (.inl (x2 + (-8 : Int32), M3)))))
noncomputable def f_MM_puts_W3 (x1 : Int32) (u : (Int32 × Mem)) : Option Mem := loop (fun t => f_MM_puts_L3 x1 t.1 t.2) u
noncomputable def f_MM_puts_J3 (M : Mem) (x1 : Int32) (x2 : Int32) : Option (Mem) := bnd (f_MM_puts_W3 x1 (x2, M)) (fun e3 => some e3)
noncomputable def f_MM_puts (M : Mem) (x1 : Int32) : Option Mem := f_MM_puts_J3 M x1 (24 : Int32)
set_option maxHeartbeats 4000000 in
theorem wk_MM_puts {l : Launch} {Z : WD} (hI : wI Z) (hZ : IsM Z) (M : Mem) (x1 : Int32) {M' : Mem} {p : Program} {e : Env} {R : Room} {s : State} {m : MethodId} {args : Array Value} {below : List Frame} {meth : Method} {c : Code} {H : Heap} {locs : List Loc} {ls : Array Slot} {Q : State → Prop} (S : CallFix p m c b_MM_puts 3 s args gtb R_MM) (hX : wX Z s) (hR : 0 ≤ R.frames ∧ 0 ≤ R.locals) (hQ : ∀ (pc : Nat) (H : Heap) (locs : List Loc) (ls : Array Slot), HW Z M' s H locs → decode b_MM_puts pc = .ok (.return_, 1) → W p l e R s m args below meth c H locs 0 0 Q (F0 m pc ls [])) (hf0 : f_MM_puts M x1 = some M') (hH : HW Z M s H locs) (hl : lv_has ls 3 [(0, .ref (Z.2.2.1 0)), (1, .int x1)]) : W p l e R s m args below meth c H locs 0 0 Q (F0 m 0 ls []) := by
  have hx := S.1
  have hb := S.2.1
  have hown := S.2.2.2.1
  have ht := S.2.2.2.2
  unfold f_MM_puts at hf0
  have J3 : ∀ (M : Mem) (x1 : Int32) (x2 : Int32) (H : Heap) (locs : List Loc) (ls : Array Slot), f_MM_puts_J3 M x1 x2 = some M' → HW Z M s H locs → lv_has ls 3 [(0, .ref (Z.2.2.1 0)), (1, .int x1), (2, .int x2)] → W p l e R s m args below meth c H locs 0 0 Q (F0 m 3 ls []) := by
    intro M x1 x2 H locs ls hf0 hH hl
    unfold f_MM_puts_J3 at hf0
    obtain ⟨e3, he3, hf0⟩ := o_b hf0
    unfold f_MM_puts_W3 at he3
    refine loop_W (fun t => ∀ (H : Heap) (locs : List Loc) (ls : Array Slot), HW Z t.2 s H locs → lv_has ls 3 [(0, .ref (Z.2.2.1 0)), (1, .int x1), (2, .int t.1)] → W p l e R s m args below meth c H locs 0 0 Q (F0 m 3 ls [])) ?_ he3 H locs ls hH hl
    rintro ⟨x2, M⟩ o1 hf1 hG1 hR1 H locs ls hH hl
    replace hH : HW Z M s H locs := hH
    replace hl : lv_has ls 3 [(0, .ref (Z.2.2.1 0)), (1, .int x1), (2, .int x2)] := hl
    replace hf1 : f_MM_puts_L3 x1 x2 M = some o1 := hf1
    unfold f_MM_puts_L3 at hf1
    refine lv_iload_n hx hb d_MM_puts_3 rfl (lv_at hl 2 rfl) ?_
    refine lv_if_lt (tgt := 36) hx hb d_MM_puts_4 (by decide) (fun hc => ?_) (fun hc => ?_)
    · replace hf1 := o_t hc hf1
      obtain rfl := hR1 _ (o_v hf1).symm
      obtain rfl := o_v hf0
      exact hQ _ _ _ _ hH d_MM_puts_36
    · replace hf1 := o_f hc hf1
      refine lv_aload_n hx hb d_MM_puts_7 rfl (lv_at hl 0 rfl) ?_
      refine g_MM_29 S hX hH hZ d_MM_puts_8 ?_
      refine lv_aload_n hx hb d_MM_puts_11 rfl (lv_at hl 0 rfl) ?_
      refine g_MM_80 S hX hH hZ d_MM_puts_12 ?_
      refine lv_iload_n hx hb d_MM_puts_15 rfl (lv_at hl 1 rfl) ?_
      refine lv_iload_n hx hb d_MM_puts_16 rfl (lv_at hl 2 rfl) ?_
      refine lv_ishr hx hb d_MM_puts_17 ?_
      refine lv_i2b hx hb d_MM_puts_18 rfl ?_
      obtain ⟨hn1, hf1⟩ := o_in hf1
      obtain ⟨M2, hM2, hf1⟩ := o_l hf1
      refine q_bast (j := (M 0 8).toNatClampNeg) hx hb hX hI hH (aa_MM_7 hZ) hn1 rfl d_MM_puts_19 (fun H locs hH => ?_)
      rw [hM2] at hH
      refine lv_aload_n hx hb d_MM_puts_20 rfl (lv_at hl 0 rfl) ?_
      refine lv_dup hx hb d_MM_puts_21 rfl ?_
      refine g_MM_80 S hX hH hZ d_MM_puts_22 ?_
      refine lv_iconst (v := (1 : Int32)) hx hb d_MM_puts_25 (by decide) ?_
      refine lv_iadd hx hb d_MM_puts_26 ?_
      obtain ⟨M3, hM3, hf1⟩ := o_l hf1
      refine s_MM_80 S hX hI hH hZ d_MM_puts_27 (fun H locs hH => ?_)
      rw [hM3] at hH
      refine lv_iinc (v := x2 + (-8 : Int32)) (lv' := [(2, .int (x2 + (-8 : Int32))), (0, .ref (Z.2.2.1 0)), (1, .int x1)]) hx hb d_MM_puts_30 hl (k := 2) rfl rfl (by decide) rfl (fun ls hl => ?_)
      refine lv_goto (tgt := 3) hx hb d_MM_puts_33 (by decide) ?_
      exact hG1 _ (o_v hf1).symm _ _ _ hH (lv_sub hl [1, 2, 0] rfl)
  refine lv_bipush (v := (24 : Int32)) hx hb d_MM_puts_0 (by decide) ?_
  refine lv_istore_n (lv' := [(2, .int (24 : Int32)), (0, .ref (Z.2.2.1 0)), (1, .int x1)]) hx hb d_MM_puts_2 rfl hl (by decide) rfl (fun ls hl => ?_)
  exact J3 _ _ _ _ _ _ hf0 hH (lv_sub hl [1, 2, 0] rfl)
theorem c_MM_puts (l : Launch) {Z : WD} (hI : wI Z) (hZ : IsM Z) (M : Mem) (x1 : Int32) {M' : Mem} (hf : f_MM_puts M x1 = some M') : Cv l Z y_MM_puts b_MM_puts 3 none 0 0 [.ref (Z.2.2.1 0), .int x1] M M' := by
  refine Met.ofW (cc := b_MM_puts) (maxL := 3) (ret := none) (by decide) rfl ?_
  intro p e s m args below meth c s₁ B hml hv
  obtain ⟨rfl, hP, hX⟩ := hv
  have S : CallFix p m c b_MM_puts 3 s ([.ref (Z.2.2.1 0), .int x1] : List Value).toArray gtb R_MM := ⟨B.exec, B.bytes, hml, findClass_of_methodNamed B.named, fun w hw => atoms_spec (ws := .code y_MM_puts b_MM_puts 3 none :: gtb) B.pre w (List.mem_cons_of_mem _ hw)⟩
  have hl := lv_entry ([.ref (Z.2.2.1 0), .int x1]) (n := 3) (Nat.le_of_ble_eq_true rfl)
  rw [lg_entry_eq]
  exact wk_MM_puts hI hZ M x1 S hX ⟨Nat.le_refl _, Nat.le_refl _⟩ (fun pc H locs ls hH d => q_rv S.1 S.2.1 B.returns B.notSynchronized hH rfl d) hf ⟨hP, va_S.rf⟩ hl
theorem cw_MM_83 {R : Room} {s : State} {args : Array Value} (ht : ∀ w ∈ gtb, w.before args s = true) (h1 : 0 + 1 ≤ R.frames) (h2 : 8 + (3 + 11) + 0 ≤ R.locals) : CallW R s args R_MM R_MM 83 y_MM_puts b_MM_puts 3 none (.code y_MM_puts b_MM_puts 3 none :: gtb) { frames := 0, cells := 0, slots := 0, locals := 0 } 0 0 1 := cwV 1 ht (gV w5_55 w5_57 ws_MM_puts w1_10 w5_58) rfl rfl rfl ⟨rfl, by decide, by decide, by decide +kernel⟩ ⟨h1, h2⟩
noncomputable def f_MM_feed (M : Mem) (x1 : Int32) (x2 : Int32) (x3 : Int32) (x4 : Int32) (x5 : Int32) : Option (Int32 × Mem) := 
    if ((M 0 8) + (20 : Int32)) ≤ (400 : Int32) then 
    bnd (f_MM_puts M x1) (fun M2 => 
    bnd (f_MM_puts M2 x2) (fun M4 => 
    bnd (f_MM_puts M4 x3) (fun M6 => bnd (f_MM_puts M6 x4) (fun M8 => bnd (f_MM_puts M8 x5) (fun M10 => some (M10 0 8, M10)))))) else some ((-1 : Int32), M)
set_option maxHeartbeats 4000000 in
theorem wk_MM_feed {l : Launch} {Z : WD} (hI : wI Z) (hZ : IsM Z) (M : Mem) (x1 : Int32) (x2 : Int32) (x3 : Int32) (x4 : Int32) (x5 : Int32) {r : Int32} {M' : Mem} {p : Program} {e : Env} {R : Room} {s : State} {m : MethodId} {args : Array Value} {below : List Frame} {meth : Method} {c : Code} {H : Heap} {locs : List Loc} {ls : Array Slot} {Q : State → Prop} (S : CallFix p m c b_MM_feed 6 s args gtb R_MM) (hX : wX Z s) (hR : 1 ≤ R.frames ∧ 22 ≤ R.locals) (hQ : ∀ (pc : Nat) (H : Heap) (locs : List Loc) (ls : Array Slot), HW Z M' s H locs → decode b_MM_feed pc = .ok (.ireturn, 1) → W p l e R s m args below meth c H locs 0 0 Q (F0 m pc ls [.int r])) (hf0 : f_MM_feed M x1 x2 x3 x4 x5 = some (r, M')) (hH : HW Z M s H locs) (hl : lv_has ls 6 [(0, .ref (Z.2.2.1 0)), (1, .int x1), (2, .int x2), (3, .int x3), (4, .int x4), (5, .int x5)]) : W p l e R s m args below meth c H locs 0 0 Q (F0 m 0 ls []) := by
  have hx := S.1
  have hb := S.2.1
  have hown := S.2.2.2.1
  have ht := S.2.2.2.2
  unfold f_MM_feed at hf0
  refine lv_aload_n hx hb d_MM_feed_0 rfl (lv_at hl 0 rfl) ?_
  refine g_MM_80 S hX hH hZ d_MM_feed_1 ?_
  refine lv_bipush (v := (20 : Int32)) hx hb d_MM_feed_4 (by decide) ?_
  refine lv_iadd hx hb d_MM_feed_6 ?_
  refine lv_sipush (v := (400 : Int32)) hx hb d_MM_feed_7 (by decide) ?_
  refine lv_icmp_le (tgt := 15) hx hb d_MM_feed_10 (by decide) (fun hc => ?_) (fun hc => ?_)
  · replace hf0 := o_t hc hf0
    refine lv_aload_n hx hb d_MM_feed_15 rfl (lv_at hl 0 rfl) ?_
    refine lv_iload_n hx hb d_MM_feed_16 rfl (lv_at hl 1 rfl) ?_
    obtain ⟨M2, hc1, hf0⟩ := o_b hf0
    refine q_cVv (As := [.int x1]) (rest := []) S hX hH (c_MM_puts l hI hZ M x1 hc1) (cw_MM_83 S.2.2.2.2 (Nat.le_trans (Nat.le_of_ble_eq_true rfl) hR.1) (Nat.le_trans (Nat.le_of_ble_eq_true rfl) hR.2)) (rc_MM hX hH hZ) rfl hl.1 rfl (Nat.le_of_ble_eq_true rfl) d_MM_feed_17 ⟨Nat.zero_le _, Nat.zero_le _⟩ (fun H locs hH => ?_)
    refine lv_aload_n hx hb d_MM_feed_20 rfl (lv_at hl 0 rfl) ?_
    refine lv_iload_n hx hb d_MM_feed_21 rfl (lv_at hl 2 rfl) ?_
    obtain ⟨M4, hc3, hf0⟩ := o_b hf0
    refine q_cVv (As := [.int x2]) (rest := []) S hX hH (c_MM_puts l hI hZ M2 x2 hc3) (cw_MM_83 S.2.2.2.2 (Nat.le_trans (Nat.le_of_ble_eq_true rfl) hR.1) (Nat.le_trans (Nat.le_of_ble_eq_true rfl) hR.2)) (rc_MM hX hH hZ) rfl hl.1 rfl (Nat.le_of_ble_eq_true rfl) d_MM_feed_22 ⟨Nat.zero_le _, Nat.zero_le _⟩ (fun H locs hH => ?_)
    refine lv_aload_n hx hb d_MM_feed_25 rfl (lv_at hl 0 rfl) ?_
    refine lv_iload_n hx hb d_MM_feed_26 rfl (lv_at hl 3 rfl) ?_
    obtain ⟨M6, hc5, hf0⟩ := o_b hf0
    refine q_cVv (As := [.int x3]) (rest := []) S hX hH (c_MM_puts l hI hZ M4 x3 hc5) (cw_MM_83 S.2.2.2.2 (Nat.le_trans (Nat.le_of_ble_eq_true rfl) hR.1) (Nat.le_trans (Nat.le_of_ble_eq_true rfl) hR.2)) (rc_MM hX hH hZ) rfl hl.1 rfl (Nat.le_of_ble_eq_true rfl) d_MM_feed_27 ⟨Nat.zero_le _, Nat.zero_le _⟩ (fun H locs hH => ?_)
    refine lv_aload_n hx hb d_MM_feed_30 rfl (lv_at hl 0 rfl) ?_
    refine lv_iload hx hb d_MM_feed_31 (lv_at hl 4 rfl) ?_
    obtain ⟨M8, hc7, hf0⟩ := o_b hf0
    refine q_cVv (As := [.int x4]) (rest := []) S hX hH (c_MM_puts l hI hZ M6 x4 hc7) (cw_MM_83 S.2.2.2.2 (Nat.le_trans (Nat.le_of_ble_eq_true rfl) hR.1) (Nat.le_trans (Nat.le_of_ble_eq_true rfl) hR.2)) (rc_MM hX hH hZ) rfl hl.1 rfl (Nat.le_of_ble_eq_true rfl) d_MM_feed_33 ⟨Nat.zero_le _, Nat.zero_le _⟩ (fun H locs hH => ?_)
    refine lv_aload_n hx hb d_MM_feed_36 rfl (lv_at hl 0 rfl) ?_
    refine lv_iload hx hb d_MM_feed_37 (lv_at hl 5 rfl) ?_
    obtain ⟨M10, hc9, hf0⟩ := o_b hf0
    refine q_cVv (As := [.int x5]) (rest := []) S hX hH (c_MM_puts l hI hZ M8 x5 hc9) (cw_MM_83 S.2.2.2.2 (Nat.le_trans (Nat.le_of_ble_eq_true rfl) hR.1) (Nat.le_trans (Nat.le_of_ble_eq_true rfl) hR.2)) (rc_MM hX hH hZ) rfl hl.1 rfl (Nat.le_of_ble_eq_true rfl) d_MM_feed_39 ⟨Nat.zero_le _, Nat.zero_le _⟩ (fun H locs hH => ?_)
    refine lv_aload_n hx hb d_MM_feed_42 rfl (lv_at hl 0 rfl) ?_
    refine g_MM_80 S hX hH hZ d_MM_feed_43 ?_
    obtain ⟨rfl, rfl⟩ := o_p hf0
    exact hQ _ _ _ _ hH d_MM_feed_46
  · replace hf0 := o_f hc hf0
    refine lv_iconst (v := (-1 : Int32)) hx hb d_MM_feed_13 (by decide) ?_
    obtain ⟨rfl, rfl⟩ := o_p hf0
    exact hQ _ _ _ _ hH d_MM_feed_14
theorem c_MM_feed (l : Launch) {Z : WD} (hI : wI Z) (hZ : IsM Z) (M : Mem) (x1 : Int32) (x2 : Int32) (x3 : Int32) (x4 : Int32) (x5 : Int32) {r : Int32} {M' : Mem} (hf : f_MM_feed M x1 x2 x3 x4 x5 = some (r, M')) : Ci l Z y_MM_feed b_MM_feed 6 (some .int) 1 22 [.ref (Z.2.2.1 0), .int x1, .int x2, .int x3, .int x4, .int x5] M M' r := by
  refine Met.ofW (cc := b_MM_feed) (maxL := 6) (ret := (some .int)) (by decide) rfl ?_
  intro p e s m args below meth c s₁ B hml hv
  obtain ⟨rfl, hP, hX⟩ := hv
  have S : CallFix p m c b_MM_feed 6 s ([.ref (Z.2.2.1 0), .int x1, .int x2, .int x3, .int x4, .int x5] : List Value).toArray gtb R_MM := ⟨B.exec, B.bytes, hml, findClass_of_methodNamed B.named, fun w hw => atoms_spec (ws := .code y_MM_feed b_MM_feed 6 (some .int) :: gtb) B.pre w (List.mem_cons_of_mem _ hw)⟩
  have hl := lv_entry ([.ref (Z.2.2.1 0), .int x1, .int x2, .int x3, .int x4, .int x5]) (n := 6) (Nat.le_of_ble_eq_true rfl)
  rw [lg_entry_eq]
  exact wk_MM_feed hI hZ M x1 x2 x3 x4 x5 S hX ⟨Nat.le_refl _, Nat.le_refl _⟩ (fun pc H locs ls hH d => q_ri S.1 S.2.1 B.returns B.notSynchronized hH rfl rfl d) hf ⟨hP, va_S.rf⟩ hl
noncomputable def f_MM_end (M : Mem) (x1 : Int32) : Option (Int32 × Mem) := 
    if x1 < 0 then some ((-1 : Int32), M) else if x1 ≤ (M 0 8) then lt1 (upM M 0 8 x1) (fun M1 => some (x1, M1)) else some ((-1 : Int32), M)
set_option maxHeartbeats 4000000 in
theorem wk_MM_end {l : Launch} {Z : WD} (hI : wI Z) (hZ : IsM Z) (M : Mem) (x1 : Int32) {r : Int32} {M' : Mem} {p : Program} {e : Env} {R : Room} {s : State} {m : MethodId} {args : Array Value} {below : List Frame} {meth : Method} {c : Code} {H : Heap} {locs : List Loc} {ls : Array Slot} {Q : State → Prop} (S : CallFix p m c b_MM_end 2 s args gtb R_MM) (hX : wX Z s) (hR : 0 ≤ R.frames ∧ 0 ≤ R.locals) (hQ : ∀ (pc : Nat) (H : Heap) (locs : List Loc) (ls : Array Slot), HW Z M' s H locs → decode b_MM_end pc = .ok (.ireturn, 1) → W p l e R s m args below meth c H locs 0 0 Q (F0 m pc ls [.int r])) (hf0 : f_MM_end M x1 = some (r, M')) (hH : HW Z M s H locs) (hl : lv_has ls 2 [(0, .ref (Z.2.2.1 0)), (1, .int x1)]) : W p l e R s m args below meth c H locs 0 0 Q (F0 m 0 ls []) := by
  have hx := S.1
  have hb := S.2.1
  have hown := S.2.2.2.1
  have ht := S.2.2.2.2
  unfold f_MM_end at hf0
  refine lv_iload_n hx hb d_MM_end_0 rfl (lv_at hl 1 rfl) ?_
  refine lv_if_lt (tgt := 12) hx hb d_MM_end_1 (by decide) (fun hc => ?_) (fun hc => ?_)
  · replace hf0 := o_t hc hf0
    refine lv_iconst (v := (-1 : Int32)) hx hb d_MM_end_12 (by decide) ?_
    obtain ⟨rfl, rfl⟩ := o_p hf0
    exact hQ _ _ _ _ hH d_MM_end_13
  · replace hf0 := o_f hc hf0
    refine lv_iload_n hx hb d_MM_end_4 rfl (lv_at hl 1 rfl) ?_
    refine lv_aload_n hx hb d_MM_end_5 rfl (lv_at hl 0 rfl) ?_
    refine g_MM_80 S hX hH hZ d_MM_end_6 ?_
    refine lv_icmp_le (tgt := 14) hx hb d_MM_end_9 (by decide) (fun hc => ?_) (fun hc => ?_)
    · replace hf0 := o_t hc hf0
      refine lv_aload_n hx hb d_MM_end_14 rfl (lv_at hl 0 rfl) ?_
      refine lv_iload_n hx hb d_MM_end_15 rfl (lv_at hl 1 rfl) ?_
      obtain ⟨M1, hM1, hf0⟩ := o_l hf0
      refine s_MM_80 S hX hI hH hZ d_MM_end_16 (fun H locs hH => ?_)
      rw [hM1] at hH
      refine lv_iload_n hx hb d_MM_end_19 rfl (lv_at hl 1 rfl) ?_
      obtain ⟨rfl, rfl⟩ := o_p hf0
      exact hQ _ _ _ _ hH d_MM_end_20
    · replace hf0 := o_f hc hf0
      refine lv_iconst (v := (-1 : Int32)) hx hb d_MM_end_12 (by decide) ?_
      obtain ⟨rfl, rfl⟩ := o_p hf0
      exact hQ _ _ _ _ hH d_MM_end_13
theorem c_MM_end (l : Launch) {Z : WD} (hI : wI Z) (hZ : IsM Z) (M : Mem) (x1 : Int32) {r : Int32} {M' : Mem} (hf : f_MM_end M x1 = some (r, M')) : Ci l Z y_MM_end b_MM_end 2 (some .int) 0 0 [.ref (Z.2.2.1 0), .int x1] M M' r := by
  refine Met.ofW (cc := b_MM_end) (maxL := 2) (ret := (some .int)) (by decide) rfl ?_
  intro p e s m args below meth c s₁ B hml hv
  obtain ⟨rfl, hP, hX⟩ := hv
  have S : CallFix p m c b_MM_end 2 s ([.ref (Z.2.2.1 0), .int x1] : List Value).toArray gtb R_MM := ⟨B.exec, B.bytes, hml, findClass_of_methodNamed B.named, fun w hw => atoms_spec (ws := .code y_MM_end b_MM_end 2 (some .int) :: gtb) B.pre w (List.mem_cons_of_mem _ hw)⟩
  have hl := lv_entry ([.ref (Z.2.2.1 0), .int x1]) (n := 2) (Nat.le_of_ble_eq_true rfl)
  rw [lg_entry_eq]
  exact wk_MM_end hI hZ M x1 S hX ⟨Nat.le_refl _, Nat.le_refl _⟩ (fun pc H locs ls hH d => q_ri S.1 S.2.1 B.returns B.notSynchronized hH rfl rfl d) hf ⟨hP, va_S.rf⟩ hl
noncomputable def f_MM_sign (M : Mem) : Option Int32 := 
    if (M 0 8) ≤ (M 0 9) then some (-1 : Int32) else gIn (M 0 9) 400 (some ((M 7 (M 0 9).toNatClampNeg) &&& (255 : Int32)))
set_option maxHeartbeats 4000000 in
theorem wk_MM_sign {l : Launch} {Z : WD} (hI : wI Z) (hZ : IsM Z) (M : Mem) {r : Int32} {p : Program} {e : Env} {R : Room} {s : State} {m : MethodId} {args : Array Value} {below : List Frame} {meth : Method} {c : Code} {H : Heap} {locs : List Loc} {ls : Array Slot} {Q : State → Prop} (S : CallFix p m c b_MM_sign 1 s args gtb R_MM) (hX : wX Z s) (hR : 0 ≤ R.frames ∧ 0 ≤ R.locals) (hQ : ∀ (pc : Nat) (H : Heap) (locs : List Loc) (ls : Array Slot), HW Z M s H locs → decode b_MM_sign pc = .ok (.ireturn, 1) → W p l e R s m args below meth c H locs 0 0 Q (F0 m pc ls [.int r])) (hf0 : f_MM_sign M = some r) (hH : HW Z M s H locs) (hl : lv_has ls 1 [(0, .ref (Z.2.2.1 0))]) : W p l e R s m args below meth c H locs 0 0 Q (F0 m 0 ls []) := by
  have hx := S.1
  have hb := S.2.1
  have hown := S.2.2.2.1
  have ht := S.2.2.2.2
  unfold f_MM_sign at hf0
  refine lv_aload_n hx hb d_MM_sign_0 rfl (lv_at hl 0 rfl) ?_
  refine g_MM_87 S hX hH hZ d_MM_sign_1 ?_
  refine lv_aload_n hx hb d_MM_sign_4 rfl (lv_at hl 0 rfl) ?_
  refine g_MM_80 S hX hH hZ d_MM_sign_5 ?_
  refine lv_icmp_ge (tgt := 27) hx hb d_MM_sign_8 (by decide) (fun hc => ?_) (fun hc => ?_)
  · replace hf0 := o_t hc hf0
    refine lv_iconst (v := (-1 : Int32)) hx hb d_MM_sign_27 (by decide) ?_
    obtain rfl := o_v hf0
    exact hQ _ _ _ _ hH d_MM_sign_28
  · replace hf0 := o_f hc hf0
    refine lv_aload_n hx hb d_MM_sign_11 rfl (lv_at hl 0 rfl) ?_
    refine g_MM_29 S hX hH hZ d_MM_sign_12 ?_
    refine lv_aload_n hx hb d_MM_sign_15 rfl (lv_at hl 0 rfl) ?_
    refine g_MM_87 S hX hH hZ d_MM_sign_16 ?_
    obtain ⟨hn1, hf0⟩ := o_in hf0
    refine q_bald (j := (M 0 9).toNatClampNeg) hx hb hX hH (aa_MM_7 hZ) hn1 rfl d_MM_sign_19 ?_
    refine lv_sipush (v := (255 : Int32)) hx hb d_MM_sign_20 (by decide) ?_
    refine lv_iand hx hb d_MM_sign_23 ?_
    refine lv_goto (tgt := 28) hx hb d_MM_sign_24 (by decide) ?_
    obtain rfl := o_v hf0
    exact hQ _ _ _ _ hH d_MM_sign_28
theorem c_MM_sign (l : Launch) {Z : WD} (hI : wI Z) (hZ : IsM Z) (M : Mem) {r : Int32} (hf : f_MM_sign M = some r) : Ci l Z y_MM_sign b_MM_sign 1 (some .int) 0 0 [.ref (Z.2.2.1 0)] M M r := by
  refine Met.ofW (cc := b_MM_sign) (maxL := 1) (ret := (some .int)) (by decide) rfl ?_
  intro p e s m args below meth c s₁ B hml hv
  obtain ⟨rfl, hP, hX⟩ := hv
  have S : CallFix p m c b_MM_sign 1 s ([.ref (Z.2.2.1 0)] : List Value).toArray gtb R_MM := ⟨B.exec, B.bytes, hml, findClass_of_methodNamed B.named, fun w hw => atoms_spec (ws := .code y_MM_sign b_MM_sign 1 (some .int) :: gtb) B.pre w (List.mem_cons_of_mem _ hw)⟩
  have hl := lv_entry ([.ref (Z.2.2.1 0)]) (n := 1) (Nat.le_of_ble_eq_true rfl)
  rw [lg_entry_eq]
  exact wk_MM_sign hI hZ M S hX ⟨Nat.le_refl _, Nat.le_refl _⟩ (fun pc H locs ls hH d => q_ri S.1 S.2.1 B.returns B.notSynchronized hH rfl rfl d) hf ⟨hP, va_S.rf⟩ hl
theorem cw_MM_90 {R : Room} {s : State} {args : Array Value} (ht : ∀ w ∈ gtb, w.before args s = true) (h1 : 0 + 1 ≤ R.frames) (h2 : 8 + (1 + 11) + 0 ≤ R.locals) : CallW R s args R_MM R_MM 90 y_MM_sign b_MM_sign 1 (some .int) (.code y_MM_sign b_MM_sign 1 (some .int) :: gtb) { frames := 0, cells := 0, slots := 0, locals := 0 } 0 0 0 := cwV 0 ht (gV w5_76 w5_78 ws_MM_sign w1_10 w5_79) rfl rfl rfl ⟨rfl, by decide, by decide, by decide +kernel⟩ ⟨h1, h2⟩
noncomputable def f_MM_next_L0 (M : Mem) : Option (Mem ⊕ (Int32 × Mem)) := bnd (f_MM_sign M) (fun y2 => 
    if y2 = (32 : Int32) then lt1 (upM M 0 9 ((M 0 9) + (1 : Int32))) (fun M5 => some (.inl M5)) else bnd (f_MM_sign M) (fun y4 => some (.inr (y4, M))))
noncomputable def f_MM_next_W0  (u : Mem) : Option (Int32 × Mem) := loop (fun t => f_MM_next_L0 t) u
noncomputable def f_MM_next_J0 (M : Mem) : Option (Int32 × Mem) := bnd (f_MM_next_W0 M) (fun e0 => some e0)
noncomputable def f_MM_next (M : Mem) : Option (Int32 × Mem) := f_MM_next_J0 M
set_option maxHeartbeats 4000000 in
theorem wk_MM_next {l : Launch} {Z : WD} (hI : wI Z) (hZ : IsM Z) (M : Mem) {r : Int32} {M' : Mem} {p : Program} {e : Env} {R : Room} {s : State} {m : MethodId} {args : Array Value} {below : List Frame} {meth : Method} {c : Code} {H : Heap} {locs : List Loc} {ls : Array Slot} {Q : State → Prop} (S : CallFix p m c b_MM_next 1 s args gtb R_MM) (hX : wX Z s) (hR : 1 ≤ R.frames ∧ 20 ≤ R.locals) (hQ : ∀ (pc : Nat) (H : Heap) (locs : List Loc) (ls : Array Slot), HW Z M' s H locs → decode b_MM_next pc = .ok (.ireturn, 1) → W p l e R s m args below meth c H locs 0 0 Q (F0 m pc ls [.int r])) (hf0 : f_MM_next M = some (r, M')) (hH : HW Z M s H locs) (hl : lv_has ls 1 [(0, .ref (Z.2.2.1 0))]) : W p l e R s m args below meth c H locs 0 0 Q (F0 m 0 ls []) := by
  have hx := S.1
  have hb := S.2.1
  have hown := S.2.2.2.1
  have ht := S.2.2.2.2
  unfold f_MM_next at hf0
  have J0 : ∀ (M : Mem) (H : Heap) (locs : List Loc) (ls : Array Slot), f_MM_next_J0 M = some (r, M') → HW Z M s H locs → lv_has ls 1 [(0, .ref (Z.2.2.1 0))] → W p l e R s m args below meth c H locs 0 0 Q (F0 m 0 ls []) := by
    intro M H locs ls hf0 hH hl
    unfold f_MM_next_J0 at hf0
    obtain ⟨e0, he0, hf0⟩ := o_b hf0
    unfold f_MM_next_W0 at he0
    refine loop_W (fun t => ∀ (H : Heap) (locs : List Loc) (ls : Array Slot), HW Z t s H locs → lv_has ls 1 [(0, .ref (Z.2.2.1 0))] → W p l e R s m args below meth c H locs 0 0 Q (F0 m 0 ls [])) ?_ he0 H locs ls hH hl
    rintro M o1 hf1 hG1 hR1 H locs ls hH hl
    replace hH : HW Z M s H locs := hH
    replace hl : lv_has ls 1 [(0, .ref (Z.2.2.1 0))] := hl
    replace hf1 : f_MM_next_L0 M = some o1 := hf1
    unfold f_MM_next_L0 at hf1
    refine lv_aload_n hx hb d_MM_next_0 rfl (lv_at hl 0 rfl) ?_
    obtain ⟨y2, hc1, hf1⟩ := o_b hf1
    refine q_cVi (As := []) (rest := []) S hX hH (c_MM_sign l hI hZ M hc1) (cw_MM_90 S.2.2.2.2 (Nat.le_trans (Nat.le_of_ble_eq_true rfl) hR.1) (Nat.le_trans (Nat.le_of_ble_eq_true rfl) hR.2)) (rc_MM hX hH hZ) rfl hl.1 rfl (Nat.le_of_ble_eq_true rfl) d_MM_next_1 ⟨Nat.zero_le _, Nat.zero_le _⟩ (fun H locs hH => ?_)
    refine lv_bipush (v := (32 : Int32)) hx hb d_MM_next_4 (by decide) ?_
    refine lv_icmp_ne (tgt := 22) hx hb d_MM_next_6 (by decide) (fun hc => ?_) (fun hc => ?_)
    · replace hf1 := o_f hc hf1
      refine lv_aload_n hx hb d_MM_next_22 rfl (lv_at hl 0 rfl) ?_
      obtain ⟨y4, hc3, hf1⟩ := o_b hf1
      refine q_cVi (As := []) (rest := []) S hX hH (c_MM_sign l hI hZ M hc3) (cw_MM_90 S.2.2.2.2 (Nat.le_trans (Nat.le_of_ble_eq_true rfl) hR.1) (Nat.le_trans (Nat.le_of_ble_eq_true rfl) hR.2)) (rc_MM hX hH hZ) rfl hl.1 rfl (Nat.le_of_ble_eq_true rfl) d_MM_next_23 ⟨Nat.zero_le _, Nat.zero_le _⟩ (fun H locs hH => ?_)
      obtain rfl := hR1 _ (o_v hf1).symm
      obtain ⟨rfl, rfl⟩ := o_p hf0
      exact hQ _ _ _ _ hH d_MM_next_26
    · replace hf1 := o_t hc hf1
      refine lv_aload_n hx hb d_MM_next_9 rfl (lv_at hl 0 rfl) ?_
      refine lv_dup hx hb d_MM_next_10 rfl ?_
      refine g_MM_87 S hX hH hZ d_MM_next_11 ?_
      refine lv_iconst (v := (1 : Int32)) hx hb d_MM_next_14 (by decide) ?_
      refine lv_iadd hx hb d_MM_next_15 ?_
      obtain ⟨M5, hM5, hf1⟩ := o_l hf1
      refine s_MM_87 S hX hI hH hZ d_MM_next_16 (fun H locs hH => ?_)
      rw [hM5] at hH
      refine lv_goto (tgt := 0) hx hb d_MM_next_19 (by decide) ?_
      exact hG1 _ (o_v hf1).symm _ _ _ hH (lv_sub hl [0] rfl)
  exact J0 _ _ _ _ hf0 hH (lv_sub hl [0] rfl)
theorem c_MM_next (l : Launch) {Z : WD} (hI : wI Z) (hZ : IsM Z) (M : Mem) {r : Int32} {M' : Mem} (hf : f_MM_next M = some (r, M')) : Ci l Z y_MM_next b_MM_next 1 (some .int) 1 20 [.ref (Z.2.2.1 0)] M M' r := by
  refine Met.ofW (cc := b_MM_next) (maxL := 1) (ret := (some .int)) (by decide) rfl ?_
  intro p e s m args below meth c s₁ B hml hv
  obtain ⟨rfl, hP, hX⟩ := hv
  have S : CallFix p m c b_MM_next 1 s ([.ref (Z.2.2.1 0)] : List Value).toArray gtb R_MM := ⟨B.exec, B.bytes, hml, findClass_of_methodNamed B.named, fun w hw => atoms_spec (ws := .code y_MM_next b_MM_next 1 (some .int) :: gtb) B.pre w (List.mem_cons_of_mem _ hw)⟩
  have hl := lv_entry ([.ref (Z.2.2.1 0)]) (n := 1) (Nat.le_of_ble_eq_true rfl)
  rw [lg_entry_eq]
  exact wk_MM_next hI hZ M S hX ⟨Nat.le_refl _, Nat.le_refl _⟩ (fun pc H locs ls hH d => q_ri S.1 S.2.1 B.returns B.notSynchronized hH rfl rfl d) hf ⟨hP, va_S.rf⟩ hl
noncomputable def f_MM_in_J17  : Bool := false
noncomputable def f_MM_in (x0 : Int64) (x2 : Int64) (x4 : Int64) : Bool := if (lg_cmp x0 x2) < 0 then f_MM_in_J17 else if 0 < (lg_cmp x0 x4) then f_MM_in_J17 else true
set_option maxHeartbeats 4000000 in
theorem wk_MM_in {l : Launch} {Z : WD} (hI : wI Z) (M : Mem) (x0 : Int64) (x2 : Int64) (x4 : Int64) {r : Bool} {p : Program} {e : Env} {R : Room} {s : State} {m : MethodId} {args : Array Value} {below : List Frame} {meth : Method} {c : Code} {H : Heap} {locs : List Loc} {ls : Array Slot} {Q : State → Prop} (S : CallFix p m c b_MM_in 6 s args gtb R_MM) (hX : wX Z s) (hR : 0 ≤ R.frames ∧ 0 ≤ R.locals) (hQ : ∀ (pc : Nat) (H : Heap) (locs : List Loc) (ls : Array Slot), HW Z M s H locs → decode b_MM_in pc = .ok (.ireturn, 1) → W p l e R s m args below meth c H locs 0 0 Q (F0 m pc ls [.int (bI r)])) (hf0 : f_MM_in x0 x2 x4 = r) (hH : HW Z M s H locs) (hl : lv_has ls 6 [(0, .long x0), (2, .long x2), (4, .long x4)]) : W p l e R s m args below meth c H locs 0 0 Q (F0 m 0 ls []) := by
  have hx := S.1
  have hb := S.2.1
  have hown := S.2.2.2.1
  have ht := S.2.2.2.2
  unfold f_MM_in at hf0
  have J17 : ∀ (H : Heap) (locs : List Loc) (ls : Array Slot), f_MM_in_J17 = r → HW Z M s H locs → lv_has ls 6 [] → W p l e R s m args below meth c H locs 0 0 Q (F0 m 17 ls []) := by
    intro H locs ls hf0 hH hl
    unfold f_MM_in_J17 at hf0
    refine lv_iconst (v := (0 : Int32)) hx hb d_MM_in_17 (by decide) ?_
    subst hf0
    exact hQ _ _ _ _ hH d_MM_in_18
  refine lv_lload_n hx hb d_MM_in_0 rfl (lv_at hl 0 rfl) ?_
  refine lv_lload_n hx hb d_MM_in_1 rfl (lv_at hl 1 rfl) ?_
  refine W.lcmp hx hb d_MM_in_2 ?_
  refine lv_if_lt (tgt := 17) hx hb d_MM_in_3 (by decide) (fun hc => ?_) (fun hc => ?_)
  · replace hf0 := o_t hc hf0
    exact J17 _ _ _ hf0 hH (lv_sub hl [] rfl)
  · replace hf0 := o_f hc hf0
    refine lv_lload_n hx hb d_MM_in_6 rfl (lv_at hl 0 rfl) ?_
    refine lv_lload hx hb d_MM_in_7 (lv_at hl 2 rfl) ?_
    refine W.lcmp hx hb d_MM_in_9 ?_
    refine lv_if_gt (tgt := 17) hx hb d_MM_in_10 (by decide) (fun hc => ?_) (fun hc => ?_)
    · replace hf0 := o_t hc hf0
      exact J17 _ _ _ hf0 hH (lv_sub hl [] rfl)
    · replace hf0 := o_f hc hf0
      refine lv_iconst (v := (1 : Int32)) hx hb d_MM_in_13 (by decide) ?_
      refine lv_goto (tgt := 18) hx hb d_MM_in_14 (by decide) ?_
      subst hf0
      exact hQ _ _ _ _ hH d_MM_in_18
theorem c_MM_in (l : Launch) {Z : WD} (hI : wI Z) (M : Mem) (x0 : Int64) (x2 : Int64) (x4 : Int64) {r : Bool} (hf : f_MM_in x0 x2 x4 = r) : Ci l Z y_MM_in b_MM_in 6 (some .boolean) 0 0 [.long x0, .long x2, .long x4] M M (bI r) := by
  refine Met.ofW (cc := b_MM_in) (maxL := 6) (ret := (some .boolean)) (by decide) rfl ?_
  intro p e s m args below meth c s₁ B hml hv
  obtain ⟨rfl, hP, hX⟩ := hv
  have S : CallFix p m c b_MM_in 6 s ([.long x0, .long x2, .long x4] : List Value).toArray gtb R_MM := ⟨B.exec, B.bytes, hml, findClass_of_methodNamed B.named, fun w hw => atoms_spec (ws := .code y_MM_in b_MM_in 6 (some .boolean) :: gtb) B.pre w (List.mem_cons_of_mem _ hw)⟩
  have hl := lv_entry ([.long x0, .long x2, .long x4]) (n := 6) (Nat.le_of_ble_eq_true rfl)
  rw [lg_entry_eq]
  exact wk_MM_in hI M x0 x2 x4 S hX ⟨Nat.le_refl _, Nat.le_refl _⟩ (fun pc H locs ls hH d => q_rz S.1 S.2.1 B.returns B.notSynchronized hH rfl rfl d) hf ⟨hP, va_S.rf⟩ hl
theorem cw_MM_117 {R : Room} {s : State} {args : Array Value} (ht : ∀ w ∈ gtb, w.before args s = true) (h1 : 3 + 1 ≤ R.frames) (h2 : 8 + (2 + 11) + 64 ≤ R.locals) : CallW R s args R_MM R_Str 117 y_Str_charAt b_Str_charAt 2 (some .char) (.code y_Str_charAt b_Str_charAt 2 (some .char) :: gtb) { frames := 3, cells := 0, slots := 0, locals := 64 } 0 0 1 := cwV 1 ht (gV w5_86 w2_141 w2_142 w1_11 w2_143) rfl rfl rfl ⟨rfl, by decide, by decide, by decide +kernel⟩ ⟨h1, h2⟩
theorem cw_MM_112 {R : Room} {s : State} {args : Array Value} (ht : ∀ w ∈ gtb, w.before args s = true) (h1 : 1 + 1 ≤ R.frames) (h2 : 8 + (1 + 11) + 20 ≤ R.locals) : CallW R s args R_MM R_Str 112 y_Str_length b_Str_length 1 (some .int) (.code y_Str_length b_Str_length 1 (some .int) :: gtb) { frames := 1, cells := 0, slots := 0, locals := 20 } 0 0 0 := cwV 0 ht (gV w5_85 w2_131 w2_132 w1_11 w2_133) rfl rfl rfl ⟨rfl, by decide, by decide, by decide +kernel⟩ ⟨h1, h2⟩
theorem cw_MM_108 {R : Room} {s : State} {args : Array Value} (ht : ∀ w ∈ gtb, w.before args s = true) (h1 : 0 + 1 ≤ R.frames) (h2 : 8 + (6 + 11) + 0 ≤ R.locals) : CallB R s args R_MM 108 y_MM_in b_MM_in 6 (some .boolean) (.code y_MM_in b_MM_in 6 (some .boolean) :: gtb) { frames := 0, cells := 0, slots := 0, locals := 0 } 0 0 3 ∧ (Cond.static y_MM_in).before args s = true := va_cwS 3 ht (gS w5_82 w5_83 w1_10 w5_84) rfl rfl rfl ⟨by decide, by decide, by decide +kernel⟩ ⟨h1, h2⟩
theorem cw_MM_101 {R : Room} {s : State} {args : Array Value} (ht : ∀ w ∈ gtb, w.before args s = true) (h1 : 1 + 1 ≤ R.frames) (h2 : 8 + (1 + 11) + 20 ≤ R.locals) : CallW R s args R_MM R_MM 101 y_MM_next b_MM_next 1 (some .int) (.code y_MM_next b_MM_next 1 (some .int) :: gtb) { frames := 1, cells := 0, slots := 0, locals := 20 } 0 0 0 := cwV 0 ht (gV w5_72 w5_74 ws_MM_next w1_10 w5_75) rfl rfl rfl ⟨rfl, by decide, by decide, by decide +kernel⟩ ⟨h1, h2⟩
noncomputable def f_MM_takes_J124 (a1 : Nat) (M : Mem) (x3 : Int32) (s0 : Int32) (s1 : Int32) : Option (Bool × Mem) := lt1 (upM M 0 9 (s1 + s0)) (fun M1 => if x3 = 0 then some (false, M1) else if x3 = 1 then some (true, M1) else none)
noncomputable def f_MM_takes_J110 (a1 : Nat) (M : Mem) (x2 : Int32) (x3 : Int32) : Option (Bool × Mem) := if x3 = 0 then f_MM_takes_J124 a1 M x3 (0 : Int32) (M 0 9) else f_MM_takes_J124 a1 M x3 x2 (M 0 9)
noncomputable def f_MM_takes_L67 (a1 : Nat) (M : Mem) (x2 : Int32) (x3 : Int32) (x4 : Int32) : Option ((Int32 × Int32) ⊕ Int32) := if x2 ≤ x4 then some (.inr x3) else 
    if x3 = 0 then some (.inr x3) else 
    gIn ((M 0 9) + x4) 400 (bnd (f_Str_charAt a1 x4) (fun y4 => 
    if (M 7 ((M 0 9) + x4).toNatClampNeg) = y4 then some (.inl ((1 : Int32), x4 + (1 : Int32))) else some (.inl ((0 : Int32), x4 + (1 : Int32)))))
noncomputable def f_MM_takes_W67 (a1 : Nat) (M : Mem) (x2 : Int32) (u : (Int32 × Int32)) : Option Int32 := loop (fun t => f_MM_takes_L67 a1 M x2 t.1 t.2) u
noncomputable def f_MM_takes_J67 (a1 : Nat) (M : Mem) (x2 : Int32) (x3 : Int32) (x4 : Int32) : Option (Bool × Mem) := bnd (f_MM_takes_W67 a1 M x2 (x3, x4)) (fun e67 => f_MM_takes_J110 a1 M x2 e67)
noncomputable def f_MM_takes_J63 (a1 : Nat) (M : Mem) (x2 : Int32) (s0 : Int32) : Option (Bool × Mem) := f_MM_takes_J67 a1 M x2 s0 (0 : Int32)
noncomputable def f_MM_takes_J50 (a1 : Nat) (M : Mem) (x2 : Int32) : Option (Bool × Mem) := if x2 = (f_Str_length a1) then f_MM_takes_J63 a1 M x2 (1 : Int32) else f_MM_takes_J63 a1 M x2 (0 : Int32)
noncomputable def f_MM_takes_L7 (a1 : Nat) (M : Mem) (x2 : Int32) : Option (Int32 ⊕ Int32) := if (M 0 8) ≤ ((M 0 9) + x2) then some (.inr x2) else 
    gIn ((M 0 9) + x2) 400 (if (bI (f_MM_in ((M 7 ((M 0 9) + x2).toNatClampNeg).toInt64) (97 : Int64) (122 : Int64))) = 0 then some (.inr x2) else some (.inl (x2 + (1 : Int32))))
noncomputable def f_MM_takes_W7 (a1 : Nat) (M : Mem) (u : Int32) : Option Int32 := loop (fun t => f_MM_takes_L7 a1 M t) u
noncomputable def f_MM_takes_J7 (a1 : Nat) (M : Mem) (x2 : Int32) : Option (Bool × Mem) := bnd (f_MM_takes_W7 a1 M x2) (fun e7 => f_MM_takes_J50 a1 M e7)
noncomputable def f_MM_takes (a1 : Nat) (M : Mem) : Option (Bool × Mem) := bnd2 (f_MM_next M) (fun y8 M7 => f_MM_takes_J7 a1 M7 (0 : Int32))
set_option maxHeartbeats 4000000 in
theorem wk_MM_takes {l : Launch} {Z : WD} (hI : wI Z) (hZ : IsM Z) (a1 : Nat) (M : Mem) (hs1 : a1 < 10) {r : Bool} {M' : Mem} {p : Program} {e : Env} {R : Room} {s : State} {m : MethodId} {args : Array Value} {below : List Frame} {meth : Method} {c : Code} {H : Heap} {locs : List Loc} {ls : Array Slot} {Q : State → Prop} (S : CallFix p m c b_MM_takes 5 s args gtb R_MM) (hX : wX Z s) (hR : 4 ≤ R.frames ∧ 85 ≤ R.locals) (hQ : ∀ (pc : Nat) (H : Heap) (locs : List Loc) (ls : Array Slot), HW Z M' s H locs → decode b_MM_takes pc = .ok (.ireturn, 1) → W p l e R s m args below meth c H locs 0 0 Q (F0 m pc ls [.int (bI r)])) (hf0 : f_MM_takes a1 M = some (r, M')) (hH : HW Z M s H locs) (hl : lv_has ls 5 [(0, .ref (Z.2.2.1 0)), (1, .ref (Z.2.2.2.2.2.1 a1))]) : W p l e R s m args below meth c H locs 0 0 Q (F0 m 0 ls []) := by
  have hx := S.1
  have hb := S.2.1
  have hown := S.2.2.2.1
  have ht := S.2.2.2.2
  unfold f_MM_takes at hf0
  have J124 : ∀ (M : Mem) (x3 : Int32) (s0 : Int32) (s1 : Int32) (H : Heap) (locs : List Loc) (ls : Array Slot), f_MM_takes_J124 a1 M x3 s0 s1 = some (r, M') → HW Z M s H locs → lv_has ls 5 [(3, .int x3)] → W p l e R s m args below meth c H locs 0 0 Q (F0 m 124 ls [.int s0, .int s1, .ref (Z.2.2.1 0)]) := by
    intro M x3 s0 s1 H locs ls hf0 hH hl
    unfold f_MM_takes_J124 at hf0
    refine lv_iadd hx hb d_MM_takes_124 ?_
    obtain ⟨M1, hM1, hf0⟩ := o_l hf0
    refine s_MM_87 S hX hI hH hZ d_MM_takes_125 (fun H locs hH => ?_)
    rw [hM1] at hH
    refine lv_iload_n hx hb d_MM_takes_128 rfl (lv_at hl 0 rfl) ?_
    by_cases hc : x3 = 0
    · replace hf0 := o_t hc hf0
      refine lv_nm hc ?_
      obtain ⟨rfl, rfl⟩ := o_p hf0
      exact hQ _ _ _ _ hH d_MM_takes_129
    · replace hf0 := o_f hc hf0
      obtain ⟨hc, hf0⟩ := o_g hf0
      refine lv_nm hc ?_
      obtain ⟨rfl, rfl⟩ := o_p hf0
      exact hQ _ _ _ _ hH d_MM_takes_129
  have J110 : ∀ (M : Mem) (x2 : Int32) (x3 : Int32) (H : Heap) (locs : List Loc) (ls : Array Slot), f_MM_takes_J110 a1 M x2 x3 = some (r, M') → HW Z M s H locs → lv_has ls 5 [(0, .ref (Z.2.2.1 0)), (2, .int x2), (3, .int x3)] → W p l e R s m args below meth c H locs 0 0 Q (F0 m 110 ls []) := by
    intro M x2 x3 H locs ls hf0 hH hl
    unfold f_MM_takes_J110 at hf0
    refine lv_aload_n hx hb d_MM_takes_110 rfl (lv_at hl 0 rfl) ?_
    refine lv_dup hx hb d_MM_takes_111 rfl ?_
    refine g_MM_87 S hX hH hZ d_MM_takes_112 ?_
    refine lv_iload_n hx hb d_MM_takes_115 rfl (lv_at hl 2 rfl) ?_
    refine lv_if_eq (tgt := 123) hx hb d_MM_takes_116 (by decide) (fun hc => ?_) (fun hc => ?_)
    · replace hf0 := o_t hc hf0
      refine lv_iconst (v := (0 : Int32)) hx hb d_MM_takes_123 (by decide) ?_
      exact J124 _ _ _ _ _ _ _ hf0 hH (lv_sub hl [2] rfl)
    · replace hf0 := o_f hc hf0
      refine lv_iload_n hx hb d_MM_takes_119 rfl (lv_at hl 1 rfl) ?_
      refine lv_goto (tgt := 124) hx hb d_MM_takes_120 (by decide) ?_
      exact J124 _ _ _ _ _ _ _ hf0 hH (lv_sub hl [2] rfl)
  have J67 : ∀ (M : Mem) (x2 : Int32) (x3 : Int32) (x4 : Int32) (H : Heap) (locs : List Loc) (ls : Array Slot), f_MM_takes_J67 a1 M x2 x3 x4 = some (r, M') → HW Z M s H locs → lv_has ls 5 [(0, .ref (Z.2.2.1 0)), (1, .ref (Z.2.2.2.2.2.1 a1)), (2, .int x2), (3, .int x3), (4, .int x4)] → W p l e R s m args below meth c H locs 0 0 Q (F0 m 67 ls []) := by
    intro M x2 x3 x4 H locs ls hf0 hH hl
    unfold f_MM_takes_J67 at hf0
    obtain ⟨e67, he67, hf0⟩ := o_b hf0
    have KX67 : ∀ (H : Heap) (locs : List Loc) (ls : Array Slot), HW Z M s H locs → lv_has ls 5 [(0, .ref (Z.2.2.1 0)), (2, .int x2), (3, .int e67)] → W p l e R s m args below meth c H locs 0 0 Q (F0 m 110 ls []) := by
      intro H locs ls hH hl
      exact J110 _ _ _ _ _ _ hf0 hH (lv_sub hl [0, 1, 2] rfl)
    unfold f_MM_takes_W67 at he67
    refine loop_W (fun t => ∀ (H : Heap) (locs : List Loc) (ls : Array Slot), HW Z M s H locs → lv_has ls 5 [(0, .ref (Z.2.2.1 0)), (1, .ref (Z.2.2.2.2.2.1 a1)), (2, .int x2), (3, .int t.1), (4, .int t.2)] → W p l e R s m args below meth c H locs 0 0 Q (F0 m 67 ls [])) ?_ he67 H locs ls hH hl
    rintro ⟨x3, x4⟩ o1 hf1 hG1 hR1 H locs ls hH hl
    replace hH : HW Z M s H locs := hH
    replace hl : lv_has ls 5 [(0, .ref (Z.2.2.1 0)), (1, .ref (Z.2.2.2.2.2.1 a1)), (2, .int x2), (3, .int x3), (4, .int x4)] := hl
    replace hf1 : f_MM_takes_L67 a1 M x2 x3 x4 = some o1 := hf1
    unfold f_MM_takes_L67 at hf1
    refine lv_iload hx hb d_MM_takes_67 (lv_at hl 4 rfl) ?_
    refine lv_iload_n hx hb d_MM_takes_69 rfl (lv_at hl 2 rfl) ?_
    refine lv_icmp_ge (tgt := 110) hx hb d_MM_takes_70 (by decide) (fun hc => ?_) (fun hc => ?_)
    · replace hf1 := o_t hc hf1
      obtain rfl := hR1 _ (o_v hf1).symm
      exact KX67 _ _ _ hH (lv_sub hl [0, 2, 3] rfl)
    · replace hf1 := o_f hc hf1
      refine lv_iload_n hx hb d_MM_takes_73 rfl (lv_at hl 3 rfl) ?_
      refine lv_if_eq (tgt := 110) hx hb d_MM_takes_74 (by decide) (fun hc => ?_) (fun hc => ?_)
      · replace hf1 := o_t hc hf1
        obtain rfl := hR1 _ (o_v hf1).symm
        exact KX67 _ _ _ hH (lv_sub hl [0, 2, 3] rfl)
      · replace hf1 := o_f hc hf1
        refine lv_aload_n hx hb d_MM_takes_77 rfl (lv_at hl 0 rfl) ?_
        refine g_MM_29 S hX hH hZ d_MM_takes_78 ?_
        refine lv_aload_n hx hb d_MM_takes_81 rfl (lv_at hl 0 rfl) ?_
        refine g_MM_87 S hX hH hZ d_MM_takes_82 ?_
        refine lv_iload hx hb d_MM_takes_85 (lv_at hl 4 rfl) ?_
        refine lv_iadd hx hb d_MM_takes_87 ?_
        obtain ⟨hn2, hf1⟩ := o_in hf1
        refine q_bald (j := ((M 0 9) + x4).toNatClampNeg) hx hb hX hH (aa_MM_7 hZ) hn2 rfl d_MM_takes_88 ?_
        refine lv_aload_n hx hb d_MM_takes_89 rfl (lv_at hl 1 rfl) ?_
        refine lv_iload hx hb d_MM_takes_90 (lv_at hl 4 rfl) ?_
        obtain ⟨y4, hc3, hf1⟩ := o_b hf1
        refine q_cVi (As := [.int x4]) (rest := [.int (M 7 ((M 0 9) + x4).toNatClampNeg)]) S hX hH (c_Str_charAt l hI a1 M x4 hs1 hc3) (cw_MM_117 S.2.2.2.2 (Nat.le_trans (Nat.le_of_ble_eq_true rfl) hR.1) (Nat.le_trans (Nat.le_of_ble_eq_true rfl) hR.2)) (rc_Str hX hH hs1) rfl hl.1 rfl (Nat.le_of_ble_eq_true rfl) d_MM_takes_92 ⟨Nat.zero_le _, Nat.zero_le _⟩ (fun H locs hH => ?_)
        refine lv_icmp_ne (tgt := 102) hx hb d_MM_takes_95 (by decide) (fun hc => ?_) (fun hc => ?_)
        · replace hf1 := o_f hc hf1
          refine lv_iconst (v := (0 : Int32)) hx hb d_MM_takes_102 (by decide) ?_
          refine lv_istore_n (lv' := [(3, .int (0 : Int32)), (0, .ref (Z.2.2.1 0)), (1, .ref (Z.2.2.2.2.2.1 a1)), (2, .int x2), (4, .int x4)]) hx hb d_MM_takes_103 rfl hl (by decide) rfl (fun ls hl => ?_)
          refine lv_iinc (v := x4 + (1 : Int32)) (lv' := [(4, .int (x4 + (1 : Int32))), (3, .int (0 : Int32)), (0, .ref (Z.2.2.1 0)), (1, .ref (Z.2.2.2.2.2.1 a1)), (2, .int x2)]) hx hb d_MM_takes_104 hl (k := 4) rfl rfl (by decide) rfl (fun ls hl => ?_)
          refine lv_goto (tgt := 67) hx hb d_MM_takes_107 (by decide) ?_
          exact hG1 _ (o_v hf1).symm _ _ _ hH (lv_sub hl [2, 3, 4, 1, 0] rfl)
        · replace hf1 := o_t hc hf1
          refine lv_iconst (v := (1 : Int32)) hx hb d_MM_takes_98 (by decide) ?_
          refine lv_goto (tgt := 103) hx hb d_MM_takes_99 (by decide) ?_
          refine lv_istore_n (lv' := [(3, .int (1 : Int32)), (0, .ref (Z.2.2.1 0)), (1, .ref (Z.2.2.2.2.2.1 a1)), (2, .int x2), (4, .int x4)]) hx hb d_MM_takes_103 rfl hl (by decide) rfl (fun ls hl => ?_)
          refine lv_iinc (v := x4 + (1 : Int32)) (lv' := [(4, .int (x4 + (1 : Int32))), (3, .int (1 : Int32)), (0, .ref (Z.2.2.1 0)), (1, .ref (Z.2.2.2.2.2.1 a1)), (2, .int x2)]) hx hb d_MM_takes_104 hl (k := 4) rfl rfl (by decide) rfl (fun ls hl => ?_)
          refine lv_goto (tgt := 67) hx hb d_MM_takes_107 (by decide) ?_
          exact hG1 _ (o_v hf1).symm _ _ _ hH (lv_sub hl [2, 3, 4, 1, 0] rfl)
  have J63 : ∀ (M : Mem) (x2 : Int32) (s0 : Int32) (H : Heap) (locs : List Loc) (ls : Array Slot), f_MM_takes_J63 a1 M x2 s0 = some (r, M') → HW Z M s H locs → lv_has ls 5 [(0, .ref (Z.2.2.1 0)), (1, .ref (Z.2.2.2.2.2.1 a1)), (2, .int x2)] → W p l e R s m args below meth c H locs 0 0 Q (F0 m 63 ls [.int s0]) := by
    intro M x2 s0 H locs ls hf0 hH hl
    unfold f_MM_takes_J63 at hf0
    refine lv_istore_n (lv' := [(3, .int s0), (0, .ref (Z.2.2.1 0)), (1, .ref (Z.2.2.2.2.2.1 a1)), (2, .int x2)]) hx hb d_MM_takes_63 rfl hl (by decide) rfl (fun ls hl => ?_)
    refine lv_iconst (v := (0 : Int32)) hx hb d_MM_takes_64 (by decide) ?_
    refine lv_istore (lv' := [(4, .int (0 : Int32)), (3, .int s0), (0, .ref (Z.2.2.1 0)), (1, .ref (Z.2.2.2.2.2.1 a1)), (2, .int x2)]) hx hb d_MM_takes_65 hl (by decide) rfl (fun ls hl => ?_)
    exact J67 _ _ _ _ _ _ _ hf0 hH (lv_sub hl [2, 3, 4, 1, 0] rfl)
  have J50 : ∀ (M : Mem) (x2 : Int32) (H : Heap) (locs : List Loc) (ls : Array Slot), f_MM_takes_J50 a1 M x2 = some (r, M') → HW Z M s H locs → lv_has ls 5 [(0, .ref (Z.2.2.1 0)), (1, .ref (Z.2.2.2.2.2.1 a1)), (2, .int x2)] → W p l e R s m args below meth c H locs 0 0 Q (F0 m 50 ls []) := by
    intro M x2 H locs ls hf0 hH hl
    unfold f_MM_takes_J50 at hf0
    refine lv_iload_n hx hb d_MM_takes_50 rfl (lv_at hl 2 rfl) ?_
    refine lv_aload_n hx hb d_MM_takes_51 rfl (lv_at hl 1 rfl) ?_
    refine q_cVi (As := []) (rest := [.int x2]) S hX hH (c_Str_length l hI a1 M hs1 rfl) (cw_MM_112 S.2.2.2.2 (Nat.le_trans (Nat.le_of_ble_eq_true rfl) hR.1) (Nat.le_trans (Nat.le_of_ble_eq_true rfl) hR.2)) (rc_Str hX hH hs1) rfl hl.1 rfl (Nat.le_of_ble_eq_true rfl) d_MM_takes_52 ⟨Nat.zero_le _, Nat.zero_le _⟩ (fun H locs hH => ?_)
    refine lv_icmp_ne (tgt := 62) hx hb d_MM_takes_55 (by decide) (fun hc => ?_) (fun hc => ?_)
    · replace hf0 := o_f hc hf0
      refine lv_iconst (v := (0 : Int32)) hx hb d_MM_takes_62 (by decide) ?_
      exact J63 _ _ _ _ _ _ hf0 hH (lv_sub hl [0, 1, 2] rfl)
    · replace hf0 := o_t hc hf0
      refine lv_iconst (v := (1 : Int32)) hx hb d_MM_takes_58 (by decide) ?_
      refine lv_goto (tgt := 63) hx hb d_MM_takes_59 (by decide) ?_
      exact J63 _ _ _ _ _ _ hf0 hH (lv_sub hl [0, 1, 2] rfl)
  have J7 : ∀ (M : Mem) (x2 : Int32) (H : Heap) (locs : List Loc) (ls : Array Slot), f_MM_takes_J7 a1 M x2 = some (r, M') → HW Z M s H locs → lv_has ls 5 [(0, .ref (Z.2.2.1 0)), (1, .ref (Z.2.2.2.2.2.1 a1)), (2, .int x2)] → W p l e R s m args below meth c H locs 0 0 Q (F0 m 7 ls []) := by
    intro M x2 H locs ls hf0 hH hl
    unfold f_MM_takes_J7 at hf0
    obtain ⟨e7, he7, hf0⟩ := o_b hf0
    have KX7 : ∀ (H : Heap) (locs : List Loc) (ls : Array Slot), HW Z M s H locs → lv_has ls 5 [(0, .ref (Z.2.2.1 0)), (1, .ref (Z.2.2.2.2.2.1 a1)), (2, .int e7)] → W p l e R s m args below meth c H locs 0 0 Q (F0 m 50 ls []) := by
      intro H locs ls hH hl
      exact J50 _ _ _ _ _ hf0 hH (lv_sub hl [0, 1, 2] rfl)
    unfold f_MM_takes_W7 at he7
    refine loop_W (fun t => ∀ (H : Heap) (locs : List Loc) (ls : Array Slot), HW Z M s H locs → lv_has ls 5 [(0, .ref (Z.2.2.1 0)), (1, .ref (Z.2.2.2.2.2.1 a1)), (2, .int t)] → W p l e R s m args below meth c H locs 0 0 Q (F0 m 7 ls [])) ?_ he7 H locs ls hH hl
    rintro x2 o1 hf1 hG1 hR1 H locs ls hH hl
    replace hH : HW Z M s H locs := hH
    replace hl : lv_has ls 5 [(0, .ref (Z.2.2.1 0)), (1, .ref (Z.2.2.2.2.2.1 a1)), (2, .int x2)] := hl
    replace hf1 : f_MM_takes_L7 a1 M x2 = some o1 := hf1
    unfold f_MM_takes_L7 at hf1
    refine lv_aload_n hx hb d_MM_takes_7 rfl (lv_at hl 0 rfl) ?_
    refine g_MM_87 S hX hH hZ d_MM_takes_8 ?_
    refine lv_iload_n hx hb d_MM_takes_11 rfl (lv_at hl 2 rfl) ?_
    refine lv_iadd hx hb d_MM_takes_12 ?_
    refine lv_aload_n hx hb d_MM_takes_13 rfl (lv_at hl 0 rfl) ?_
    refine g_MM_80 S hX hH hZ d_MM_takes_14 ?_
    refine lv_icmp_ge (tgt := 50) hx hb d_MM_takes_17 (by decide) (fun hc => ?_) (fun hc => ?_)
    · replace hf1 := o_t hc hf1
      obtain rfl := hR1 _ (o_v hf1).symm
      exact KX7 _ _ _ hH (lv_sub hl [0, 1, 2] rfl)
    · replace hf1 := o_f hc hf1
      refine lv_aload_n hx hb d_MM_takes_20 rfl (lv_at hl 0 rfl) ?_
      refine g_MM_29 S hX hH hZ d_MM_takes_21 ?_
      refine lv_aload_n hx hb d_MM_takes_24 rfl (lv_at hl 0 rfl) ?_
      refine g_MM_87 S hX hH hZ d_MM_takes_25 ?_
      refine lv_iload_n hx hb d_MM_takes_28 rfl (lv_at hl 2 rfl) ?_
      refine lv_iadd hx hb d_MM_takes_29 ?_
      obtain ⟨hn5, hf1⟩ := o_in hf1
      refine q_bald (j := ((M 0 9) + x2).toNatClampNeg) hx hb hX hH (aa_MM_7 hZ) hn5 rfl d_MM_takes_30 ?_
      refine lv_i2l hx hb d_MM_takes_31 rfl ?_
      refine lv_ldc2 (v := (97 : Int64)) hx hb hown (ht _ w5_80) d_MM_takes_32 ?_
      refine lv_ldc2 (v := (122 : Int64)) hx hb hown (ht _ w5_81) d_MM_takes_35 ?_
      refine q_cSi (As := [.long ((M 7 ((M 0 9) + x2).toNatClampNeg).toInt64), .long (97 : Int64), .long (122 : Int64)]) (rest := []) S hX hH (c_MM_in l hI M ((M 7 ((M 0 9) + x2).toNatClampNeg).toInt64) (97 : Int64) (122 : Int64) rfl) (cw_MM_108 S.2.2.2.2 (Nat.le_trans (Nat.le_of_ble_eq_true rfl) hR.1) (Nat.le_trans (Nat.le_of_ble_eq_true rfl) hR.2)) rfl hl.1 rfl (Nat.le_of_ble_eq_true rfl) d_MM_takes_38 ⟨Nat.zero_le _, Nat.zero_le _⟩ (fun H locs hH => ?_)
      refine lv_if_eq (tgt := 50) hx hb d_MM_takes_41 (by decide) (fun hc => ?_) (fun hc => ?_)
      · replace hf1 := o_t hc hf1
        obtain rfl := hR1 _ (o_v hf1).symm
        exact KX7 _ _ _ hH (lv_sub hl [0, 1, 2] rfl)
      · replace hf1 := o_f hc hf1
        refine lv_iinc (v := x2 + (1 : Int32)) (lv' := [(2, .int (x2 + (1 : Int32))), (0, .ref (Z.2.2.1 0)), (1, .ref (Z.2.2.2.2.2.1 a1))]) hx hb d_MM_takes_44 hl (k := 2) rfl rfl (by decide) rfl (fun ls hl => ?_)
        refine lv_goto (tgt := 7) hx hb d_MM_takes_47 (by decide) ?_
        exact hG1 _ (o_v hf1).symm _ _ _ hH (lv_sub hl [1, 2, 0] rfl)
  refine lv_aload_n hx hb d_MM_takes_0 rfl (lv_at hl 0 rfl) ?_
  obtain ⟨y8, M7, hc6, hf0⟩ := o_b2 hf0
  refine q_cVi (As := []) (rest := []) S hX hH (c_MM_next l hI hZ M hc6) (cw_MM_101 S.2.2.2.2 (Nat.le_trans (Nat.le_of_ble_eq_true rfl) hR.1) (Nat.le_trans (Nat.le_of_ble_eq_true rfl) hR.2)) (rc_MM hX hH hZ) rfl hl.1 rfl (Nat.le_of_ble_eq_true rfl) d_MM_takes_1 ⟨Nat.zero_le _, Nat.zero_le _⟩ (fun H locs hH => ?_)
  refine lv_pop hx hb d_MM_takes_4 rfl ?_
  refine lv_iconst (v := (0 : Int32)) hx hb d_MM_takes_5 (by decide) ?_
  refine lv_istore_n (lv' := [(2, .int (0 : Int32)), (0, .ref (Z.2.2.1 0)), (1, .ref (Z.2.2.2.2.2.1 a1))]) hx hb d_MM_takes_6 rfl hl (by decide) rfl (fun ls hl => ?_)
  exact J7 _ _ _ _ _ hf0 hH (lv_sub hl [1, 2, 0] rfl)
theorem c_MM_takes (l : Launch) {Z : WD} (hI : wI Z) (hZ : IsM Z) (a1 : Nat) (M : Mem) (hs1 : a1 < 10) {r : Bool} {M' : Mem} (hf : f_MM_takes a1 M = some (r, M')) : Ci l Z y_MM_takes b_MM_takes 5 (some .boolean) 4 85 [.ref (Z.2.2.1 0), .ref (Z.2.2.2.2.2.1 a1)] M M' (bI r) := by
  refine Met.ofW (cc := b_MM_takes) (maxL := 5) (ret := (some .boolean)) (by decide) rfl ?_
  intro p e s m args below meth c s₁ B hml hv
  obtain ⟨rfl, hP, hX⟩ := hv
  have S : CallFix p m c b_MM_takes 5 s ([.ref (Z.2.2.1 0), .ref (Z.2.2.2.2.2.1 a1)] : List Value).toArray gtb R_MM := ⟨B.exec, B.bytes, hml, findClass_of_methodNamed B.named, fun w hw => atoms_spec (ws := .code y_MM_takes b_MM_takes 5 (some .boolean) :: gtb) B.pre w (List.mem_cons_of_mem _ hw)⟩
  have hl := lv_entry ([.ref (Z.2.2.1 0), .ref (Z.2.2.2.2.2.1 a1)]) (n := 5) (Nat.le_of_ble_eq_true rfl)
  rw [lg_entry_eq]
  exact wk_MM_takes hI hZ a1 M hs1 S hX ⟨Nat.le_refl _, Nat.le_refl _⟩ (fun pc H locs ls hH d => q_rz S.1 S.2.1 B.returns B.notSynchronized hH rfl rfl d) hf ⟨hP, va_S.rf⟩ hl
noncomputable def f_MM_isRight (M : Mem) : Bool := if (M 0 10) = (-1 : Int32) then true else false
set_option maxHeartbeats 4000000 in
theorem wk_MM_isRight {l : Launch} {Z : WD} (hI : wI Z) (hZ : IsM Z) (M : Mem) {r : Bool} {p : Program} {e : Env} {R : Room} {s : State} {m : MethodId} {args : Array Value} {below : List Frame} {meth : Method} {c : Code} {H : Heap} {locs : List Loc} {ls : Array Slot} {Q : State → Prop} (S : CallFix p m c b_MM_isRight 1 s args gtb R_MM) (hX : wX Z s) (hR : 0 ≤ R.frames ∧ 0 ≤ R.locals) (hQ : ∀ (pc : Nat) (H : Heap) (locs : List Loc) (ls : Array Slot), HW Z M s H locs → decode b_MM_isRight pc = .ok (.ireturn, 1) → W p l e R s m args below meth c H locs 0 0 Q (F0 m pc ls [.int (bI r)])) (hf0 : f_MM_isRight M = r) (hH : HW Z M s H locs) (hl : lv_has ls 1 [(0, .ref (Z.2.2.1 0))]) : W p l e R s m args below meth c H locs 0 0 Q (F0 m 0 ls []) := by
  have hx := S.1
  have hb := S.2.1
  have hown := S.2.2.2.1
  have ht := S.2.2.2.2
  unfold f_MM_isRight at hf0
  refine lv_aload_n hx hb d_MM_isRight_0 rfl (lv_at hl 0 rfl) ?_
  refine g_MM_94 S hX hH hZ d_MM_isRight_1 ?_
  refine lv_iconst (v := (-1 : Int32)) hx hb d_MM_isRight_4 (by decide) ?_
  refine lv_icmp_ne (tgt := 12) hx hb d_MM_isRight_5 (by decide) (fun hc => ?_) (fun hc => ?_)
  · replace hf0 := o_f hc hf0
    refine lv_iconst (v := (0 : Int32)) hx hb d_MM_isRight_12 (by decide) ?_
    subst hf0
    exact hQ _ _ _ _ hH d_MM_isRight_13
  · replace hf0 := o_t hc hf0
    refine lv_iconst (v := (1 : Int32)) hx hb d_MM_isRight_8 (by decide) ?_
    refine lv_goto (tgt := 13) hx hb d_MM_isRight_9 (by decide) ?_
    subst hf0
    exact hQ _ _ _ _ hH d_MM_isRight_13
theorem c_MM_isRight (l : Launch) {Z : WD} (hI : wI Z) (hZ : IsM Z) (M : Mem) {r : Bool} (hf : f_MM_isRight M = r) : Ci l Z y_MM_isRight b_MM_isRight 1 (some .boolean) 0 0 [.ref (Z.2.2.1 0)] M M (bI r) := by
  refine Met.ofW (cc := b_MM_isRight) (maxL := 1) (ret := (some .boolean)) (by decide) rfl ?_
  intro p e s m args below meth c s₁ B hml hv
  obtain ⟨rfl, hP, hX⟩ := hv
  have S : CallFix p m c b_MM_isRight 1 s ([.ref (Z.2.2.1 0)] : List Value).toArray gtb R_MM := ⟨B.exec, B.bytes, hml, findClass_of_methodNamed B.named, fun w hw => atoms_spec (ws := .code y_MM_isRight b_MM_isRight 1 (some .boolean) :: gtb) B.pre w (List.mem_cons_of_mem _ hw)⟩
  have hl := lv_entry ([.ref (Z.2.2.1 0)]) (n := 1) (Nat.le_of_ble_eq_true rfl)
  rw [lg_entry_eq]
  exact wk_MM_isRight hI hZ M S hX ⟨Nat.le_refl _, Nat.le_refl _⟩ (fun pc H locs ls hH d => q_rz S.1 S.2.1 B.returns B.notSynchronized hH rfl rfl d) hf ⟨hP, va_S.rf⟩ hl
theorem cw_MM_97 {R : Room} {s : State} {args : Array Value} (ht : ∀ w ∈ gtb, w.before args s = true) (h1 : 0 + 1 ≤ R.frames) (h2 : 8 + (1 + 11) + 0 ≤ R.locals) : CallW R s args R_MM R_MM 97 y_MM_isRight b_MM_isRight 1 (some .boolean) (.code y_MM_isRight b_MM_isRight 1 (some .boolean) :: gtb) { frames := 0, cells := 0, slots := 0, locals := 0 } 0 0 0 := cwV 0 ht (gV w5_91 w5_93 ws_MM_isRight w1_10 w5_94) rfl rfl rfl ⟨rfl, by decide, by decide, by decide +kernel⟩ ⟨h1, h2⟩
noncomputable def f_MM_fails (M : Mem) (x1 : Int32) (x2 : Int32) : Option Mem := 
    if (bI (f_MM_isRight M)) = 0 then some M else lt1 (upM M 0 10 (((8 : Int32) * x2) + x1)) (fun M1 => some M1)
set_option maxHeartbeats 4000000 in
theorem wk_MM_fails {l : Launch} {Z : WD} (hI : wI Z) (hZ : IsM Z) (M : Mem) (x1 : Int32) (x2 : Int32) {M' : Mem} {p : Program} {e : Env} {R : Room} {s : State} {m : MethodId} {args : Array Value} {below : List Frame} {meth : Method} {c : Code} {H : Heap} {locs : List Loc} {ls : Array Slot} {Q : State → Prop} (S : CallFix p m c b_MM_fails 3 s args gtb R_MM) (hX : wX Z s) (hR : 1 ≤ R.frames ∧ 20 ≤ R.locals) (hQ : ∀ (pc : Nat) (H : Heap) (locs : List Loc) (ls : Array Slot), HW Z M' s H locs → decode b_MM_fails pc = .ok (.return_, 1) → W p l e R s m args below meth c H locs 0 0 Q (F0 m pc ls [])) (hf0 : f_MM_fails M x1 x2 = some M') (hH : HW Z M s H locs) (hl : lv_has ls 3 [(0, .ref (Z.2.2.1 0)), (1, .int x1), (2, .int x2)]) : W p l e R s m args below meth c H locs 0 0 Q (F0 m 0 ls []) := by
  have hx := S.1
  have hb := S.2.1
  have hown := S.2.2.2.1
  have ht := S.2.2.2.2
  unfold f_MM_fails at hf0
  refine lv_aload_n hx hb d_MM_fails_0 rfl (lv_at hl 0 rfl) ?_
  refine q_cVi (As := []) (rest := []) S hX hH (c_MM_isRight l hI hZ M rfl) (cw_MM_97 S.2.2.2.2 (Nat.le_trans (Nat.le_of_ble_eq_true rfl) hR.1) (Nat.le_trans (Nat.le_of_ble_eq_true rfl) hR.2)) (rc_MM hX hH hZ) rfl hl.1 rfl (Nat.le_of_ble_eq_true rfl) d_MM_fails_1 ⟨Nat.zero_le _, Nat.zero_le _⟩ (fun H locs hH => ?_)
  refine lv_if_eq (tgt := 17) hx hb d_MM_fails_4 (by decide) (fun hc => ?_) (fun hc => ?_)
  · replace hf0 := o_t hc hf0
    obtain rfl := o_v hf0
    exact hQ _ _ _ _ hH d_MM_fails_17
  · replace hf0 := o_f hc hf0
    refine lv_aload_n hx hb d_MM_fails_7 rfl (lv_at hl 0 rfl) ?_
    refine lv_bipush (v := (8 : Int32)) hx hb d_MM_fails_8 (by decide) ?_
    refine lv_iload_n hx hb d_MM_fails_10 rfl (lv_at hl 2 rfl) ?_
    refine lv_imul hx hb d_MM_fails_11 ?_
    refine lv_iload_n hx hb d_MM_fails_12 rfl (lv_at hl 1 rfl) ?_
    refine lv_iadd hx hb d_MM_fails_13 ?_
    obtain ⟨M1, hM1, hf0⟩ := o_l hf0
    refine s_MM_94 S hX hI hH hZ d_MM_fails_14 (fun H locs hH => ?_)
    rw [hM1] at hH
    obtain rfl := o_v hf0
    exact hQ _ _ _ _ hH d_MM_fails_17
theorem c_MM_fails (l : Launch) {Z : WD} (hI : wI Z) (hZ : IsM Z) (M : Mem) (x1 : Int32) (x2 : Int32) {M' : Mem} (hf : f_MM_fails M x1 x2 = some M') : Cv l Z y_MM_fails b_MM_fails 3 none 1 20 [.ref (Z.2.2.1 0), .int x1, .int x2] M M' := by
  refine Met.ofW (cc := b_MM_fails) (maxL := 3) (ret := none) (by decide) rfl ?_
  intro p e s m args below meth c s₁ B hml hv
  obtain ⟨rfl, hP, hX⟩ := hv
  have S : CallFix p m c b_MM_fails 3 s ([.ref (Z.2.2.1 0), .int x1, .int x2] : List Value).toArray gtb R_MM := ⟨B.exec, B.bytes, hml, findClass_of_methodNamed B.named, fun w hw => atoms_spec (ws := .code y_MM_fails b_MM_fails 3 none :: gtb) B.pre w (List.mem_cons_of_mem _ hw)⟩
  have hl := lv_entry ([.ref (Z.2.2.1 0), .int x1, .int x2]) (n := 3) (Nat.le_of_ble_eq_true rfl)
  rw [lg_entry_eq]
  exact wk_MM_fails hI hZ M x1 x2 S hX ⟨Nat.le_refl _, Nat.le_refl _⟩ (fun pc H locs ls hH d => q_rv S.1 S.2.1 B.returns B.notSynchronized hH rfl d) hf ⟨hP, va_S.rf⟩ hl
noncomputable def f_MM_isDigit (M : Mem) : Option (Bool × Mem) := bnd2 (f_MM_next M) (fun y3 M2 => some ((f_MM_in y3.toInt64 (48 : Int64) (57 : Int64)), M2))
set_option maxHeartbeats 4000000 in
theorem wk_MM_isDigit {l : Launch} {Z : WD} (hI : wI Z) (hZ : IsM Z) (M : Mem) {r : Bool} {M' : Mem} {p : Program} {e : Env} {R : Room} {s : State} {m : MethodId} {args : Array Value} {below : List Frame} {meth : Method} {c : Code} {H : Heap} {locs : List Loc} {ls : Array Slot} {Q : State → Prop} (S : CallFix p m c b_MM_isDigit 1 s args gtb R_MM) (hX : wX Z s) (hR : 2 ≤ R.frames ∧ 40 ≤ R.locals) (hQ : ∀ (pc : Nat) (H : Heap) (locs : List Loc) (ls : Array Slot), HW Z M' s H locs → decode b_MM_isDigit pc = .ok (.ireturn, 1) → W p l e R s m args below meth c H locs 0 0 Q (F0 m pc ls [.int (bI r)])) (hf0 : f_MM_isDigit M = some (r, M')) (hH : HW Z M s H locs) (hl : lv_has ls 1 [(0, .ref (Z.2.2.1 0))]) : W p l e R s m args below meth c H locs 0 0 Q (F0 m 0 ls []) := by
  have hx := S.1
  have hb := S.2.1
  have hown := S.2.2.2.1
  have ht := S.2.2.2.2
  unfold f_MM_isDigit at hf0
  refine lv_aload_n hx hb d_MM_isDigit_0 rfl (lv_at hl 0 rfl) ?_
  obtain ⟨y3, M2, hc1, hf0⟩ := o_b2 hf0
  refine q_cVi (As := []) (rest := []) S hX hH (c_MM_next l hI hZ M hc1) (cw_MM_101 S.2.2.2.2 (Nat.le_trans (Nat.le_of_ble_eq_true rfl) hR.1) (Nat.le_trans (Nat.le_of_ble_eq_true rfl) hR.2)) (rc_MM hX hH hZ) rfl hl.1 rfl (Nat.le_of_ble_eq_true rfl) d_MM_isDigit_1 ⟨Nat.zero_le _, Nat.zero_le _⟩ (fun H locs hH => ?_)
  refine lv_i2l hx hb d_MM_isDigit_4 rfl ?_
  refine lv_ldc2 (v := (48 : Int64)) hx hb hown (ht _ w5_103) d_MM_isDigit_5 ?_
  refine lv_ldc2 (v := (57 : Int64)) hx hb hown (ht _ w5_104) d_MM_isDigit_8 ?_
  refine q_cSi (As := [.long y3.toInt64, .long (48 : Int64), .long (57 : Int64)]) (rest := []) S hX hH (c_MM_in l hI M2 y3.toInt64 (48 : Int64) (57 : Int64) rfl) (cw_MM_108 S.2.2.2.2 (Nat.le_trans (Nat.le_of_ble_eq_true rfl) hR.1) (Nat.le_trans (Nat.le_of_ble_eq_true rfl) hR.2)) rfl hl.1 rfl (Nat.le_of_ble_eq_true rfl) d_MM_isDigit_11 ⟨Nat.zero_le _, Nat.zero_le _⟩ (fun H locs hH => ?_)
  obtain ⟨rfl, rfl⟩ := o_p hf0
  exact hQ _ _ _ _ hH d_MM_isDigit_14
theorem c_MM_isDigit (l : Launch) {Z : WD} (hI : wI Z) (hZ : IsM Z) (M : Mem) {r : Bool} {M' : Mem} (hf : f_MM_isDigit M = some (r, M')) : Ci l Z y_MM_isDigit b_MM_isDigit 1 (some .boolean) 2 40 [.ref (Z.2.2.1 0)] M M' (bI r) := by
  refine Met.ofW (cc := b_MM_isDigit) (maxL := 1) (ret := (some .boolean)) (by decide) rfl ?_
  intro p e s m args below meth c s₁ B hml hv
  obtain ⟨rfl, hP, hX⟩ := hv
  have S : CallFix p m c b_MM_isDigit 1 s ([.ref (Z.2.2.1 0)] : List Value).toArray gtb R_MM := ⟨B.exec, B.bytes, hml, findClass_of_methodNamed B.named, fun w hw => atoms_spec (ws := .code y_MM_isDigit b_MM_isDigit 1 (some .boolean) :: gtb) B.pre w (List.mem_cons_of_mem _ hw)⟩
  have hl := lv_entry ([.ref (Z.2.2.1 0)]) (n := 1) (Nat.le_of_ble_eq_true rfl)
  rw [lg_entry_eq]
  exact wk_MM_isDigit hI hZ M S hX ⟨Nat.le_refl _, Nat.le_refl _⟩ (fun pc H locs ls hH d => q_rz S.1 S.2.1 B.returns B.notSynchronized hH rfl rfl d) hf ⟨hP, va_S.rf⟩ hl
theorem cw_MM_128 {R : Room} {s : State} {args : Array Value} (ht : ∀ w ∈ gtb, w.before args s = true) (h1 : 1 + 1 ≤ R.frames) (h2 : 8 + (3 + 11) + 20 ≤ R.locals) : CallW R s args R_MM R_MM 128 y_MM_fails b_MM_fails 3 none (.code y_MM_fails b_MM_fails 3 none :: gtb) { frames := 1, cells := 0, slots := 0, locals := 20 } 0 0 2 := cwV 2 ht (gV w5_87 w5_89 ws_MM_fails w1_10 w5_90) rfl rfl rfl ⟨rfl, by decide, by decide, by decide +kernel⟩ ⟨h1, h2⟩
theorem cw_MM_125 {R : Room} {s : State} {args : Array Value} (ht : ∀ w ∈ gtb, w.before args s = true) (h1 : 2 + 1 ≤ R.frames) (h2 : 8 + (1 + 11) + 40 ≤ R.locals) : CallW R s args R_MM R_MM 125 y_MM_isDigit b_MM_isDigit 1 (some .boolean) (.code y_MM_isDigit b_MM_isDigit 1 (some .boolean) :: gtb) { frames := 2, cells := 0, slots := 0, locals := 40 } 0 0 0 := cwV 0 ht (gV w5_99 w5_101 ws_MM_isDigit w1_10 w5_102) rfl rfl rfl ⟨rfl, by decide, by decide, by decide +kernel⟩ ⟨h1, h2⟩
noncomputable def f_MM_number_L35 (x3 : Int32) (M : Mem) : Option ((Int32 × Mem) ⊕ (Int32 × Mem)) := bnd (f_MM_sign M) (fun y2 => 
    if (bI (f_MM_in y2.toInt64 (48 : Int64) (57 : Int64))) = 0 then some (.inr (x3, M)) else 
    bnd (f_MM_sign M) (fun y4 => 
    lt1 (upM M 0 9 ((M 0 9) + (1 : Int32))) (fun M5 => some (.inl (miI (1000 : Int32) ((((10 : Int32) * x3) + y4) - (48 : Int32)), M5)))))
noncomputable def f_MM_number_W35  (u : (Int32 × Mem)) : Option (Int32 × Mem) := loop (fun t => f_MM_number_L35 t.1 t.2) u
noncomputable def f_MM_number_J35 (M : Mem) (x1 : Int32) (x2 : Int32) (x3 : Int32) : Option (Int32 × Mem) := bnd (f_MM_number_W35 (x3, M)) (fun e35 => if (bI (f_MM_in e35.1.toInt64 x1.toInt64 x2.toInt64)) = 0 then bnd (f_MM_fails e35.2 (2 : Int32) (e35.2 0 11)) (fun M7 => some (e35.1, M7)) else some (e35.1, e35.2))
noncomputable def f_MM_number_J14 (M : Mem) : Option (Int32 × Mem) := bnd (f_MM_fails M (1 : Int32) (M 0 9)) (fun M9 => some ((0 : Int32), M9))
noncomputable def f_MM_number (M : Mem) (x1 : Int32) (x2 : Int32) : Option (Int32 × Mem) := 
    if (bI (f_MM_isRight M)) = 0 then f_MM_number_J14 M else 
    bnd2 (f_MM_isDigit M) (fun y12 M11 => 
    if (bI y12) = 0 then f_MM_number_J14 M11 else lt1 (upM M11 0 11 (M11 0 9)) (fun M13 => f_MM_number_J35 M13 x1 x2 (0 : Int32)))
set_option maxHeartbeats 4000000 in
theorem wk_MM_number {l : Launch} {Z : WD} (hI : wI Z) (hZ : IsM Z) (M : Mem) (x1 : Int32) (x2 : Int32) {r : Int32} {M' : Mem} {p : Program} {e : Env} {R : Room} {s : State} {m : MethodId} {args : Array Value} {below : List Frame} {meth : Method} {c : Code} {H : Heap} {locs : List Loc} {ls : Array Slot} {Q : State → Prop} (S : CallFix p m c b_MM_number 4 s args gtb R_MM) (hX : wX Z s) (hR : 3 ≤ R.frames ∧ 60 ≤ R.locals) (hQ : ∀ (pc : Nat) (H : Heap) (locs : List Loc) (ls : Array Slot), HW Z M' s H locs → decode b_MM_number pc = .ok (.ireturn, 1) → W p l e R s m args below meth c H locs 0 0 Q (F0 m pc ls [.int r])) (hf0 : f_MM_number M x1 x2 = some (r, M')) (hH : HW Z M s H locs) (hl : lv_has ls 4 [(0, .ref (Z.2.2.1 0)), (1, .int x1), (2, .int x2)]) : W p l e R s m args below meth c H locs 0 0 Q (F0 m 0 ls []) := by
  have hx := S.1
  have hb := S.2.1
  have hown := S.2.2.2.1
  have ht := S.2.2.2.2
  unfold f_MM_number at hf0
  have J35 : ∀ (M : Mem) (x1 : Int32) (x2 : Int32) (x3 : Int32) (H : Heap) (locs : List Loc) (ls : Array Slot), f_MM_number_J35 M x1 x2 x3 = some (r, M') → HW Z M s H locs → lv_has ls 4 [(0, .ref (Z.2.2.1 0)), (1, .int x1), (2, .int x2), (3, .int x3)] → W p l e R s m args below meth c H locs 0 0 Q (F0 m 35 ls []) := by
    intro M x1 x2 x3 H locs ls hf0 hH hl
    unfold f_MM_number_J35 at hf0
    obtain ⟨e35, he35, hf0⟩ := o_b hf0
    have KX35 : ∀ (H : Heap) (locs : List Loc) (ls : Array Slot), HW Z e35.2 s H locs → lv_has ls 4 [(0, .ref (Z.2.2.1 0)), (1, .int x1), (2, .int x2), (3, .int e35.1)] → W p l e R s m args below meth c H locs 0 0 Q (F0 m 84 ls []) := by
      intro H locs ls hH hl
      refine lv_iload_n hx hb d_MM_number_84 rfl (lv_at hl 3 rfl) ?_
      refine lv_i2l hx hb d_MM_number_85 rfl ?_
      refine lv_iload_n hx hb d_MM_number_86 rfl (lv_at hl 1 rfl) ?_
      refine lv_i2l hx hb d_MM_number_87 rfl ?_
      refine lv_iload_n hx hb d_MM_number_88 rfl (lv_at hl 2 rfl) ?_
      refine lv_i2l hx hb d_MM_number_89 rfl ?_
      refine q_cSi (As := [.long e35.1.toInt64, .long x1.toInt64, .long x2.toInt64]) (rest := []) S hX hH (c_MM_in l hI e35.2 e35.1.toInt64 x1.toInt64 x2.toInt64 rfl) (cw_MM_108 S.2.2.2.2 (Nat.le_trans (Nat.le_of_ble_eq_true rfl) hR.1) (Nat.le_trans (Nat.le_of_ble_eq_true rfl) hR.2)) rfl hl.1 rfl (Nat.le_of_ble_eq_true rfl) d_MM_number_90 ⟨Nat.zero_le _, Nat.zero_le _⟩ (fun H locs hH => ?_)
      refine lv_if_ne (tgt := 105) hx hb d_MM_number_93 (by decide) (fun hc => ?_) (fun hc => ?_)
      · replace hf0 := o_f hc hf0
        refine lv_iload_n hx hb d_MM_number_105 rfl (lv_at hl 3 rfl) ?_
        obtain ⟨rfl, rfl⟩ := o_p hf0
        exact hQ _ _ _ _ hH d_MM_number_106
      · replace hf0 := o_t hc hf0
        refine lv_aload_n hx hb d_MM_number_96 rfl (lv_at hl 0 rfl) ?_
        refine lv_iconst (v := (2 : Int32)) hx hb d_MM_number_97 (by decide) ?_
        refine lv_aload_n hx hb d_MM_number_98 rfl (lv_at hl 0 rfl) ?_
        refine g_MM_132 S hX hH hZ d_MM_number_99 ?_
        obtain ⟨M7, hc6, hf0⟩ := o_b hf0
        refine q_cVv (As := [.int (2 : Int32), .int (e35.2 0 11)]) (rest := []) S hX hH (c_MM_fails l hI hZ e35.2 (2 : Int32) (e35.2 0 11) hc6) (cw_MM_128 S.2.2.2.2 (Nat.le_trans (Nat.le_of_ble_eq_true rfl) hR.1) (Nat.le_trans (Nat.le_of_ble_eq_true rfl) hR.2)) (rc_MM hX hH hZ) rfl hl.1 rfl (Nat.le_of_ble_eq_true rfl) d_MM_number_102 ⟨Nat.zero_le _, Nat.zero_le _⟩ (fun H locs hH => ?_)
        refine lv_iload_n hx hb d_MM_number_105 rfl (lv_at hl 3 rfl) ?_
        obtain ⟨rfl, rfl⟩ := o_p hf0
        exact hQ _ _ _ _ hH d_MM_number_106
    unfold f_MM_number_W35 at he35
    refine loop_W (fun t => ∀ (H : Heap) (locs : List Loc) (ls : Array Slot), HW Z t.2 s H locs → lv_has ls 4 [(0, .ref (Z.2.2.1 0)), (1, .int x1), (2, .int x2), (3, .int t.1)] → W p l e R s m args below meth c H locs 0 0 Q (F0 m 35 ls [])) ?_ he35 H locs ls hH hl
    rintro ⟨x3, M⟩ o1 hf1 hG1 hR1 H locs ls hH hl
    replace hH : HW Z M s H locs := hH
    replace hl : lv_has ls 4 [(0, .ref (Z.2.2.1 0)), (1, .int x1), (2, .int x2), (3, .int x3)] := hl
    replace hf1 : f_MM_number_L35 x3 M = some o1 := hf1
    unfold f_MM_number_L35 at hf1
    refine lv_aload_n hx hb d_MM_number_35 rfl (lv_at hl 0 rfl) ?_
    obtain ⟨y2, hc1, hf1⟩ := o_b hf1
    refine q_cVi (As := []) (rest := []) S hX hH (c_MM_sign l hI hZ M hc1) (cw_MM_90 S.2.2.2.2 (Nat.le_trans (Nat.le_of_ble_eq_true rfl) hR.1) (Nat.le_trans (Nat.le_of_ble_eq_true rfl) hR.2)) (rc_MM hX hH hZ) rfl hl.1 rfl (Nat.le_of_ble_eq_true rfl) d_MM_number_36 ⟨Nat.zero_le _, Nat.zero_le _⟩ (fun H locs hH => ?_)
    refine lv_i2l hx hb d_MM_number_39 rfl ?_
    refine lv_ldc2 (v := (48 : Int64)) hx hb hown (ht _ w5_103) d_MM_number_40 ?_
    refine lv_ldc2 (v := (57 : Int64)) hx hb hown (ht _ w5_104) d_MM_number_43 ?_
    refine q_cSi (As := [.long y2.toInt64, .long (48 : Int64), .long (57 : Int64)]) (rest := []) S hX hH (c_MM_in l hI M y2.toInt64 (48 : Int64) (57 : Int64) rfl) (cw_MM_108 S.2.2.2.2 (Nat.le_trans (Nat.le_of_ble_eq_true rfl) hR.1) (Nat.le_trans (Nat.le_of_ble_eq_true rfl) hR.2)) rfl hl.1 rfl (Nat.le_of_ble_eq_true rfl) d_MM_number_46 ⟨Nat.zero_le _, Nat.zero_le _⟩ (fun H locs hH => ?_)
    refine lv_if_eq (tgt := 84) hx hb d_MM_number_49 (by decide) (fun hc => ?_) (fun hc => ?_)
    · replace hf1 := o_t hc hf1
      obtain rfl := hR1 _ (o_v hf1).symm
      exact KX35 _ _ _ hH (lv_sub hl [0, 1, 2, 3] rfl)
    · replace hf1 := o_f hc hf1
      refine lv_sipush (v := (1000 : Int32)) hx hb d_MM_number_52 (by decide) ?_
      refine lv_bipush (v := (10 : Int32)) hx hb d_MM_number_55 (by decide) ?_
      refine lv_iload_n hx hb d_MM_number_57 rfl (lv_at hl 3 rfl) ?_
      refine lv_imul hx hb d_MM_number_58 ?_
      refine lv_aload_n hx hb d_MM_number_59 rfl (lv_at hl 0 rfl) ?_
      obtain ⟨y4, hc3, hf1⟩ := o_b hf1
      refine q_cVi (As := []) (rest := [.int ((10 : Int32) * x3), .int (1000 : Int32)]) S hX hH (c_MM_sign l hI hZ M hc3) (cw_MM_90 S.2.2.2.2 (Nat.le_trans (Nat.le_of_ble_eq_true rfl) hR.1) (Nat.le_trans (Nat.le_of_ble_eq_true rfl) hR.2)) (rc_MM hX hH hZ) rfl hl.1 rfl (Nat.le_of_ble_eq_true rfl) d_MM_number_60 ⟨Nat.zero_le _, Nat.zero_le _⟩ (fun H locs hH => ?_)
      refine lv_iadd hx hb d_MM_number_63 ?_
      refine lv_bipush (v := (48 : Int32)) hx hb d_MM_number_64 (by decide) ?_
      refine lv_isub hx hb d_MM_number_66 ?_
      refine q_min S hl.1 w5_105 w2_61 w1_9 w2_62 (Nat.le_trans (Nat.le_of_ble_eq_true rfl) hR.1) (Nat.le_trans (Nat.le_of_ble_eq_true rfl) hR.2) d_MM_number_67 ?_
      refine lv_istore_n (lv' := [(3, .int (miI (1000 : Int32) ((((10 : Int32) * x3) + y4) - (48 : Int32)))), (0, .ref (Z.2.2.1 0)), (1, .int x1), (2, .int x2)]) hx hb d_MM_number_70 rfl hl (by decide) rfl (fun ls hl => ?_)
      refine lv_aload_n hx hb d_MM_number_71 rfl (lv_at hl 1 rfl) ?_
      refine lv_dup hx hb d_MM_number_72 rfl ?_
      refine g_MM_87 S hX hH hZ d_MM_number_73 ?_
      refine lv_iconst (v := (1 : Int32)) hx hb d_MM_number_76 (by decide) ?_
      refine lv_iadd hx hb d_MM_number_77 ?_
      obtain ⟨M5, hM5, hf1⟩ := o_l hf1
      refine s_MM_87 S hX hI hH hZ d_MM_number_78 (fun H locs hH => ?_)
      rw [hM5] at hH
      refine lv_goto (tgt := 35) hx hb d_MM_number_81 (by decide) ?_
      exact hG1 _ (o_v hf1).symm _ _ _ hH (lv_sub hl [1, 2, 3, 0] rfl)
  have J14 : ∀ (M : Mem) (H : Heap) (locs : List Loc) (ls : Array Slot), f_MM_number_J14 M = some (r, M') → HW Z M s H locs → lv_has ls 4 [(0, .ref (Z.2.2.1 0))] → W p l e R s m args below meth c H locs 0 0 Q (F0 m 14 ls []) := by
    intro M H locs ls hf0 hH hl
    unfold f_MM_number_J14 at hf0
    refine lv_aload_n hx hb d_MM_number_14 rfl (lv_at hl 0 rfl) ?_
    refine lv_iconst (v := (1 : Int32)) hx hb d_MM_number_15 (by decide) ?_
    refine lv_aload_n hx hb d_MM_number_16 rfl (lv_at hl 0 rfl) ?_
    refine g_MM_87 S hX hH hZ d_MM_number_17 ?_
    obtain ⟨M9, hc8, hf0⟩ := o_b hf0
    refine q_cVv (As := [.int (1 : Int32), .int (M 0 9)]) (rest := []) S hX hH (c_MM_fails l hI hZ M (1 : Int32) (M 0 9) hc8) (cw_MM_128 S.2.2.2.2 (Nat.le_trans (Nat.le_of_ble_eq_true rfl) hR.1) (Nat.le_trans (Nat.le_of_ble_eq_true rfl) hR.2)) (rc_MM hX hH hZ) rfl hl.1 rfl (Nat.le_of_ble_eq_true rfl) d_MM_number_20 ⟨Nat.zero_le _, Nat.zero_le _⟩ (fun H locs hH => ?_)
    refine lv_iconst (v := (0 : Int32)) hx hb d_MM_number_23 (by decide) ?_
    obtain ⟨rfl, rfl⟩ := o_p hf0
    exact hQ _ _ _ _ hH d_MM_number_24
  refine lv_aload_n hx hb d_MM_number_0 rfl (lv_at hl 0 rfl) ?_
  refine q_cVi (As := []) (rest := []) S hX hH (c_MM_isRight l hI hZ M rfl) (cw_MM_97 S.2.2.2.2 (Nat.le_trans (Nat.le_of_ble_eq_true rfl) hR.1) (Nat.le_trans (Nat.le_of_ble_eq_true rfl) hR.2)) (rc_MM hX hH hZ) rfl hl.1 rfl (Nat.le_of_ble_eq_true rfl) d_MM_number_1 ⟨Nat.zero_le _, Nat.zero_le _⟩ (fun H locs hH => ?_)
  refine lv_if_eq (tgt := 14) hx hb d_MM_number_4 (by decide) (fun hc => ?_) (fun hc => ?_)
  · replace hf0 := o_t hc hf0
    exact J14 _ _ _ _ hf0 hH (lv_sub hl [0] rfl)
  · replace hf0 := o_f hc hf0
    refine lv_aload_n hx hb d_MM_number_7 rfl (lv_at hl 0 rfl) ?_
    obtain ⟨y12, M11, hc10, hf0⟩ := o_b2 hf0
    refine q_cVi (As := []) (rest := []) S hX hH (c_MM_isDigit l hI hZ M hc10) (cw_MM_125 S.2.2.2.2 (Nat.le_trans (Nat.le_of_ble_eq_true rfl) hR.1) (Nat.le_trans (Nat.le_of_ble_eq_true rfl) hR.2)) (rc_MM hX hH hZ) rfl hl.1 rfl (Nat.le_of_ble_eq_true rfl) d_MM_number_8 ⟨Nat.zero_le _, Nat.zero_le _⟩ (fun H locs hH => ?_)
    refine lv_if_ne (tgt := 25) hx hb d_MM_number_11 (by decide) (fun hc => ?_) (fun hc => ?_)
    · replace hf0 := o_f hc hf0
      refine lv_aload_n hx hb d_MM_number_25 rfl (lv_at hl 0 rfl) ?_
      refine lv_aload_n hx hb d_MM_number_26 rfl (lv_at hl 0 rfl) ?_
      refine g_MM_87 S hX hH hZ d_MM_number_27 ?_
      obtain ⟨M13, hM13, hf0⟩ := o_l hf0
      refine s_MM_132 S hX hI hH hZ d_MM_number_30 (fun H locs hH => ?_)
      rw [hM13] at hH
      refine lv_iconst (v := (0 : Int32)) hx hb d_MM_number_33 (by decide) ?_
      refine lv_istore_n (lv' := [(3, .int (0 : Int32)), (0, .ref (Z.2.2.1 0)), (1, .int x1), (2, .int x2)]) hx hb d_MM_number_34 rfl hl (by decide) rfl (fun ls hl => ?_)
      exact J35 _ _ _ _ _ _ _ hf0 hH (lv_sub hl [1, 2, 3, 0] rfl)
    · replace hf0 := o_t hc hf0
      exact J14 _ _ _ _ hf0 hH (lv_sub hl [0] rfl)
theorem c_MM_number (l : Launch) {Z : WD} (hI : wI Z) (hZ : IsM Z) (M : Mem) (x1 : Int32) (x2 : Int32) {r : Int32} {M' : Mem} (hf : f_MM_number M x1 x2 = some (r, M')) : Ci l Z y_MM_number b_MM_number 4 (some .int) 3 60 [.ref (Z.2.2.1 0), .int x1, .int x2] M M' r := by
  refine Met.ofW (cc := b_MM_number) (maxL := 4) (ret := (some .int)) (by decide) rfl ?_
  intro p e s m args below meth c s₁ B hml hv
  obtain ⟨rfl, hP, hX⟩ := hv
  have S : CallFix p m c b_MM_number 4 s ([.ref (Z.2.2.1 0), .int x1, .int x2] : List Value).toArray gtb R_MM := ⟨B.exec, B.bytes, hml, findClass_of_methodNamed B.named, fun w hw => atoms_spec (ws := .code y_MM_number b_MM_number 4 (some .int) :: gtb) B.pre w (List.mem_cons_of_mem _ hw)⟩
  have hl := lv_entry ([.ref (Z.2.2.1 0), .int x1, .int x2]) (n := 4) (Nat.le_of_ble_eq_true rfl)
  rw [lg_entry_eq]
  exact wk_MM_number hI hZ M x1 x2 S hX ⟨Nat.le_refl _, Nat.le_refl _⟩ (fun pc H locs ls hH d => q_ri S.1 S.2.1 B.returns B.notSynchronized hH rfl rfl d) hf ⟨hP, va_S.rf⟩ hl
theorem cw_MM_141 {R : Room} {s : State} {args : Array Value} (ht : ∀ w ∈ gtb, w.before args s = true) (h1 : 3 + 1 ≤ R.frames) (h2 : 8 + (4 + 11) + 60 ≤ R.locals) : CallW R s args R_MM R_MM 141 y_MM_number b_MM_number 4 (some .int) (.code y_MM_number b_MM_number 4 (some .int) :: gtb) { frames := 3, cells := 0, slots := 0, locals := 60 } 0 0 2 := cwV 2 ht (gV w5_95 w5_97 ws_MM_number w1_10 w5_98) rfl rfl rfl ⟨rfl, by decide, by decide, by decide +kernel⟩ ⟨h1, h2⟩
noncomputable def f_MM_party (M : Mem) : Option (Int32 × Mem) := bnd2 (f_MM_number M (0 : Int32) ((M 2 0) - (1 : Int32))) (fun y3 M2 => some (y3, M2))
set_option maxHeartbeats 4000000 in
theorem wk_MM_party {l : Launch} {Z : WD} (hI : wI Z) (hZ : IsM Z) (M : Mem) {r : Int32} {M' : Mem} {p : Program} {e : Env} {R : Room} {s : State} {m : MethodId} {args : Array Value} {below : List Frame} {meth : Method} {c : Code} {H : Heap} {locs : List Loc} {ls : Array Slot} {Q : State → Prop} (S : CallFix p m c b_MM_party 1 s args gtb R_MM) (hX : wX Z s) (hR : 4 ≤ R.frames ∧ 83 ≤ R.locals) (hQ : ∀ (pc : Nat) (H : Heap) (locs : List Loc) (ls : Array Slot), HW Z M' s H locs → decode b_MM_party pc = .ok (.ireturn, 1) → W p l e R s m args below meth c H locs 0 0 Q (F0 m pc ls [.int r])) (hf0 : f_MM_party M = some (r, M')) (hH : HW Z M s H locs) (hl : lv_has ls 1 [(0, .ref (Z.2.2.1 0))]) : W p l e R s m args below meth c H locs 0 0 Q (F0 m 0 ls []) := by
  have hx := S.1
  have hb := S.2.1
  have hown := S.2.2.2.1
  have ht := S.2.2.2.2
  unfold f_MM_party at hf0
  refine lv_aload_n hx hb d_MM_party_0 rfl (lv_at hl 0 rfl) ?_
  refine lv_iconst (v := (0 : Int32)) hx hb d_MM_party_1 (by decide) ?_
  refine lv_aload_n hx hb d_MM_party_2 rfl (lv_at hl 0 rfl) ?_
  refine g_MM_13 S hX hH hZ d_MM_party_3 ?_
  refine lv_iconst (v := (0 : Int32)) hx hb d_MM_party_6 (by decide) ?_
  refine q_iald (j := 0) hx hb hX hH (aa_MM_2 hZ) (vp_c (by decide)) (by decide) d_MM_party_7 ?_
  refine lv_iconst (v := (1 : Int32)) hx hb d_MM_party_8 (by decide) ?_
  refine lv_isub hx hb d_MM_party_9 ?_
  obtain ⟨y3, M2, hc1, hf0⟩ := o_b2 hf0
  refine q_cVi (As := [.int (0 : Int32), .int ((M 2 0) - (1 : Int32))]) (rest := []) S hX hH (c_MM_number l hI hZ M (0 : Int32) ((M 2 0) - (1 : Int32)) hc1) (cw_MM_141 S.2.2.2.2 (Nat.le_trans (Nat.le_of_ble_eq_true rfl) hR.1) (Nat.le_trans (Nat.le_of_ble_eq_true rfl) hR.2)) (rc_MM hX hH hZ) rfl hl.1 rfl (Nat.le_of_ble_eq_true rfl) d_MM_party_10 ⟨Nat.zero_le _, Nat.zero_le _⟩ (fun H locs hH => ?_)
  obtain ⟨rfl, rfl⟩ := o_p hf0
  exact hQ _ _ _ _ hH d_MM_party_13
theorem c_MM_party (l : Launch) {Z : WD} (hI : wI Z) (hZ : IsM Z) (M : Mem) {r : Int32} {M' : Mem} (hf : f_MM_party M = some (r, M')) : Ci l Z y_MM_party b_MM_party 1 (some .int) 4 83 [.ref (Z.2.2.1 0)] M M' r := by
  refine Met.ofW (cc := b_MM_party) (maxL := 1) (ret := (some .int)) (by decide) rfl ?_
  intro p e s m args below meth c s₁ B hml hv
  obtain ⟨rfl, hP, hX⟩ := hv
  have S : CallFix p m c b_MM_party 1 s ([.ref (Z.2.2.1 0)] : List Value).toArray gtb R_MM := ⟨B.exec, B.bytes, hml, findClass_of_methodNamed B.named, fun w hw => atoms_spec (ws := .code y_MM_party b_MM_party 1 (some .int) :: gtb) B.pre w (List.mem_cons_of_mem _ hw)⟩
  have hl := lv_entry ([.ref (Z.2.2.1 0)]) (n := 1) (Nat.le_of_ble_eq_true rfl)
  rw [lg_entry_eq]
  exact wk_MM_party hI hZ M S hX ⟨Nat.le_refl _, Nat.le_refl _⟩ (fun pc H locs ls hH d => q_ri S.1 S.2.1 B.returns B.notSynchronized hH rfl rfl d) hf ⟨hP, va_S.rf⟩ hl
theorem cw_MM_144 {R : Room} {s : State} {args : Array Value} (ht : ∀ w ∈ gtb, w.before args s = true) (h1 : 4 + 1 ≤ R.frames) (h2 : 8 + (1 + 11) + 83 ≤ R.locals) : CallW R s args R_MM R_MM 144 y_MM_party b_MM_party 1 (some .int) (.code y_MM_party b_MM_party 1 (some .int) :: gtb) { frames := 4, cells := 0, slots := 0, locals := 83 } 0 0 0 := cwV 0 ht (gV w5_111 w5_113 ws_MM_party w1_10 w5_114) rfl rfl rfl ⟨rfl, by decide, by decide, by decide +kernel⟩ ⟨h1, h2⟩
noncomputable def f_MM_readsLiars_J53 (M : Mem) : Option ((Int32 × Mem) ⊕ Mem) := some (.inl ((0 : Int32), M))
noncomputable def f_MM_readsLiars_J33 (M : Mem) (s0 : Int32) (s1 : Int32) (s2 : Int32) : Option ((Int32 × Mem) ⊕ Mem) := gIn s2 302 (lt1 (upM M 2 s2.toNatClampNeg (s1 ||| s0)) (fun M2 => 
    if (bI (f_MM_isRight M2)) = 0 then f_MM_readsLiars_J53 M2 else 
    bnd2 (f_MM_isDigit M2) (fun y5 M4 => if (bI y5) = 0 then f_MM_readsLiars_J53 M4 else some (.inl ((1 : Int32), M4)))))
noncomputable def f_MM_readsLiars_L2 (x1 : Int32) (M : Mem) : Option ((Int32 × Mem) ⊕ Mem) := if x1 = 0 then some (.inr M) else 
    bnd2 (f_MM_party M) (fun y8 M7 => 
    if (bI (f_MM_isRight M7)) = 0 then f_MM_readsLiars_J33 M7 (0 : Int32) (M7 2 6) (6 : Int32) else f_MM_readsLiars_J33 M7 ((1 : Int32) <<< (y8 &&& 31)) (M7 2 6) (6 : Int32))
noncomputable def f_MM_readsLiars_W2  (u : (Int32 × Mem)) : Option Mem := loop (fun t => f_MM_readsLiars_L2 t.1 t.2) u
noncomputable def f_MM_readsLiars_J2 (M : Mem) (x1 : Int32) : Option (Mem) := bnd (f_MM_readsLiars_W2 (x1, M)) (fun e2 => some e2)
noncomputable def f_MM_readsLiars (M : Mem) : Option Mem := f_MM_readsLiars_J2 M (1 : Int32)
set_option maxHeartbeats 4000000 in
theorem wk_MM_readsLiars {l : Launch} {Z : WD} (hI : wI Z) (hZ : IsM Z) (M : Mem) {M' : Mem} {p : Program} {e : Env} {R : Room} {s : State} {m : MethodId} {args : Array Value} {below : List Frame} {meth : Method} {c : Code} {H : Heap} {locs : List Loc} {ls : Array Slot} {Q : State → Prop} (S : CallFix p m c b_MM_readsLiars 3 s args gtb R_MM) (hX : wX Z s) (hR : 5 ≤ R.frames ∧ 103 ≤ R.locals) (hQ : ∀ (pc : Nat) (H : Heap) (locs : List Loc) (ls : Array Slot), HW Z M' s H locs → decode b_MM_readsLiars pc = .ok (.return_, 1) → W p l e R s m args below meth c H locs 0 0 Q (F0 m pc ls [])) (hf0 : f_MM_readsLiars M = some M') (hH : HW Z M s H locs) (hl : lv_has ls 3 [(0, .ref (Z.2.2.1 0))]) : W p l e R s m args below meth c H locs 0 0 Q (F0 m 0 ls []) := by
  have hx := S.1
  have hb := S.2.1
  have hown := S.2.2.2.1
  have ht := S.2.2.2.2
  unfold f_MM_readsLiars at hf0
  have J2 : ∀ (M : Mem) (x1 : Int32) (H : Heap) (locs : List Loc) (ls : Array Slot), f_MM_readsLiars_J2 M x1 = some M' → HW Z M s H locs → lv_has ls 3 [(0, .ref (Z.2.2.1 0)), (1, .int x1)] → W p l e R s m args below meth c H locs 0 0 Q (F0 m 2 ls []) := by
    intro M x1 H locs ls hf0 hH hl
    unfold f_MM_readsLiars_J2 at hf0
    obtain ⟨e2, he2, hf0⟩ := o_b hf0
    unfold f_MM_readsLiars_W2 at he2
    refine loop_W (fun t => ∀ (H : Heap) (locs : List Loc) (ls : Array Slot), HW Z t.2 s H locs → lv_has ls 3 [(0, .ref (Z.2.2.1 0)), (1, .int t.1)] → W p l e R s m args below meth c H locs 0 0 Q (F0 m 2 ls [])) ?_ he2 H locs ls hH hl
    rintro ⟨x1, M⟩ o1 hf1 hG1 hR1 H locs ls hH hl
    replace hH : HW Z M s H locs := hH
    replace hl : lv_has ls 3 [(0, .ref (Z.2.2.1 0)), (1, .int x1)] := hl
    replace hf1 : f_MM_readsLiars_L2 x1 M = some o1 := hf1
    unfold f_MM_readsLiars_L2 at hf1
    have J53 : ∀ (M : Mem) (H : Heap) (locs : List Loc) (ls : Array Slot), f_MM_readsLiars_J53 M = some o1 → HW Z M s H locs → lv_has ls 3 [(0, .ref (Z.2.2.1 0))] → W p l e R s m args below meth c H locs 0 0 Q (F0 m 53 ls []) := by
      intro M H locs ls hf1 hH hl
      unfold f_MM_readsLiars_J53 at hf1
      refine lv_iconst (v := (0 : Int32)) hx hb d_MM_readsLiars_53 (by decide) ?_
      refine lv_istore_n (lv' := [(1, .int (0 : Int32)), (0, .ref (Z.2.2.1 0))]) hx hb d_MM_readsLiars_54 rfl hl (by decide) rfl (fun ls hl => ?_)
      refine lv_goto (tgt := 2) hx hb d_MM_readsLiars_55 (by decide) ?_
      exact hG1 _ (o_v hf1).symm _ _ _ hH (lv_sub hl [1, 0] rfl)
    have J33 : ∀ (M : Mem) (s0 : Int32) (s1 : Int32) (s2 : Int32) (H : Heap) (locs : List Loc) (ls : Array Slot), f_MM_readsLiars_J33 M s0 s1 s2 = some o1 → HW Z M s H locs → lv_has ls 3 [(0, .ref (Z.2.2.1 0))] → W p l e R s m args below meth c H locs 0 0 Q (F0 m 33 ls [.int s0, .int s1, .int s2, .ref (Z.2.2.1 2)]) := by
      intro M s0 s1 s2 H locs ls hf1 hH hl
      unfold f_MM_readsLiars_J33 at hf1
      refine lv_ior hx hb d_MM_readsLiars_33 ?_
      obtain ⟨hn1, hf1⟩ := o_in hf1
      obtain ⟨M2, hM2, hf1⟩ := o_l hf1
      refine q_iast (j := s2.toNatClampNeg) hx hb hX hI hH (aa_MM_2 hZ) hn1 rfl d_MM_readsLiars_34 (fun H locs hH => ?_)
      rw [hM2] at hH
      refine lv_aload_n hx hb d_MM_readsLiars_35 rfl (lv_at hl 0 rfl) ?_
      refine q_cVi (As := []) (rest := []) S hX hH (c_MM_isRight l hI hZ M2 rfl) (cw_MM_97 S.2.2.2.2 (Nat.le_trans (Nat.le_of_ble_eq_true rfl) hR.1) (Nat.le_trans (Nat.le_of_ble_eq_true rfl) hR.2)) (rc_MM hX hH hZ) rfl hl.1 rfl (Nat.le_of_ble_eq_true rfl) d_MM_readsLiars_36 ⟨Nat.zero_le _, Nat.zero_le _⟩ (fun H locs hH => ?_)
      refine lv_if_eq (tgt := 53) hx hb d_MM_readsLiars_39 (by decide) (fun hc => ?_) (fun hc => ?_)
      · replace hf1 := o_t hc hf1
        exact J53 _ _ _ _ hf1 hH (lv_sub hl [0] rfl)
      · replace hf1 := o_f hc hf1
        refine lv_aload_n hx hb d_MM_readsLiars_42 rfl (lv_at hl 0 rfl) ?_
        obtain ⟨y5, M4, hc3, hf1⟩ := o_b2 hf1
        refine q_cVi (As := []) (rest := []) S hX hH (c_MM_isDigit l hI hZ M2 hc3) (cw_MM_125 S.2.2.2.2 (Nat.le_trans (Nat.le_of_ble_eq_true rfl) hR.1) (Nat.le_trans (Nat.le_of_ble_eq_true rfl) hR.2)) (rc_MM hX hH hZ) rfl hl.1 rfl (Nat.le_of_ble_eq_true rfl) d_MM_readsLiars_43 ⟨Nat.zero_le _, Nat.zero_le _⟩ (fun H locs hH => ?_)
        refine lv_if_eq (tgt := 53) hx hb d_MM_readsLiars_46 (by decide) (fun hc => ?_) (fun hc => ?_)
        · replace hf1 := o_t hc hf1
          exact J53 _ _ _ _ hf1 hH (lv_sub hl [0] rfl)
        · replace hf1 := o_f hc hf1
          refine lv_iconst (v := (1 : Int32)) hx hb d_MM_readsLiars_49 (by decide) ?_
          refine lv_goto (tgt := 54) hx hb d_MM_readsLiars_50 (by decide) ?_
          refine lv_istore_n (lv' := [(1, .int (1 : Int32)), (0, .ref (Z.2.2.1 0))]) hx hb d_MM_readsLiars_54 rfl hl (by decide) rfl (fun ls hl => ?_)
          refine lv_goto (tgt := 2) hx hb d_MM_readsLiars_55 (by decide) ?_
          exact hG1 _ (o_v hf1).symm _ _ _ hH (lv_sub hl [1, 0] rfl)
    refine lv_iload_n hx hb d_MM_readsLiars_2 rfl (lv_at hl 1 rfl) ?_
    refine lv_if_eq (tgt := 58) hx hb d_MM_readsLiars_3 (by decide) (fun hc => ?_) (fun hc => ?_)
    · replace hf1 := o_t hc hf1
      obtain rfl := hR1 _ (o_v hf1).symm
      obtain rfl := o_v hf0
      exact hQ _ _ _ _ hH d_MM_readsLiars_58
    · replace hf1 := o_f hc hf1
      refine lv_aload_n hx hb d_MM_readsLiars_6 rfl (lv_at hl 0 rfl) ?_
      obtain ⟨y8, M7, hc6, hf1⟩ := o_b2 hf1
      refine q_cVi (As := []) (rest := []) S hX hH (c_MM_party l hI hZ M hc6) (cw_MM_144 S.2.2.2.2 (Nat.le_trans (Nat.le_of_ble_eq_true rfl) hR.1) (Nat.le_trans (Nat.le_of_ble_eq_true rfl) hR.2)) (rc_MM hX hH hZ) rfl hl.1 rfl (Nat.le_of_ble_eq_true rfl) d_MM_readsLiars_7 ⟨Nat.zero_le _, Nat.zero_le _⟩ (fun H locs hH => ?_)
      refine lv_istore_n (lv' := [(2, .int y8), (0, .ref (Z.2.2.1 0)), (1, .int x1)]) hx hb d_MM_readsLiars_10 rfl hl (by decide) rfl (fun ls hl => ?_)
      refine lv_aload_n hx hb d_MM_readsLiars_11 rfl (lv_at hl 1 rfl) ?_
      refine g_MM_13 S hX hH hZ d_MM_readsLiars_12 ?_
      refine lv_bipush (v := (6 : Int32)) hx hb d_MM_readsLiars_15 (by decide) ?_
      refine lv_dup2_11 hx hb d_MM_readsLiars_17 rfl rfl ?_
      refine q_iald (j := 6) hx hb hX hH (aa_MM_2 hZ) (vp_c (by decide)) (by decide) d_MM_readsLiars_18 ?_
      refine lv_aload_n hx hb d_MM_readsLiars_19 rfl (lv_at hl 1 rfl) ?_
      refine q_cVi (As := []) (rest := [.int (M7 2 6), .int (6 : Int32), .ref (Z.2.2.1 2)]) S hX hH (c_MM_isRight l hI hZ M7 rfl) (cw_MM_97 S.2.2.2.2 (Nat.le_trans (Nat.le_of_ble_eq_true rfl) hR.1) (Nat.le_trans (Nat.le_of_ble_eq_true rfl) hR.2)) (rc_MM hX hH hZ) rfl hl.1 rfl (Nat.le_of_ble_eq_true rfl) d_MM_readsLiars_20 ⟨Nat.zero_le _, Nat.zero_le _⟩ (fun H locs hH => ?_)
      refine lv_if_eq (tgt := 32) hx hb d_MM_readsLiars_23 (by decide) (fun hc => ?_) (fun hc => ?_)
      · replace hf1 := o_t hc hf1
        refine lv_iconst (v := (0 : Int32)) hx hb d_MM_readsLiars_32 (by decide) ?_
        exact J33 _ _ _ _ _ _ _ hf1 hH (lv_sub hl [1] rfl)
      · replace hf1 := o_f hc hf1
        refine lv_iconst (v := (1 : Int32)) hx hb d_MM_readsLiars_26 (by decide) ?_
        refine lv_iload_n hx hb d_MM_readsLiars_27 rfl (lv_at hl 0 rfl) ?_
        refine lv_ishl hx hb d_MM_readsLiars_28 ?_
        refine lv_goto (tgt := 33) hx hb d_MM_readsLiars_29 (by decide) ?_
        exact J33 _ _ _ _ _ _ _ hf1 hH (lv_sub hl [1] rfl)
  refine lv_iconst (v := (1 : Int32)) hx hb d_MM_readsLiars_0 (by decide) ?_
  refine lv_istore_n (lv' := [(1, .int (1 : Int32)), (0, .ref (Z.2.2.1 0))]) hx hb d_MM_readsLiars_1 rfl hl (by decide) rfl (fun ls hl => ?_)
  exact J2 _ _ _ _ _ hf0 hH (lv_sub hl [1, 0] rfl)
theorem c_MM_readsLiars (l : Launch) {Z : WD} (hI : wI Z) (hZ : IsM Z) (M : Mem) {M' : Mem} (hf : f_MM_readsLiars M = some M') : Cv l Z y_MM_readsLiars b_MM_readsLiars 3 none 5 103 [.ref (Z.2.2.1 0)] M M' := by
  refine Met.ofW (cc := b_MM_readsLiars) (maxL := 3) (ret := none) (by decide) rfl ?_
  intro p e s m args below meth c s₁ B hml hv
  obtain ⟨rfl, hP, hX⟩ := hv
  have S : CallFix p m c b_MM_readsLiars 3 s ([.ref (Z.2.2.1 0)] : List Value).toArray gtb R_MM := ⟨B.exec, B.bytes, hml, findClass_of_methodNamed B.named, fun w hw => atoms_spec (ws := .code y_MM_readsLiars b_MM_readsLiars 3 none :: gtb) B.pre w (List.mem_cons_of_mem _ hw)⟩
  have hl := lv_entry ([.ref (Z.2.2.1 0)]) (n := 3) (Nat.le_of_ble_eq_true rfl)
  rw [lg_entry_eq]
  exact wk_MM_readsLiars hI hZ M S hX ⟨Nat.le_refl _, Nat.le_refl _⟩ (fun pc H locs ls hH d => q_rv S.1 S.2.1 B.returns B.notSynchronized hH rfl d) hf ⟨hP, va_S.rf⟩ hl
noncomputable def f_MM_readsWay (M : Mem) (x1 : Int32) : Option Mem := 
    bnd2 (f_MM_number M (1 : Int32) (8 : Int32)) (fun y3 M2 => 
    gIn x1 302 (lt1 (upM M2 2 x1.toNatClampNeg y3) (fun M5 => 
    bnd2 (f_MM_party M5) (fun y8 M7 => 
    gIn (x1 + (1 : Int32)) 302 (lt1 (upM M7 2 ((x1 + (1 : Int32)).toNatClampNeg) y8) (fun M10 => 
    bnd2 (f_MM_party M10) (fun y13 M12 => 
    gIn (x1 + (2 : Int32)) 302 (lt1 (upM M12 2 ((x1 + (2 : Int32)).toNatClampNeg) y13) (fun M15 => 
    if (bI (f_MM_isRight M15)) = 0 then some M15 else 
    if (M15 2 (x1 + (1 : Int32)).toNatClampNeg) = (M15 2 (x1 + (2 : Int32)).toNatClampNeg) then bnd (f_MM_fails M15 (2 : Int32) (M15 0 11)) (fun M17 => some M17) else some M15)))))))))
set_option maxHeartbeats 4000000 in
theorem wk_MM_readsWay {l : Launch} {Z : WD} (hI : wI Z) (hZ : IsM Z) (M : Mem) (x1 : Int32) {M' : Mem} {p : Program} {e : Env} {R : Room} {s : State} {m : MethodId} {args : Array Value} {below : List Frame} {meth : Method} {c : Code} {H : Heap} {locs : List Loc} {ls : Array Slot} {Q : State → Prop} (S : CallFix p m c b_MM_readsWay 2 s args gtb R_MM) (hX : wX Z s) (hR : 5 ≤ R.frames ∧ 103 ≤ R.locals) (hQ : ∀ (pc : Nat) (H : Heap) (locs : List Loc) (ls : Array Slot), HW Z M' s H locs → decode b_MM_readsWay pc = .ok (.return_, 1) → W p l e R s m args below meth c H locs 0 0 Q (F0 m pc ls [])) (hf0 : f_MM_readsWay M x1 = some M') (hH : HW Z M s H locs) (hl : lv_has ls 2 [(0, .ref (Z.2.2.1 0)), (1, .int x1)]) : W p l e R s m args below meth c H locs 0 0 Q (F0 m 0 ls []) := by
  have hx := S.1
  have hb := S.2.1
  have hown := S.2.2.2.1
  have ht := S.2.2.2.2
  unfold f_MM_readsWay at hf0
  refine lv_aload_n hx hb d_MM_readsWay_0 rfl (lv_at hl 0 rfl) ?_
  refine g_MM_13 S hX hH hZ d_MM_readsWay_1 ?_
  refine lv_iload_n hx hb d_MM_readsWay_4 rfl (lv_at hl 1 rfl) ?_
  refine lv_aload_n hx hb d_MM_readsWay_5 rfl (lv_at hl 0 rfl) ?_
  refine lv_iconst (v := (1 : Int32)) hx hb d_MM_readsWay_6 (by decide) ?_
  refine lv_bipush (v := (8 : Int32)) hx hb d_MM_readsWay_7 (by decide) ?_
  obtain ⟨y3, M2, hc1, hf0⟩ := o_b2 hf0
  refine q_cVi (As := [.int (1 : Int32), .int (8 : Int32)]) (rest := [.int x1, .ref (Z.2.2.1 2)]) S hX hH (c_MM_number l hI hZ M (1 : Int32) (8 : Int32) hc1) (cw_MM_141 S.2.2.2.2 (Nat.le_trans (Nat.le_of_ble_eq_true rfl) hR.1) (Nat.le_trans (Nat.le_of_ble_eq_true rfl) hR.2)) (rc_MM hX hH hZ) rfl hl.1 rfl (Nat.le_of_ble_eq_true rfl) d_MM_readsWay_9 ⟨Nat.zero_le _, Nat.zero_le _⟩ (fun H locs hH => ?_)
  obtain ⟨hn4, hf0⟩ := o_in hf0
  obtain ⟨M5, hM5, hf0⟩ := o_l hf0
  refine q_iast (j := x1.toNatClampNeg) hx hb hX hI hH (aa_MM_2 hZ) hn4 rfl d_MM_readsWay_12 (fun H locs hH => ?_)
  rw [hM5] at hH
  refine lv_aload_n hx hb d_MM_readsWay_13 rfl (lv_at hl 0 rfl) ?_
  refine g_MM_13 S hX hH hZ d_MM_readsWay_14 ?_
  refine lv_iload_n hx hb d_MM_readsWay_17 rfl (lv_at hl 1 rfl) ?_
  refine lv_iconst (v := (1 : Int32)) hx hb d_MM_readsWay_18 (by decide) ?_
  refine lv_iadd hx hb d_MM_readsWay_19 ?_
  refine lv_aload_n hx hb d_MM_readsWay_20 rfl (lv_at hl 0 rfl) ?_
  obtain ⟨y8, M7, hc6, hf0⟩ := o_b2 hf0
  refine q_cVi (As := []) (rest := [.int (x1 + (1 : Int32)), .ref (Z.2.2.1 2)]) S hX hH (c_MM_party l hI hZ M5 hc6) (cw_MM_144 S.2.2.2.2 (Nat.le_trans (Nat.le_of_ble_eq_true rfl) hR.1) (Nat.le_trans (Nat.le_of_ble_eq_true rfl) hR.2)) (rc_MM hX hH hZ) rfl hl.1 rfl (Nat.le_of_ble_eq_true rfl) d_MM_readsWay_21 ⟨Nat.zero_le _, Nat.zero_le _⟩ (fun H locs hH => ?_)
  obtain ⟨hn9, hf0⟩ := o_in hf0
  obtain ⟨M10, hM10, hf0⟩ := o_l hf0
  refine q_iast (j := (x1 + (1 : Int32)).toNatClampNeg) hx hb hX hI hH (aa_MM_2 hZ) hn9 rfl d_MM_readsWay_24 (fun H locs hH => ?_)
  rw [hM10] at hH
  refine lv_aload_n hx hb d_MM_readsWay_25 rfl (lv_at hl 0 rfl) ?_
  refine g_MM_13 S hX hH hZ d_MM_readsWay_26 ?_
  refine lv_iload_n hx hb d_MM_readsWay_29 rfl (lv_at hl 1 rfl) ?_
  refine lv_iconst (v := (2 : Int32)) hx hb d_MM_readsWay_30 (by decide) ?_
  refine lv_iadd hx hb d_MM_readsWay_31 ?_
  refine lv_aload_n hx hb d_MM_readsWay_32 rfl (lv_at hl 0 rfl) ?_
  obtain ⟨y13, M12, hc11, hf0⟩ := o_b2 hf0
  refine q_cVi (As := []) (rest := [.int (x1 + (2 : Int32)), .ref (Z.2.2.1 2)]) S hX hH (c_MM_party l hI hZ M10 hc11) (cw_MM_144 S.2.2.2.2 (Nat.le_trans (Nat.le_of_ble_eq_true rfl) hR.1) (Nat.le_trans (Nat.le_of_ble_eq_true rfl) hR.2)) (rc_MM hX hH hZ) rfl hl.1 rfl (Nat.le_of_ble_eq_true rfl) d_MM_readsWay_33 ⟨Nat.zero_le _, Nat.zero_le _⟩ (fun H locs hH => ?_)
  obtain ⟨hn14, hf0⟩ := o_in hf0
  obtain ⟨M15, hM15, hf0⟩ := o_l hf0
  refine q_iast (j := (x1 + (2 : Int32)).toNatClampNeg) hx hb hX hI hH (aa_MM_2 hZ) hn14 rfl d_MM_readsWay_36 (fun H locs hH => ?_)
  rw [hM15] at hH
  refine lv_aload_n hx hb d_MM_readsWay_37 rfl (lv_at hl 0 rfl) ?_
  refine q_cVi (As := []) (rest := []) S hX hH (c_MM_isRight l hI hZ M15 rfl) (cw_MM_97 S.2.2.2.2 (Nat.le_trans (Nat.le_of_ble_eq_true rfl) hR.1) (Nat.le_trans (Nat.le_of_ble_eq_true rfl) hR.2)) (rc_MM hX hH hZ) rfl hl.1 rfl (Nat.le_of_ble_eq_true rfl) d_MM_readsWay_38 ⟨Nat.zero_le _, Nat.zero_le _⟩ (fun H locs hH => ?_)
  refine lv_if_eq (tgt := 72) hx hb d_MM_readsWay_41 (by decide) (fun hc => ?_) (fun hc => ?_)
  · replace hf0 := o_t hc hf0
    obtain rfl := o_v hf0
    exact hQ _ _ _ _ hH d_MM_readsWay_72
  · replace hf0 := o_f hc hf0
    refine lv_aload_n hx hb d_MM_readsWay_44 rfl (lv_at hl 0 rfl) ?_
    refine g_MM_13 S hX hH hZ d_MM_readsWay_45 ?_
    refine lv_iload_n hx hb d_MM_readsWay_48 rfl (lv_at hl 1 rfl) ?_
    refine lv_iconst (v := (1 : Int32)) hx hb d_MM_readsWay_49 (by decide) ?_
    refine lv_iadd hx hb d_MM_readsWay_50 ?_
    refine q_iald (j := (x1 + (1 : Int32)).toNatClampNeg) hx hb hX hH (aa_MM_2 hZ) hn9 rfl d_MM_readsWay_51 ?_
    refine lv_aload_n hx hb d_MM_readsWay_52 rfl (lv_at hl 0 rfl) ?_
    refine g_MM_13 S hX hH hZ d_MM_readsWay_53 ?_
    refine lv_iload_n hx hb d_MM_readsWay_56 rfl (lv_at hl 1 rfl) ?_
    refine lv_iconst (v := (2 : Int32)) hx hb d_MM_readsWay_57 (by decide) ?_
    refine lv_iadd hx hb d_MM_readsWay_58 ?_
    refine q_iald (j := (x1 + (2 : Int32)).toNatClampNeg) hx hb hX hH (aa_MM_2 hZ) hn14 rfl d_MM_readsWay_59 ?_
    refine lv_icmp_ne (tgt := 72) hx hb d_MM_readsWay_60 (by decide) (fun hc => ?_) (fun hc => ?_)
    · replace hf0 := o_f hc hf0
      obtain rfl := o_v hf0
      exact hQ _ _ _ _ hH d_MM_readsWay_72
    · replace hf0 := o_t hc hf0
      refine lv_aload_n hx hb d_MM_readsWay_63 rfl (lv_at hl 0 rfl) ?_
      refine lv_iconst (v := (2 : Int32)) hx hb d_MM_readsWay_64 (by decide) ?_
      refine lv_aload_n hx hb d_MM_readsWay_65 rfl (lv_at hl 0 rfl) ?_
      refine g_MM_132 S hX hH hZ d_MM_readsWay_66 ?_
      obtain ⟨M17, hc16, hf0⟩ := o_b hf0
      refine q_cVv (As := [.int (2 : Int32), .int (M15 0 11)]) (rest := []) S hX hH (c_MM_fails l hI hZ M15 (2 : Int32) (M15 0 11) hc16) (cw_MM_128 S.2.2.2.2 (Nat.le_trans (Nat.le_of_ble_eq_true rfl) hR.1) (Nat.le_trans (Nat.le_of_ble_eq_true rfl) hR.2)) (rc_MM hX hH hZ) rfl hl.1 rfl (Nat.le_of_ble_eq_true rfl) d_MM_readsWay_69 ⟨Nat.zero_le _, Nat.zero_le _⟩ (fun H locs hH => ?_)
      obtain rfl := o_v hf0
      exact hQ _ _ _ _ hH d_MM_readsWay_72
theorem c_MM_readsWay (l : Launch) {Z : WD} (hI : wI Z) (hZ : IsM Z) (M : Mem) (x1 : Int32) {M' : Mem} (hf : f_MM_readsWay M x1 = some M') : Cv l Z y_MM_readsWay b_MM_readsWay 2 none 5 103 [.ref (Z.2.2.1 0), .int x1] M M' := by
  refine Met.ofW (cc := b_MM_readsWay) (maxL := 2) (ret := none) (by decide) rfl ?_
  intro p e s m args below meth c s₁ B hml hv
  obtain ⟨rfl, hP, hX⟩ := hv
  have S : CallFix p m c b_MM_readsWay 2 s ([.ref (Z.2.2.1 0), .int x1] : List Value).toArray gtb R_MM := ⟨B.exec, B.bytes, hml, findClass_of_methodNamed B.named, fun w hw => atoms_spec (ws := .code y_MM_readsWay b_MM_readsWay 2 none :: gtb) B.pre w (List.mem_cons_of_mem _ hw)⟩
  have hl := lv_entry ([.ref (Z.2.2.1 0), .int x1]) (n := 2) (Nat.le_of_ble_eq_true rfl)
  rw [lg_entry_eq]
  exact wk_MM_readsWay hI hZ M x1 S hX ⟨Nat.le_refl _, Nat.le_refl _⟩ (fun pc H locs ls hH d => q_rv S.1 S.2.1 B.returns B.notSynchronized hH rfl d) hf ⟨hP, va_S.rf⟩ hl
noncomputable def f_MM_truth (x0 : Int32) : Int32 := if x0 = 0 then (0 : Int32) else (1 : Int32)
set_option maxHeartbeats 4000000 in
theorem wk_MM_truth {l : Launch} {Z : WD} (hI : wI Z) (M : Mem) (x0 : Int32) {r : Int32} {p : Program} {e : Env} {R : Room} {s : State} {m : MethodId} {args : Array Value} {below : List Frame} {meth : Method} {c : Code} {H : Heap} {locs : List Loc} {ls : Array Slot} {Q : State → Prop} (S : CallFix p m c b_MM_truth 1 s args gtb R_MM) (hX : wX Z s) (hR : 0 ≤ R.frames ∧ 0 ≤ R.locals) (hQ : ∀ (pc : Nat) (H : Heap) (locs : List Loc) (ls : Array Slot), HW Z M s H locs → decode b_MM_truth pc = .ok (.ireturn, 1) → W p l e R s m args below meth c H locs 0 0 Q (F0 m pc ls [.int r])) (hf0 : f_MM_truth x0 = r) (hH : HW Z M s H locs) (hl : lv_has ls 1 [(0, .int x0)]) : W p l e R s m args below meth c H locs 0 0 Q (F0 m 0 ls []) := by
  have hx := S.1
  have hb := S.2.1
  have hown := S.2.2.2.1
  have ht := S.2.2.2.2
  unfold f_MM_truth at hf0
  refine lv_iload_n hx hb d_MM_truth_0 rfl (lv_at hl 0 rfl) ?_
  refine lv_if_eq (tgt := 8) hx hb d_MM_truth_1 (by decide) (fun hc => ?_) (fun hc => ?_)
  · replace hf0 := o_t hc hf0
    refine lv_iconst (v := (0 : Int32)) hx hb d_MM_truth_8 (by decide) ?_
    subst hf0
    exact hQ _ _ _ _ hH d_MM_truth_9
  · replace hf0 := o_f hc hf0
    refine lv_iconst (v := (1 : Int32)) hx hb d_MM_truth_4 (by decide) ?_
    refine lv_goto (tgt := 9) hx hb d_MM_truth_5 (by decide) ?_
    subst hf0
    exact hQ _ _ _ _ hH d_MM_truth_9
theorem c_MM_truth (l : Launch) {Z : WD} (hI : wI Z) (M : Mem) (x0 : Int32) {r : Int32} (hf : f_MM_truth x0 = r) : Ci l Z y_MM_truth b_MM_truth 1 (some .int) 0 0 [.int x0] M M r := by
  refine Met.ofW (cc := b_MM_truth) (maxL := 1) (ret := (some .int)) (by decide) rfl ?_
  intro p e s m args below meth c s₁ B hml hv
  obtain ⟨rfl, hP, hX⟩ := hv
  have S : CallFix p m c b_MM_truth 1 s ([.int x0] : List Value).toArray gtb R_MM := ⟨B.exec, B.bytes, hml, findClass_of_methodNamed B.named, fun w hw => atoms_spec (ws := .code y_MM_truth b_MM_truth 1 (some .int) :: gtb) B.pre w (List.mem_cons_of_mem _ hw)⟩
  have hl := lv_entry ([.int x0]) (n := 1) (Nat.le_of_ble_eq_true rfl)
  rw [lg_entry_eq]
  exact wk_MM_truth hI M x0 S hX ⟨Nat.le_refl _, Nat.le_refl _⟩ (fun pc H locs ls hH d => q_ri S.1 S.2.1 B.returns B.notSynchronized hH rfl rfl d) hf ⟨hP, va_S.rf⟩ hl
theorem cw_MM_150 {R : Room} {s : State} {args : Array Value} (ht : ∀ w ∈ gtb, w.before args s = true) (h1 : 0 + 1 ≤ R.frames) (h2 : 8 + (1 + 11) + 0 ≤ R.locals) : CallB R s args R_MM 150 y_MM_truth b_MM_truth 1 (some .int) (.code y_MM_truth b_MM_truth 1 (some .int) :: gtb) { frames := 0, cells := 0, slots := 0, locals := 0 } 0 0 1 ∧ (Cond.static y_MM_truth).before args s = true := va_cwS 1 ht (gS w5_133 w5_134 w1_10 w5_135) rfl rfl rfl ⟨by decide, by decide, by decide +kernel⟩ ⟨h1, h2⟩
theorem cw_MM_147 {R : Room} {s : State} {args : Array Value} (ht : ∀ w ∈ gtb, w.before args s = true) (h1 : 5 + 1 ≤ R.frames) (h2 : 8 + (2 + 11) + 103 ≤ R.locals) : CallW R s args R_MM R_MM 147 y_MM_readsWay b_MM_readsWay 2 none (.code y_MM_readsWay b_MM_readsWay 2 none :: gtb) { frames := 5, cells := 0, slots := 0, locals := 103 } 0 0 1 := cwV 1 ht (gV w5_129 w5_131 ws_MM_readsWay w1_10 w5_132) rfl rfl rfl ⟨rfl, by decide, by decide, by decide +kernel⟩ ⟨h1, h2⟩
noncomputable def f_MM_readsLetter_J224 (M : Mem) (x2 : Int32) : Option ((Int32 × Mem) ⊕ Mem) := some (.inl ((0 : Int32), M))
noncomputable def f_MM_readsLetter_J206 (M : Mem) (x2 : Int32) : Option ((Int32 × Mem) ⊕ Mem) := if (bI (f_MM_isRight M)) = 0 then f_MM_readsLetter_J224 M x2 else 
    bnd2 (f_MM_isDigit M) (fun y3 M2 => if (bI y3) = 0 then f_MM_readsLetter_J224 M2 x2 else some (.inl ((1 : Int32), M2)))
noncomputable def f_MM_readsLetter_J168 (M : Mem) (x2 : Int32) (x4 : Int32) : Option ((Int32 × Mem) ⊕ Mem) := if (bI (f_MM_isRight M)) = 0 then f_MM_readsLetter_J206 M x2 else 
    gIn (x2 + (4 : Int32)) 302 (gIn ((x2 + (5 : Int32)) + (M 2 (x2 + (4 : Int32)).toNatClampNeg)) 302 (lt1 (upM M 2 (((x2 + (5 : Int32)) + (M 2 (x2 + (4 : Int32)).toNatClampNeg)).toNatClampNeg) x4) (fun M6 => 
    lt1 (upM M6 2 ((x2 + (4 : Int32)).toNatClampNeg) ((M6 2 (x2 + (4 : Int32)).toNatClampNeg) + (1 : Int32))) (fun M7 => f_MM_readsLetter_J206 M7 x2))))
noncomputable def f_MM_readsLetter_L117 (x2 : Int32) (x4 : Int32) (x5 : Int32) (M : Mem) : Option ((Int32 × Mem) ⊕ Mem) := gIn (x2 + (4 : Int32)) 302 (if (M 2 (x2 + (4 : Int32)).toNatClampNeg) ≤ x5 then some (.inr M) else 
    if (bI (f_MM_isRight M)) = 0 then some (.inr M) else 
    gIn ((x2 + (5 : Int32)) + x5) 302 (if (M 2 ((x2 + (5 : Int32)) + x5).toNatClampNeg) = x4 then bnd (f_MM_fails M (2 : Int32) (M 0 11)) (fun M11 => some (.inl (x5 + (1 : Int32), M11))) else some (.inl (x5 + (1 : Int32), M))))
noncomputable def f_MM_readsLetter_W117 (x2 : Int32) (x4 : Int32) (u : (Int32 × Mem)) : Option Mem := loop (fun t => f_MM_readsLetter_L117 x2 x4 t.1 t.2) u
noncomputable def f_MM_readsLetter_J117 (M : Mem) (x2 : Int32) (x4 : Int32) (x5 : Int32) : Option ((Int32 × Mem) ⊕ Mem) := bnd (f_MM_readsLetter_W117 x2 x4 (x5, M)) (fun e117 => f_MM_readsLetter_J168 e117 x2 x4)
noncomputable def f_MM_readsLetter_L104 (x2 : Int32) (x3 : Int32) (M : Mem) : Option ((Int32 × Mem) ⊕ Mem) := if x3 = 0 then lt1 (upM M 2 7 ((M 2 7) + (1 : Int32))) (fun M12 => some (.inr M12)) else bnd2 (f_MM_party M) (fun y15 M14 => f_MM_readsLetter_J117 M14 x2 y15 (0 : Int32))
noncomputable def f_MM_readsLetter_W104 (x2 : Int32) (u : (Int32 × Mem)) : Option Mem := loop (fun t => f_MM_readsLetter_L104 x2 t.1 t.2) u
noncomputable def f_MM_readsLetter_J104 (M : Mem) (x2 : Int32) (x3 : Int32) : Option (Mem) := bnd (f_MM_readsLetter_W104 x2 (x3, M)) (fun e104 => some e104)
noncomputable def f_MM_readsLetter_J77 (M : Mem) (x2 : Int32) : Option (Mem) := lt1 (upM M 0 9 ((M 0 9) + (f_MM_truth (bI (f_MM_isRight M))))) (fun M16 => 
    gIn (x2 + (4 : Int32)) 302 (lt1 (upM M16 2 ((x2 + (4 : Int32)).toNatClampNeg) (0 : Int32)) (fun M18 => f_MM_readsLetter_J104 M18 x2 (1 : Int32))))
noncomputable def f_MM_readsLetter (M : Mem) (x1 : Int32) : Option Mem := 
    if (M 2 7) = (16 : Int32) then bnd (f_MM_fails M (3 : Int32) x1) (fun M32 => some M32) else 
    bnd (f_MM_readsWay M ((10 : Int32) + ((13 : Int32) * (M 2 7)))) (fun M20 => 
    bnd2 (f_MM_number M20 (0 : Int32) (3 : Int32)) (fun y23 M22 => 
    gIn (((10 : Int32) + ((13 : Int32) * (M 2 7))) + (3 : Int32)) 302 (lt1 (upM M22 2 ((((10 : Int32) + ((13 : Int32) * (M 2 7))) + (3 : Int32)).toNatClampNeg) y23) (fun M25 => 
    if (bI (f_MM_isRight M25)) = 0 then f_MM_readsLetter_J77 M25 ((10 : Int32) + ((13 : Int32) * (M 2 7))) else 
    bnd2 (f_MM_next M25) (fun y28 M27 => 
    if y28 = (58 : Int32) then f_MM_readsLetter_J77 M27 ((10 : Int32) + ((13 : Int32) * (M 2 7))) else 
    bnd (f_MM_fails M27 (1 : Int32) (M27 0 9)) (fun M30 => f_MM_readsLetter_J77 M30 ((10 : Int32) + ((13 : Int32) * (M 2 7)))))))))
set_option maxHeartbeats 4000000 in
theorem wk_MM_readsLetter {l : Launch} {Z : WD} (hI : wI Z) (hZ : IsM Z) (M : Mem) (x1 : Int32) {M' : Mem} {p : Program} {e : Env} {R : Room} {s : State} {m : MethodId} {args : Array Value} {below : List Frame} {meth : Method} {c : Code} {H : Heap} {locs : List Loc} {ls : Array Slot} {Q : State → Prop} (S : CallFix p m c b_MM_readsLetter 6 s args gtb R_MM) (hX : wX Z s) (hR : 6 ≤ R.frames ∧ 124 ≤ R.locals) (hQ : ∀ (pc : Nat) (H : Heap) (locs : List Loc) (ls : Array Slot), HW Z M' s H locs → decode b_MM_readsLetter pc = .ok (.return_, 1) → W p l e R s m args below meth c H locs 0 0 Q (F0 m pc ls [])) (hf0 : f_MM_readsLetter M x1 = some M') (hH : HW Z M s H locs) (hl : lv_has ls 6 [(0, .ref (Z.2.2.1 0)), (1, .int x1)]) : W p l e R s m args below meth c H locs 0 0 Q (F0 m 0 ls []) := by
  have hx := S.1
  have hb := S.2.1
  have hown := S.2.2.2.1
  have ht := S.2.2.2.2
  unfold f_MM_readsLetter at hf0
  have J104 : ∀ (M : Mem) (x2 : Int32) (x3 : Int32) (H : Heap) (locs : List Loc) (ls : Array Slot), f_MM_readsLetter_J104 M x2 x3 = some M' → HW Z M s H locs → lv_has ls 6 [(0, .ref (Z.2.2.1 0)), (2, .int x2), (3, .int x3)] → W p l e R s m args below meth c H locs 0 0 Q (F0 m 104 ls []) := by
    intro M x2 x3 H locs ls hf0 hH hl
    unfold f_MM_readsLetter_J104 at hf0
    obtain ⟨e104, he104, hf0⟩ := o_b hf0
    unfold f_MM_readsLetter_W104 at he104
    refine loop_W (fun t => ∀ (H : Heap) (locs : List Loc) (ls : Array Slot), HW Z t.2 s H locs → lv_has ls 6 [(0, .ref (Z.2.2.1 0)), (2, .int x2), (3, .int t.1)] → W p l e R s m args below meth c H locs 0 0 Q (F0 m 104 ls [])) ?_ he104 H locs ls hH hl
    rintro ⟨x3, M⟩ o1 hf1 hG1 hR1 H locs ls hH hl
    replace hH : HW Z M s H locs := hH
    replace hl : lv_has ls 6 [(0, .ref (Z.2.2.1 0)), (2, .int x2), (3, .int x3)] := hl
    replace hf1 : f_MM_readsLetter_L104 x2 x3 M = some o1 := hf1
    unfold f_MM_readsLetter_L104 at hf1
    have J224 : ∀ (M : Mem) (H : Heap) (locs : List Loc) (ls : Array Slot), f_MM_readsLetter_J224 M x2 = some o1 → HW Z M s H locs → lv_has ls 6 [(0, .ref (Z.2.2.1 0)), (2, .int x2)] → W p l e R s m args below meth c H locs 0 0 Q (F0 m 224 ls []) := by
      intro M H locs ls hf1 hH hl
      unfold f_MM_readsLetter_J224 at hf1
      refine lv_iconst (v := (0 : Int32)) hx hb d_MM_readsLetter_224 (by decide) ?_
      refine lv_istore_n (lv' := [(3, .int (0 : Int32)), (0, .ref (Z.2.2.1 0)), (2, .int x2)]) hx hb d_MM_readsLetter_225 rfl hl (by decide) rfl (fun ls hl => ?_)
      refine lv_goto (tgt := 104) hx hb d_MM_readsLetter_226 (by decide) ?_
      exact hG1 _ (o_v hf1).symm _ _ _ hH (lv_sub hl [1, 2, 0] rfl)
    have J206 : ∀ (M : Mem) (H : Heap) (locs : List Loc) (ls : Array Slot), f_MM_readsLetter_J206 M x2 = some o1 → HW Z M s H locs → lv_has ls 6 [(0, .ref (Z.2.2.1 0)), (2, .int x2)] → W p l e R s m args below meth c H locs 0 0 Q (F0 m 206 ls []) := by
      intro M H locs ls hf1 hH hl
      unfold f_MM_readsLetter_J206 at hf1
      refine lv_aload_n hx hb d_MM_readsLetter_206 rfl (lv_at hl 0 rfl) ?_
      refine q_cVi (As := []) (rest := []) S hX hH (c_MM_isRight l hI hZ M rfl) (cw_MM_97 S.2.2.2.2 (Nat.le_trans (Nat.le_of_ble_eq_true rfl) hR.1) (Nat.le_trans (Nat.le_of_ble_eq_true rfl) hR.2)) (rc_MM hX hH hZ) rfl hl.1 rfl (Nat.le_of_ble_eq_true rfl) d_MM_readsLetter_207 ⟨Nat.zero_le _, Nat.zero_le _⟩ (fun H locs hH => ?_)
      refine lv_if_eq (tgt := 224) hx hb d_MM_readsLetter_210 (by decide) (fun hc => ?_) (fun hc => ?_)
      · replace hf1 := o_t hc hf1
        exact J224 _ _ _ _ hf1 hH (lv_sub hl [0, 1] rfl)
      · replace hf1 := o_f hc hf1
        refine lv_aload_n hx hb d_MM_readsLetter_213 rfl (lv_at hl 0 rfl) ?_
        obtain ⟨y3, M2, hc1, hf1⟩ := o_b2 hf1
        refine q_cVi (As := []) (rest := []) S hX hH (c_MM_isDigit l hI hZ M hc1) (cw_MM_125 S.2.2.2.2 (Nat.le_trans (Nat.le_of_ble_eq_true rfl) hR.1) (Nat.le_trans (Nat.le_of_ble_eq_true rfl) hR.2)) (rc_MM hX hH hZ) rfl hl.1 rfl (Nat.le_of_ble_eq_true rfl) d_MM_readsLetter_214 ⟨Nat.zero_le _, Nat.zero_le _⟩ (fun H locs hH => ?_)
        refine lv_if_eq (tgt := 224) hx hb d_MM_readsLetter_217 (by decide) (fun hc => ?_) (fun hc => ?_)
        · replace hf1 := o_t hc hf1
          exact J224 _ _ _ _ hf1 hH (lv_sub hl [0, 1] rfl)
        · replace hf1 := o_f hc hf1
          refine lv_iconst (v := (1 : Int32)) hx hb d_MM_readsLetter_220 (by decide) ?_
          refine lv_goto (tgt := 225) hx hb d_MM_readsLetter_221 (by decide) ?_
          refine lv_istore_n (lv' := [(3, .int (1 : Int32)), (0, .ref (Z.2.2.1 0)), (2, .int x2)]) hx hb d_MM_readsLetter_225 rfl hl (by decide) rfl (fun ls hl => ?_)
          refine lv_goto (tgt := 104) hx hb d_MM_readsLetter_226 (by decide) ?_
          exact hG1 _ (o_v hf1).symm _ _ _ hH (lv_sub hl [1, 2, 0] rfl)
    have J168 : ∀ (M : Mem) (x4 : Int32) (H : Heap) (locs : List Loc) (ls : Array Slot), f_MM_readsLetter_J168 M x2 x4 = some o1 → HW Z M s H locs → lv_has ls 6 [(0, .ref (Z.2.2.1 0)), (2, .int x2), (4, .int x4)] → W p l e R s m args below meth c H locs 0 0 Q (F0 m 168 ls []) := by
      intro M x4 H locs ls hf1 hH hl
      unfold f_MM_readsLetter_J168 at hf1
      refine lv_aload_n hx hb d_MM_readsLetter_168 rfl (lv_at hl 0 rfl) ?_
      refine q_cVi (As := []) (rest := []) S hX hH (c_MM_isRight l hI hZ M rfl) (cw_MM_97 S.2.2.2.2 (Nat.le_trans (Nat.le_of_ble_eq_true rfl) hR.1) (Nat.le_trans (Nat.le_of_ble_eq_true rfl) hR.2)) (rc_MM hX hH hZ) rfl hl.1 rfl (Nat.le_of_ble_eq_true rfl) d_MM_readsLetter_169 ⟨Nat.zero_le _, Nat.zero_le _⟩ (fun H locs hH => ?_)
      refine lv_if_eq (tgt := 206) hx hb d_MM_readsLetter_172 (by decide) (fun hc => ?_) (fun hc => ?_)
      · replace hf1 := o_t hc hf1
        exact J206 _ _ _ _ hf1 hH (lv_sub hl [0, 1] rfl)
      · replace hf1 := o_f hc hf1
        refine lv_aload_n hx hb d_MM_readsLetter_175 rfl (lv_at hl 0 rfl) ?_
        refine g_MM_13 S hX hH hZ d_MM_readsLetter_176 ?_
        refine lv_iload_n hx hb d_MM_readsLetter_179 rfl (lv_at hl 1 rfl) ?_
        refine lv_iconst (v := (5 : Int32)) hx hb d_MM_readsLetter_180 (by decide) ?_
        refine lv_iadd hx hb d_MM_readsLetter_181 ?_
        refine lv_aload_n hx hb d_MM_readsLetter_182 rfl (lv_at hl 0 rfl) ?_
        refine g_MM_13 S hX hH hZ d_MM_readsLetter_183 ?_
        refine lv_iload_n hx hb d_MM_readsLetter_186 rfl (lv_at hl 1 rfl) ?_
        refine lv_iconst (v := (4 : Int32)) hx hb d_MM_readsLetter_187 (by decide) ?_
        refine lv_iadd hx hb d_MM_readsLetter_188 ?_
        obtain ⟨hn4, hf1⟩ := o_in hf1
        refine q_iald (j := (x2 + (4 : Int32)).toNatClampNeg) hx hb hX hH (aa_MM_2 hZ) hn4 rfl d_MM_readsLetter_189 ?_
        refine lv_iadd hx hb d_MM_readsLetter_190 ?_
        refine lv_iload hx hb d_MM_readsLetter_191 (lv_at hl 2 rfl) ?_
        obtain ⟨hn5, hf1⟩ := o_in hf1
        obtain ⟨M6, hM6, hf1⟩ := o_l hf1
        refine q_iast (j := ((x2 + (5 : Int32)) + (M 2 (x2 + (4 : Int32)).toNatClampNeg)).toNatClampNeg) hx hb hX hI hH (aa_MM_2 hZ) hn5 rfl d_MM_readsLetter_193 (fun H locs hH => ?_)
        rw [hM6] at hH
        refine lv_aload_n hx hb d_MM_readsLetter_194 rfl (lv_at hl 0 rfl) ?_
        refine g_MM_13 S hX hH hZ d_MM_readsLetter_195 ?_
        refine lv_iload_n hx hb d_MM_readsLetter_198 rfl (lv_at hl 1 rfl) ?_
        refine lv_iconst (v := (4 : Int32)) hx hb d_MM_readsLetter_199 (by decide) ?_
        refine lv_iadd hx hb d_MM_readsLetter_200 ?_
        refine lv_dup2_11 hx hb d_MM_readsLetter_201 rfl rfl ?_
        refine q_iald (j := (x2 + (4 : Int32)).toNatClampNeg) hx hb hX hH (aa_MM_2 hZ) hn4 rfl d_MM_readsLetter_202 ?_
        refine lv_iconst (v := (1 : Int32)) hx hb d_MM_readsLetter_203 (by decide) ?_
        refine lv_iadd hx hb d_MM_readsLetter_204 ?_
        obtain ⟨M7, hM7, hf1⟩ := o_l hf1
        refine q_iast (j := (x2 + (4 : Int32)).toNatClampNeg) hx hb hX hI hH (aa_MM_2 hZ) hn4 rfl d_MM_readsLetter_205 (fun H locs hH => ?_)
        rw [hM7] at hH
        exact J206 _ _ _ _ hf1 hH (lv_sub hl [0, 1] rfl)
    have J117 : ∀ (M : Mem) (x4 : Int32) (x5 : Int32) (H : Heap) (locs : List Loc) (ls : Array Slot), f_MM_readsLetter_J117 M x2 x4 x5 = some o1 → HW Z M s H locs → lv_has ls 6 [(0, .ref (Z.2.2.1 0)), (2, .int x2), (4, .int x4), (5, .int x5)] → W p l e R s m args below meth c H locs 0 0 Q (F0 m 117 ls []) := by
      intro M x4 x5 H locs ls hf1 hH hl
      unfold f_MM_readsLetter_J117 at hf1
      obtain ⟨e117, he117, hf1⟩ := o_b hf1
      have KX117 : ∀ (H : Heap) (locs : List Loc) (ls : Array Slot), HW Z e117 s H locs → lv_has ls 6 [(0, .ref (Z.2.2.1 0)), (2, .int x2), (4, .int x4)] → W p l e R s m args below meth c H locs 0 0 Q (F0 m 168 ls []) := by
        intro H locs ls hH hl
        exact J168 _ _ _ _ _ hf1 hH (lv_sub hl [0, 1, 2] rfl)
      unfold f_MM_readsLetter_W117 at he117
      refine loop_W (fun t => ∀ (H : Heap) (locs : List Loc) (ls : Array Slot), HW Z t.2 s H locs → lv_has ls 6 [(0, .ref (Z.2.2.1 0)), (2, .int x2), (4, .int x4), (5, .int t.1)] → W p l e R s m args below meth c H locs 0 0 Q (F0 m 117 ls [])) ?_ he117 H locs ls hH hl
      rintro ⟨x5, M⟩ o2 hf2 hG2 hR2 H locs ls hH hl
      replace hH : HW Z M s H locs := hH
      replace hl : lv_has ls 6 [(0, .ref (Z.2.2.1 0)), (2, .int x2), (4, .int x4), (5, .int x5)] := hl
      replace hf2 : f_MM_readsLetter_L117 x2 x4 x5 M = some o2 := hf2
      unfold f_MM_readsLetter_L117 at hf2
      refine lv_iload hx hb d_MM_readsLetter_117 (lv_at hl 3 rfl) ?_
      refine lv_aload_n hx hb d_MM_readsLetter_119 rfl (lv_at hl 0 rfl) ?_
      refine g_MM_13 S hX hH hZ d_MM_readsLetter_120 ?_
      refine lv_iload_n hx hb d_MM_readsLetter_123 rfl (lv_at hl 1 rfl) ?_
      refine lv_iconst (v := (4 : Int32)) hx hb d_MM_readsLetter_124 (by decide) ?_
      refine lv_iadd hx hb d_MM_readsLetter_125 ?_
      obtain ⟨hn8, hf2⟩ := o_in hf2
      refine q_iald (j := (x2 + (4 : Int32)).toNatClampNeg) hx hb hX hH (aa_MM_2 hZ) hn8 rfl d_MM_readsLetter_126 ?_
      refine lv_icmp_ge (tgt := 168) hx hb d_MM_readsLetter_127 (by decide) (fun hc => ?_) (fun hc => ?_)
      · replace hf2 := o_t hc hf2
        obtain rfl := hR2 _ (o_v hf2).symm
        exact KX117 _ _ _ hH (lv_sub hl [0, 1, 2] rfl)
      · replace hf2 := o_f hc hf2
        refine lv_aload_n hx hb d_MM_readsLetter_130 rfl (lv_at hl 0 rfl) ?_
        refine q_cVi (As := []) (rest := []) S hX hH (c_MM_isRight l hI hZ M rfl) (cw_MM_97 S.2.2.2.2 (Nat.le_trans (Nat.le_of_ble_eq_true rfl) hR.1) (Nat.le_trans (Nat.le_of_ble_eq_true rfl) hR.2)) (rc_MM hX hH hZ) rfl hl.1 rfl (Nat.le_of_ble_eq_true rfl) d_MM_readsLetter_131 ⟨Nat.zero_le _, Nat.zero_le _⟩ (fun H locs hH => ?_)
        refine lv_if_eq (tgt := 168) hx hb d_MM_readsLetter_134 (by decide) (fun hc => ?_) (fun hc => ?_)
        · replace hf2 := o_t hc hf2
          obtain rfl := hR2 _ (o_v hf2).symm
          exact KX117 _ _ _ hH (lv_sub hl [0, 1, 2] rfl)
        · replace hf2 := o_f hc hf2
          refine lv_aload_n hx hb d_MM_readsLetter_137 rfl (lv_at hl 0 rfl) ?_
          refine g_MM_13 S hX hH hZ d_MM_readsLetter_138 ?_
          refine lv_iload_n hx hb d_MM_readsLetter_141 rfl (lv_at hl 1 rfl) ?_
          refine lv_iconst (v := (5 : Int32)) hx hb d_MM_readsLetter_142 (by decide) ?_
          refine lv_iadd hx hb d_MM_readsLetter_143 ?_
          refine lv_iload hx hb d_MM_readsLetter_144 (lv_at hl 3 rfl) ?_
          refine lv_iadd hx hb d_MM_readsLetter_146 ?_
          obtain ⟨hn9, hf2⟩ := o_in hf2
          refine q_iald (j := ((x2 + (5 : Int32)) + x5).toNatClampNeg) hx hb hX hH (aa_MM_2 hZ) hn9 rfl d_MM_readsLetter_147 ?_
          refine lv_iload hx hb d_MM_readsLetter_148 (lv_at hl 2 rfl) ?_
          refine lv_icmp_ne (tgt := 162) hx hb d_MM_readsLetter_150 (by decide) (fun hc => ?_) (fun hc => ?_)
          · replace hf2 := o_f hc hf2
            refine lv_iinc (v := x5 + (1 : Int32)) (lv' := [(5, .int (x5 + (1 : Int32))), (0, .ref (Z.2.2.1 0)), (2, .int x2), (4, .int x4)]) hx hb d_MM_readsLetter_162 hl (k := 3) rfl rfl (by decide) rfl (fun ls hl => ?_)
            refine lv_goto (tgt := 117) hx hb d_MM_readsLetter_165 (by decide) ?_
            exact hG2 _ (o_v hf2).symm _ _ _ hH (lv_sub hl [1, 2, 3, 0] rfl)
          · replace hf2 := o_t hc hf2
            refine lv_aload_n hx hb d_MM_readsLetter_153 rfl (lv_at hl 0 rfl) ?_
            refine lv_iconst (v := (2 : Int32)) hx hb d_MM_readsLetter_154 (by decide) ?_
            refine lv_aload_n hx hb d_MM_readsLetter_155 rfl (lv_at hl 0 rfl) ?_
            refine g_MM_132 S hX hH hZ d_MM_readsLetter_156 ?_
            obtain ⟨M11, hc10, hf2⟩ := o_b hf2
            refine q_cVv (As := [.int (2 : Int32), .int (M 0 11)]) (rest := []) S hX hH (c_MM_fails l hI hZ M (2 : Int32) (M 0 11) hc10) (cw_MM_128 S.2.2.2.2 (Nat.le_trans (Nat.le_of_ble_eq_true rfl) hR.1) (Nat.le_trans (Nat.le_of_ble_eq_true rfl) hR.2)) (rc_MM hX hH hZ) rfl hl.1 rfl (Nat.le_of_ble_eq_true rfl) d_MM_readsLetter_159 ⟨Nat.zero_le _, Nat.zero_le _⟩ (fun H locs hH => ?_)
            refine lv_iinc (v := x5 + (1 : Int32)) (lv' := [(5, .int (x5 + (1 : Int32))), (0, .ref (Z.2.2.1 0)), (2, .int x2), (4, .int x4)]) hx hb d_MM_readsLetter_162 hl (k := 3) rfl rfl (by decide) rfl (fun ls hl => ?_)
            refine lv_goto (tgt := 117) hx hb d_MM_readsLetter_165 (by decide) ?_
            exact hG2 _ (o_v hf2).symm _ _ _ hH (lv_sub hl [1, 2, 3, 0] rfl)
    refine lv_iload_n hx hb d_MM_readsLetter_104 rfl (lv_at hl 2 rfl) ?_
    refine lv_if_eq (tgt := 229) hx hb d_MM_readsLetter_105 (by decide) (fun hc => ?_) (fun hc => ?_)
    · replace hf1 := o_t hc hf1
      refine lv_aload_n hx hb d_MM_readsLetter_229 rfl (lv_at hl 0 rfl) ?_
      refine g_MM_13 S hX hH hZ d_MM_readsLetter_230 ?_
      refine lv_bipush (v := (7 : Int32)) hx hb d_MM_readsLetter_233 (by decide) ?_
      refine lv_dup2_11 hx hb d_MM_readsLetter_235 rfl rfl ?_
      refine q_iald (j := 7) hx hb hX hH (aa_MM_2 hZ) (vp_c (by decide)) (by decide) d_MM_readsLetter_236 ?_
      refine lv_iconst (v := (1 : Int32)) hx hb d_MM_readsLetter_237 (by decide) ?_
      refine lv_iadd hx hb d_MM_readsLetter_238 ?_
      obtain ⟨M12, hM12, hf1⟩ := o_l hf1
      refine q_iast (j := 7) hx hb hX hI hH (aa_MM_2 hZ) (vp_c (by decide)) (by decide) d_MM_readsLetter_239 (fun H locs hH => ?_)
      rw [hM12] at hH
      obtain rfl := hR1 _ (o_v hf1).symm
      obtain rfl := o_v hf0
      exact hQ _ _ _ _ hH d_MM_readsLetter_240
    · replace hf1 := o_f hc hf1
      refine lv_aload_n hx hb d_MM_readsLetter_108 rfl (lv_at hl 0 rfl) ?_
      obtain ⟨y15, M14, hc13, hf1⟩ := o_b2 hf1
      refine q_cVi (As := []) (rest := []) S hX hH (c_MM_party l hI hZ M hc13) (cw_MM_144 S.2.2.2.2 (Nat.le_trans (Nat.le_of_ble_eq_true rfl) hR.1) (Nat.le_trans (Nat.le_of_ble_eq_true rfl) hR.2)) (rc_MM hX hH hZ) rfl hl.1 rfl (Nat.le_of_ble_eq_true rfl) d_MM_readsLetter_109 ⟨Nat.zero_le _, Nat.zero_le _⟩ (fun H locs hH => ?_)
      refine lv_istore (lv' := [(4, .int y15), (0, .ref (Z.2.2.1 0)), (2, .int x2), (3, .int x3)]) hx hb d_MM_readsLetter_112 hl (by decide) rfl (fun ls hl => ?_)
      refine lv_iconst (v := (0 : Int32)) hx hb d_MM_readsLetter_114 (by decide) ?_
      refine lv_istore (lv' := [(5, .int (0 : Int32)), (4, .int y15), (0, .ref (Z.2.2.1 0)), (2, .int x2), (3, .int x3)]) hx hb d_MM_readsLetter_115 hl (by decide) rfl (fun ls hl => ?_)
      exact J117 _ _ _ _ _ _ hf1 hH (lv_sub hl [2, 3, 1, 0] rfl)
  have J77 : ∀ (M : Mem) (x2 : Int32) (H : Heap) (locs : List Loc) (ls : Array Slot), f_MM_readsLetter_J77 M x2 = some M' → HW Z M s H locs → lv_has ls 6 [(0, .ref (Z.2.2.1 0)), (2, .int x2)] → W p l e R s m args below meth c H locs 0 0 Q (F0 m 77 ls []) := by
    intro M x2 H locs ls hf0 hH hl
    unfold f_MM_readsLetter_J77 at hf0
    refine lv_aload_n hx hb d_MM_readsLetter_77 rfl (lv_at hl 0 rfl) ?_
    refine lv_dup hx hb d_MM_readsLetter_78 rfl ?_
    refine g_MM_87 S hX hH hZ d_MM_readsLetter_79 ?_
    refine lv_aload_n hx hb d_MM_readsLetter_82 rfl (lv_at hl 0 rfl) ?_
    refine q_cVi (As := []) (rest := [.int (M 0 9), .ref (Z.2.2.1 0)]) S hX hH (c_MM_isRight l hI hZ M rfl) (cw_MM_97 S.2.2.2.2 (Nat.le_trans (Nat.le_of_ble_eq_true rfl) hR.1) (Nat.le_trans (Nat.le_of_ble_eq_true rfl) hR.2)) (rc_MM hX hH hZ) rfl hl.1 rfl (Nat.le_of_ble_eq_true rfl) d_MM_readsLetter_83 ⟨Nat.zero_le _, Nat.zero_le _⟩ (fun H locs hH => ?_)
    refine q_cSi (As := [.int (bI (f_MM_isRight M))]) (rest := [.int (M 0 9), .ref (Z.2.2.1 0)]) S hX hH (c_MM_truth l hI M (bI (f_MM_isRight M)) rfl) (cw_MM_150 S.2.2.2.2 (Nat.le_trans (Nat.le_of_ble_eq_true rfl) hR.1) (Nat.le_trans (Nat.le_of_ble_eq_true rfl) hR.2)) rfl hl.1 rfl (Nat.le_of_ble_eq_true rfl) d_MM_readsLetter_86 ⟨Nat.zero_le _, Nat.zero_le _⟩ (fun H locs hH => ?_)
    refine lv_iadd hx hb d_MM_readsLetter_89 ?_
    obtain ⟨M16, hM16, hf0⟩ := o_l hf0
    refine s_MM_87 S hX hI hH hZ d_MM_readsLetter_90 (fun H locs hH => ?_)
    rw [hM16] at hH
    refine lv_aload_n hx hb d_MM_readsLetter_93 rfl (lv_at hl 0 rfl) ?_
    refine g_MM_13 S hX hH hZ d_MM_readsLetter_94 ?_
    refine lv_iload_n hx hb d_MM_readsLetter_97 rfl (lv_at hl 1 rfl) ?_
    refine lv_iconst (v := (4 : Int32)) hx hb d_MM_readsLetter_98 (by decide) ?_
    refine lv_iadd hx hb d_MM_readsLetter_99 ?_
    refine lv_iconst (v := (0 : Int32)) hx hb d_MM_readsLetter_100 (by decide) ?_
    obtain ⟨hn17, hf0⟩ := o_in hf0
    obtain ⟨M18, hM18, hf0⟩ := o_l hf0
    refine q_iast (j := (x2 + (4 : Int32)).toNatClampNeg) hx hb hX hI hH (aa_MM_2 hZ) hn17 rfl d_MM_readsLetter_101 (fun H locs hH => ?_)
    rw [hM18] at hH
    refine lv_iconst (v := (1 : Int32)) hx hb d_MM_readsLetter_102 (by decide) ?_
    refine lv_istore_n (lv' := [(3, .int (1 : Int32)), (0, .ref (Z.2.2.1 0)), (2, .int x2)]) hx hb d_MM_readsLetter_103 rfl hl (by decide) rfl (fun ls hl => ?_)
    exact J104 _ _ _ _ _ _ hf0 hH (lv_sub hl [1, 2, 0] rfl)
  refine lv_aload_n hx hb d_MM_readsLetter_0 rfl (lv_at hl 0 rfl) ?_
  refine g_MM_13 S hX hH hZ d_MM_readsLetter_1 ?_
  refine lv_bipush (v := (7 : Int32)) hx hb d_MM_readsLetter_4 (by decide) ?_
  refine q_iald (j := 7) hx hb hX hH (aa_MM_2 hZ) (vp_c (by decide)) (by decide) d_MM_readsLetter_6 ?_
  refine lv_bipush (v := (16 : Int32)) hx hb d_MM_readsLetter_7 (by decide) ?_
  refine lv_icmp_ne (tgt := 19) hx hb d_MM_readsLetter_9 (by decide) (fun hc => ?_) (fun hc => ?_)
  · replace hf0 := o_f hc hf0
    refine lv_bipush (v := (10 : Int32)) hx hb d_MM_readsLetter_19 (by decide) ?_
    refine lv_bipush (v := (13 : Int32)) hx hb d_MM_readsLetter_21 (by decide) ?_
    refine lv_aload_n hx hb d_MM_readsLetter_23 rfl (lv_at hl 0 rfl) ?_
    refine g_MM_13 S hX hH hZ d_MM_readsLetter_24 ?_
    refine lv_bipush (v := (7 : Int32)) hx hb d_MM_readsLetter_27 (by decide) ?_
    refine q_iald (j := 7) hx hb hX hH (aa_MM_2 hZ) (vp_c (by decide)) (by decide) d_MM_readsLetter_29 ?_
    refine lv_imul hx hb d_MM_readsLetter_30 ?_
    refine lv_iadd hx hb d_MM_readsLetter_31 ?_
    refine lv_istore_n (lv' := [(2, .int ((10 : Int32) + ((13 : Int32) * (M 2 7)))), (0, .ref (Z.2.2.1 0)), (1, .int x1)]) hx hb d_MM_readsLetter_32 rfl hl (by decide) rfl (fun ls hl => ?_)
    refine lv_aload_n hx hb d_MM_readsLetter_33 rfl (lv_at hl 1 rfl) ?_
    refine lv_iload_n hx hb d_MM_readsLetter_34 rfl (lv_at hl 0 rfl) ?_
    obtain ⟨M20, hc19, hf0⟩ := o_b hf0
    refine q_cVv (As := [.int ((10 : Int32) + ((13 : Int32) * (M 2 7)))]) (rest := []) S hX hH (c_MM_readsWay l hI hZ M ((10 : Int32) + ((13 : Int32) * (M 2 7))) hc19) (cw_MM_147 S.2.2.2.2 (Nat.le_trans (Nat.le_of_ble_eq_true rfl) hR.1) (Nat.le_trans (Nat.le_of_ble_eq_true rfl) hR.2)) (rc_MM hX hH hZ) rfl hl.1 rfl (Nat.le_of_ble_eq_true rfl) d_MM_readsLetter_35 ⟨Nat.zero_le _, Nat.zero_le _⟩ (fun H locs hH => ?_)
    refine lv_aload_n hx hb d_MM_readsLetter_38 rfl (lv_at hl 1 rfl) ?_
    refine g_MM_13 S hX hH hZ d_MM_readsLetter_39 ?_
    refine lv_iload_n hx hb d_MM_readsLetter_42 rfl (lv_at hl 0 rfl) ?_
    refine lv_iconst (v := (3 : Int32)) hx hb d_MM_readsLetter_43 (by decide) ?_
    refine lv_iadd hx hb d_MM_readsLetter_44 ?_
    refine lv_aload_n hx hb d_MM_readsLetter_45 rfl (lv_at hl 1 rfl) ?_
    refine lv_iconst (v := (0 : Int32)) hx hb d_MM_readsLetter_46 (by decide) ?_
    refine lv_iconst (v := (3 : Int32)) hx hb d_MM_readsLetter_47 (by decide) ?_
    obtain ⟨y23, M22, hc21, hf0⟩ := o_b2 hf0
    refine q_cVi (As := [.int (0 : Int32), .int (3 : Int32)]) (rest := [.int (((10 : Int32) + ((13 : Int32) * (M 2 7))) + (3 : Int32)), .ref (Z.2.2.1 2)]) S hX hH (c_MM_number l hI hZ M20 (0 : Int32) (3 : Int32) hc21) (cw_MM_141 S.2.2.2.2 (Nat.le_trans (Nat.le_of_ble_eq_true rfl) hR.1) (Nat.le_trans (Nat.le_of_ble_eq_true rfl) hR.2)) (rc_MM hX hH hZ) rfl hl.1 rfl (Nat.le_of_ble_eq_true rfl) d_MM_readsLetter_48 ⟨Nat.zero_le _, Nat.zero_le _⟩ (fun H locs hH => ?_)
    obtain ⟨hn24, hf0⟩ := o_in hf0
    obtain ⟨M25, hM25, hf0⟩ := o_l hf0
    refine q_iast (j := (((10 : Int32) + ((13 : Int32) * (M 2 7))) + (3 : Int32)).toNatClampNeg) hx hb hX hI hH (aa_MM_2 hZ) hn24 rfl d_MM_readsLetter_51 (fun H locs hH => ?_)
    rw [hM25] at hH
    refine lv_aload_n hx hb d_MM_readsLetter_52 rfl (lv_at hl 1 rfl) ?_
    refine q_cVi (As := []) (rest := []) S hX hH (c_MM_isRight l hI hZ M25 rfl) (cw_MM_97 S.2.2.2.2 (Nat.le_trans (Nat.le_of_ble_eq_true rfl) hR.1) (Nat.le_trans (Nat.le_of_ble_eq_true rfl) hR.2)) (rc_MM hX hH hZ) rfl hl.1 rfl (Nat.le_of_ble_eq_true rfl) d_MM_readsLetter_53 ⟨Nat.zero_le _, Nat.zero_le _⟩ (fun H locs hH => ?_)
    refine lv_if_eq (tgt := 77) hx hb d_MM_readsLetter_56 (by decide) (fun hc => ?_) (fun hc => ?_)
    · replace hf0 := o_t hc hf0
      exact J77 _ _ _ _ _ hf0 hH (lv_sub hl [1, 0] rfl)
    · replace hf0 := o_f hc hf0
      refine lv_aload_n hx hb d_MM_readsLetter_59 rfl (lv_at hl 1 rfl) ?_
      obtain ⟨y28, M27, hc26, hf0⟩ := o_b2 hf0
      refine q_cVi (As := []) (rest := []) S hX hH (c_MM_next l hI hZ M25 hc26) (cw_MM_101 S.2.2.2.2 (Nat.le_trans (Nat.le_of_ble_eq_true rfl) hR.1) (Nat.le_trans (Nat.le_of_ble_eq_true rfl) hR.2)) (rc_MM hX hH hZ) rfl hl.1 rfl (Nat.le_of_ble_eq_true rfl) d_MM_readsLetter_60 ⟨Nat.zero_le _, Nat.zero_le _⟩ (fun H locs hH => ?_)
      refine lv_bipush (v := (58 : Int32)) hx hb d_MM_readsLetter_63 (by decide) ?_
      refine lv_icmp_eq (tgt := 77) hx hb d_MM_readsLetter_65 (by decide) (fun hc => ?_) (fun hc => ?_)
      · replace hf0 := o_t hc hf0
        exact J77 _ _ _ _ _ hf0 hH (lv_sub hl [1, 0] rfl)
      · replace hf0 := o_f hc hf0
        refine lv_aload_n hx hb d_MM_readsLetter_68 rfl (lv_at hl 1 rfl) ?_
        refine lv_iconst (v := (1 : Int32)) hx hb d_MM_readsLetter_69 (by decide) ?_
        refine lv_aload_n hx hb d_MM_readsLetter_70 rfl (lv_at hl 1 rfl) ?_
        refine g_MM_87 S hX hH hZ d_MM_readsLetter_71 ?_
        obtain ⟨M30, hc29, hf0⟩ := o_b hf0
        refine q_cVv (As := [.int (1 : Int32), .int (M27 0 9)]) (rest := []) S hX hH (c_MM_fails l hI hZ M27 (1 : Int32) (M27 0 9) hc29) (cw_MM_128 S.2.2.2.2 (Nat.le_trans (Nat.le_of_ble_eq_true rfl) hR.1) (Nat.le_trans (Nat.le_of_ble_eq_true rfl) hR.2)) (rc_MM hX hH hZ) rfl hl.1 rfl (Nat.le_of_ble_eq_true rfl) d_MM_readsLetter_74 ⟨Nat.zero_le _, Nat.zero_le _⟩ (fun H locs hH => ?_)
        exact J77 _ _ _ _ _ hf0 hH (lv_sub hl [1, 0] rfl)
  · replace hf0 := o_t hc hf0
    refine lv_aload_n hx hb d_MM_readsLetter_12 rfl (lv_at hl 0 rfl) ?_
    refine lv_iconst (v := (3 : Int32)) hx hb d_MM_readsLetter_13 (by decide) ?_
    refine lv_iload_n hx hb d_MM_readsLetter_14 rfl (lv_at hl 1 rfl) ?_
    obtain ⟨M32, hc31, hf0⟩ := o_b hf0
    refine q_cVv (As := [.int (3 : Int32), .int x1]) (rest := []) S hX hH (c_MM_fails l hI hZ M (3 : Int32) x1 hc31) (cw_MM_128 S.2.2.2.2 (Nat.le_trans (Nat.le_of_ble_eq_true rfl) hR.1) (Nat.le_trans (Nat.le_of_ble_eq_true rfl) hR.2)) (rc_MM hX hH hZ) rfl hl.1 rfl (Nat.le_of_ble_eq_true rfl) d_MM_readsLetter_15 ⟨Nat.zero_le _, Nat.zero_le _⟩ (fun H locs hH => ?_)
    obtain rfl := o_v hf0
    exact hQ _ _ _ _ hH d_MM_readsLetter_18
theorem c_MM_readsLetter (l : Launch) {Z : WD} (hI : wI Z) (hZ : IsM Z) (M : Mem) (x1 : Int32) {M' : Mem} (hf : f_MM_readsLetter M x1 = some M') : Cv l Z y_MM_readsLetter b_MM_readsLetter 6 none 6 124 [.ref (Z.2.2.1 0), .int x1] M M' := by
  refine Met.ofW (cc := b_MM_readsLetter) (maxL := 6) (ret := none) (by decide) rfl ?_
  intro p e s m args below meth c s₁ B hml hv
  obtain ⟨rfl, hP, hX⟩ := hv
  have S : CallFix p m c b_MM_readsLetter 6 s ([.ref (Z.2.2.1 0), .int x1] : List Value).toArray gtb R_MM := ⟨B.exec, B.bytes, hml, findClass_of_methodNamed B.named, fun w hw => atoms_spec (ws := .code y_MM_readsLetter b_MM_readsLetter 6 none :: gtb) B.pre w (List.mem_cons_of_mem _ hw)⟩
  have hl := lv_entry ([.ref (Z.2.2.1 0), .int x1]) (n := 6) (Nat.le_of_ble_eq_true rfl)
  rw [lg_entry_eq]
  exact wk_MM_readsLetter hI hZ M x1 S hX ⟨Nat.le_refl _, Nat.le_refl _⟩ (fun pc H locs ls hH d => q_rv S.1 S.2.1 B.returns B.notSynchronized hH rfl d) hf ⟨hP, va_S.rf⟩ hl
noncomputable def f_MM_readsFault_J154 (M : Mem) (x2 : Int32) : Option (Mem) := gIn x2 302 (lt1 (upM M 2 x2.toNatClampNeg ((M 2 x2.toNatClampNeg) + (1 : Int32))) (fun M2 => some M2))
noncomputable def f_MM_readsFault_J132 (M : Mem) (x2 : Int32) (x4 : Int32) (x5 : Int32) : Option (Mem) := if x4 = (4 : Int32) then 
    bnd2 (f_MM_number M (1 : Int32) (7 : Int32)) (fun y5 M4 => 
    gIn (x5 + (3 : Int32)) 302 (lt1 (upM M4 2 ((x5 + (3 : Int32)).toNatClampNeg) y5) (fun M7 => f_MM_readsFault_J154 M7 x2))) else f_MM_readsFault_J154 M x2
noncomputable def f_MM_readsFault_J122 (M : Mem) (x4 : Int32) (x5 : Int32) (x6 : Int32) : Option ((Int32 × Mem) ⊕ Mem) := some (.inl (x6 + x4, M))
noncomputable def f_MM_readsFault_L40 (x4 : Int32) (x5 : Int32) (x6 : Int32) (M : Mem) : Option ((Int32 × Mem) ⊕ Mem) := if x5 ≤ x6 then some (.inr M) else 
    if (bI (f_MM_isRight M)) = 0 then some (.inr M) else 
    gIn x6 302 (gIn x5 302 (if (M 2 x6.toNatClampNeg) = (M 2 x5.toNatClampNeg) then 
    gIn (x6 + (1 : Int32)) 302 (gIn (x5 + (1 : Int32)) 302 (if (M 2 (x6 + (1 : Int32)).toNatClampNeg) = (M 2 (x5 + (1 : Int32)).toNatClampNeg) then 
    gIn (x6 + (2 : Int32)) 302 (gIn (x5 + (2 : Int32)) 302 (if (M 2 (x6 + (2 : Int32)).toNatClampNeg) = (M 2 (x5 + (2 : Int32)).toNatClampNeg) then bnd (f_MM_fails M (4 : Int32) (M 0 11)) (fun M15 => f_MM_readsFault_J122 M15 x4 x5 x6) else f_MM_readsFault_J122 M x4 x5 x6)) else f_MM_readsFault_J122 M x4 x5 x6)) else f_MM_readsFault_J122 M x4 x5 x6))
noncomputable def f_MM_readsFault_W40 (x4 : Int32) (x5 : Int32) (u : (Int32 × Mem)) : Option Mem := loop (fun t => f_MM_readsFault_L40 x4 x5 t.1 t.2) u
noncomputable def f_MM_readsFault_J40 (M : Mem) (x2 : Int32) (x4 : Int32) (x5 : Int32) (x6 : Int32) : Option (Mem) := bnd (f_MM_readsFault_W40 x4 x5 (x6, M)) (fun e40 => f_MM_readsFault_J132 e40 x2 x4 x5)
noncomputable def f_MM_readsFault (M : Mem) (x1 : Int32) (x2 : Int32) (x3 : Int32) (x4 : Int32) : Option Mem := 
    gIn x2 302 (if (M 2 x2.toNatClampNeg) = (12 : Int32) then bnd (f_MM_fails M (3 : Int32) x1) (fun M20 => some M20) else 
    bnd (f_MM_readsWay M (x3 + (x4 * (M 2 x2.toNatClampNeg)))) (fun M18 => f_MM_readsFault_J40 M18 x2 x4 (x3 + (x4 * (M 2 x2.toNatClampNeg))) x3))
set_option maxHeartbeats 4000000 in
theorem wk_MM_readsFault {l : Launch} {Z : WD} (hI : wI Z) (hZ : IsM Z) (M : Mem) (x1 : Int32) (x2 : Int32) (x3 : Int32) (x4 : Int32) {M' : Mem} {p : Program} {e : Env} {R : Room} {s : State} {m : MethodId} {args : Array Value} {below : List Frame} {meth : Method} {c : Code} {H : Heap} {locs : List Loc} {ls : Array Slot} {Q : State → Prop} (S : CallFix p m c b_MM_readsFault 7 s args gtb R_MM) (hX : wX Z s) (hR : 6 ≤ R.frames ∧ 124 ≤ R.locals) (hQ : ∀ (pc : Nat) (H : Heap) (locs : List Loc) (ls : Array Slot), HW Z M' s H locs → decode b_MM_readsFault pc = .ok (.return_, 1) → W p l e R s m args below meth c H locs 0 0 Q (F0 m pc ls [])) (hf0 : f_MM_readsFault M x1 x2 x3 x4 = some M') (hH : HW Z M s H locs) (hl : lv_has ls 7 [(0, .ref (Z.2.2.1 0)), (1, .int x1), (2, .int x2), (3, .int x3), (4, .int x4)]) : W p l e R s m args below meth c H locs 0 0 Q (F0 m 0 ls []) := by
  have hx := S.1
  have hb := S.2.1
  have hown := S.2.2.2.1
  have ht := S.2.2.2.2
  unfold f_MM_readsFault at hf0
  have J154 : ∀ (M : Mem) (x2 : Int32) (H : Heap) (locs : List Loc) (ls : Array Slot), f_MM_readsFault_J154 M x2 = some M' → HW Z M s H locs → lv_has ls 7 [(0, .ref (Z.2.2.1 0)), (2, .int x2)] → W p l e R s m args below meth c H locs 0 0 Q (F0 m 154 ls []) := by
    intro M x2 H locs ls hf0 hH hl
    unfold f_MM_readsFault_J154 at hf0
    refine lv_aload_n hx hb d_MM_readsFault_154 rfl (lv_at hl 0 rfl) ?_
    refine g_MM_13 S hX hH hZ d_MM_readsFault_155 ?_
    refine lv_iload_n hx hb d_MM_readsFault_158 rfl (lv_at hl 1 rfl) ?_
    refine lv_dup2_11 hx hb d_MM_readsFault_159 rfl rfl ?_
    obtain ⟨hn1, hf0⟩ := o_in hf0
    refine q_iald (j := x2.toNatClampNeg) hx hb hX hH (aa_MM_2 hZ) hn1 rfl d_MM_readsFault_160 ?_
    refine lv_iconst (v := (1 : Int32)) hx hb d_MM_readsFault_161 (by decide) ?_
    refine lv_iadd hx hb d_MM_readsFault_162 ?_
    obtain ⟨M2, hM2, hf0⟩ := o_l hf0
    refine q_iast (j := x2.toNatClampNeg) hx hb hX hI hH (aa_MM_2 hZ) hn1 rfl d_MM_readsFault_163 (fun H locs hH => ?_)
    rw [hM2] at hH
    obtain rfl := o_v hf0
    exact hQ _ _ _ _ hH d_MM_readsFault_164
  have J132 : ∀ (M : Mem) (x2 : Int32) (x4 : Int32) (x5 : Int32) (H : Heap) (locs : List Loc) (ls : Array Slot), f_MM_readsFault_J132 M x2 x4 x5 = some M' → HW Z M s H locs → lv_has ls 7 [(0, .ref (Z.2.2.1 0)), (2, .int x2), (4, .int x4), (5, .int x5)] → W p l e R s m args below meth c H locs 0 0 Q (F0 m 132 ls []) := by
    intro M x2 x4 x5 H locs ls hf0 hH hl
    unfold f_MM_readsFault_J132 at hf0
    refine lv_iload hx hb d_MM_readsFault_132 (lv_at hl 2 rfl) ?_
    refine lv_iconst (v := (4 : Int32)) hx hb d_MM_readsFault_134 (by decide) ?_
    refine lv_icmp_ne (tgt := 154) hx hb d_MM_readsFault_135 (by decide) (fun hc => ?_) (fun hc => ?_)
    · replace hf0 := o_f hc hf0
      exact J154 _ _ _ _ _ hf0 hH (lv_sub hl [0, 1] rfl)
    · replace hf0 := o_t hc hf0
      refine lv_aload_n hx hb d_MM_readsFault_138 rfl (lv_at hl 0 rfl) ?_
      refine g_MM_13 S hX hH hZ d_MM_readsFault_139 ?_
      refine lv_iload hx hb d_MM_readsFault_142 (lv_at hl 3 rfl) ?_
      refine lv_iconst (v := (3 : Int32)) hx hb d_MM_readsFault_144 (by decide) ?_
      refine lv_iadd hx hb d_MM_readsFault_145 ?_
      refine lv_aload_n hx hb d_MM_readsFault_146 rfl (lv_at hl 0 rfl) ?_
      refine lv_iconst (v := (1 : Int32)) hx hb d_MM_readsFault_147 (by decide) ?_
      refine lv_bipush (v := (7 : Int32)) hx hb d_MM_readsFault_148 (by decide) ?_
      obtain ⟨y5, M4, hc3, hf0⟩ := o_b2 hf0
      refine q_cVi (As := [.int (1 : Int32), .int (7 : Int32)]) (rest := [.int (x5 + (3 : Int32)), .ref (Z.2.2.1 2)]) S hX hH (c_MM_number l hI hZ M (1 : Int32) (7 : Int32) hc3) (cw_MM_141 S.2.2.2.2 (Nat.le_trans (Nat.le_of_ble_eq_true rfl) hR.1) (Nat.le_trans (Nat.le_of_ble_eq_true rfl) hR.2)) (rc_MM hX hH hZ) rfl hl.1 rfl (Nat.le_of_ble_eq_true rfl) d_MM_readsFault_150 ⟨Nat.zero_le _, Nat.zero_le _⟩ (fun H locs hH => ?_)
      obtain ⟨hn6, hf0⟩ := o_in hf0
      obtain ⟨M7, hM7, hf0⟩ := o_l hf0
      refine q_iast (j := (x5 + (3 : Int32)).toNatClampNeg) hx hb hX hI hH (aa_MM_2 hZ) hn6 rfl d_MM_readsFault_153 (fun H locs hH => ?_)
      rw [hM7] at hH
      exact J154 _ _ _ _ _ hf0 hH (lv_sub hl [0, 1] rfl)
  have J40 : ∀ (M : Mem) (x2 : Int32) (x4 : Int32) (x5 : Int32) (x6 : Int32) (H : Heap) (locs : List Loc) (ls : Array Slot), f_MM_readsFault_J40 M x2 x4 x5 x6 = some M' → HW Z M s H locs → lv_has ls 7 [(0, .ref (Z.2.2.1 0)), (2, .int x2), (4, .int x4), (5, .int x5), (6, .int x6)] → W p l e R s m args below meth c H locs 0 0 Q (F0 m 40 ls []) := by
    intro M x2 x4 x5 x6 H locs ls hf0 hH hl
    unfold f_MM_readsFault_J40 at hf0
    obtain ⟨e40, he40, hf0⟩ := o_b hf0
    have KX40 : ∀ (H : Heap) (locs : List Loc) (ls : Array Slot), HW Z e40 s H locs → lv_has ls 7 [(0, .ref (Z.2.2.1 0)), (2, .int x2), (4, .int x4), (5, .int x5)] → W p l e R s m args below meth c H locs 0 0 Q (F0 m 132 ls []) := by
      intro H locs ls hH hl
      exact J132 _ _ _ _ _ _ _ hf0 hH (lv_sub hl [0, 1, 2, 3] rfl)
    unfold f_MM_readsFault_W40 at he40
    refine loop_W (fun t => ∀ (H : Heap) (locs : List Loc) (ls : Array Slot), HW Z t.2 s H locs → lv_has ls 7 [(0, .ref (Z.2.2.1 0)), (2, .int x2), (4, .int x4), (5, .int x5), (6, .int t.1)] → W p l e R s m args below meth c H locs 0 0 Q (F0 m 40 ls [])) ?_ he40 H locs ls hH hl
    rintro ⟨x6, M⟩ o1 hf1 hG1 hR1 H locs ls hH hl
    replace hH : HW Z M s H locs := hH
    replace hl : lv_has ls 7 [(0, .ref (Z.2.2.1 0)), (2, .int x2), (4, .int x4), (5, .int x5), (6, .int x6)] := hl
    replace hf1 : f_MM_readsFault_L40 x4 x5 x6 M = some o1 := hf1
    unfold f_MM_readsFault_L40 at hf1
    have J122 : ∀ (M : Mem) (x6 : Int32) (H : Heap) (locs : List Loc) (ls : Array Slot), f_MM_readsFault_J122 M x4 x5 x6 = some o1 → HW Z M s H locs → lv_has ls 7 [(0, .ref (Z.2.2.1 0)), (2, .int x2), (4, .int x4), (5, .int x5), (6, .int x6)] → W p l e R s m args below meth c H locs 0 0 Q (F0 m 122 ls []) := by
      intro M x6 H locs ls hf1 hH hl
      unfold f_MM_readsFault_J122 at hf1
      refine lv_iload hx hb d_MM_readsFault_122 (lv_at hl 4 rfl) ?_
      refine lv_iload hx hb d_MM_readsFault_124 (lv_at hl 2 rfl) ?_
      refine lv_iadd hx hb d_MM_readsFault_126 ?_
      refine lv_istore (lv' := [(6, .int (x6 + x4)), (0, .ref (Z.2.2.1 0)), (2, .int x2), (4, .int x4), (5, .int x5)]) hx hb d_MM_readsFault_127 hl (by decide) rfl (fun ls hl => ?_)
      refine lv_goto (tgt := 40) hx hb d_MM_readsFault_129 (by decide) ?_
      exact hG1 _ (o_v hf1).symm _ _ _ hH (lv_sub hl [1, 2, 3, 4, 0] rfl)
    refine lv_iload hx hb d_MM_readsFault_40 (lv_at hl 4 rfl) ?_
    refine lv_iload hx hb d_MM_readsFault_42 (lv_at hl 3 rfl) ?_
    refine lv_icmp_ge (tgt := 132) hx hb d_MM_readsFault_44 (by decide) (fun hc => ?_) (fun hc => ?_)
    · replace hf1 := o_t hc hf1
      obtain rfl := hR1 _ (o_v hf1).symm
      exact KX40 _ _ _ hH (lv_sub hl [0, 1, 2, 3] rfl)
    · replace hf1 := o_f hc hf1
      refine lv_aload_n hx hb d_MM_readsFault_47 rfl (lv_at hl 0 rfl) ?_
      refine q_cVi (As := []) (rest := []) S hX hH (c_MM_isRight l hI hZ M rfl) (cw_MM_97 S.2.2.2.2 (Nat.le_trans (Nat.le_of_ble_eq_true rfl) hR.1) (Nat.le_trans (Nat.le_of_ble_eq_true rfl) hR.2)) (rc_MM hX hH hZ) rfl hl.1 rfl (Nat.le_of_ble_eq_true rfl) d_MM_readsFault_48 ⟨Nat.zero_le _, Nat.zero_le _⟩ (fun H locs hH => ?_)
      refine lv_if_eq (tgt := 132) hx hb d_MM_readsFault_51 (by decide) (fun hc => ?_) (fun hc => ?_)
      · replace hf1 := o_t hc hf1
        obtain rfl := hR1 _ (o_v hf1).symm
        exact KX40 _ _ _ hH (lv_sub hl [0, 1, 2, 3] rfl)
      · replace hf1 := o_f hc hf1
        refine lv_aload_n hx hb d_MM_readsFault_54 rfl (lv_at hl 0 rfl) ?_
        refine g_MM_13 S hX hH hZ d_MM_readsFault_55 ?_
        refine lv_iload hx hb d_MM_readsFault_58 (lv_at hl 4 rfl) ?_
        obtain ⟨hn8, hf1⟩ := o_in hf1
        refine q_iald (j := x6.toNatClampNeg) hx hb hX hH (aa_MM_2 hZ) hn8 rfl d_MM_readsFault_60 ?_
        refine lv_aload_n hx hb d_MM_readsFault_61 rfl (lv_at hl 0 rfl) ?_
        refine g_MM_13 S hX hH hZ d_MM_readsFault_62 ?_
        refine lv_iload hx hb d_MM_readsFault_65 (lv_at hl 3 rfl) ?_
        obtain ⟨hn9, hf1⟩ := o_in hf1
        refine q_iald (j := x5.toNatClampNeg) hx hb hX hH (aa_MM_2 hZ) hn9 rfl d_MM_readsFault_67 ?_
        refine lv_icmp_ne (tgt := 122) hx hb d_MM_readsFault_68 (by decide) (fun hc => ?_) (fun hc => ?_)
        · replace hf1 := o_f hc hf1
          exact J122 _ _ _ _ _ hf1 hH (lv_sub hl [0, 1, 2, 3, 4] rfl)
        · replace hf1 := o_t hc hf1
          refine lv_aload_n hx hb d_MM_readsFault_71 rfl (lv_at hl 0 rfl) ?_
          refine g_MM_13 S hX hH hZ d_MM_readsFault_72 ?_
          refine lv_iload hx hb d_MM_readsFault_75 (lv_at hl 4 rfl) ?_
          refine lv_iconst (v := (1 : Int32)) hx hb d_MM_readsFault_77 (by decide) ?_
          refine lv_iadd hx hb d_MM_readsFault_78 ?_
          obtain ⟨hn10, hf1⟩ := o_in hf1
          refine q_iald (j := (x6 + (1 : Int32)).toNatClampNeg) hx hb hX hH (aa_MM_2 hZ) hn10 rfl d_MM_readsFault_79 ?_
          refine lv_aload_n hx hb d_MM_readsFault_80 rfl (lv_at hl 0 rfl) ?_
          refine g_MM_13 S hX hH hZ d_MM_readsFault_81 ?_
          refine lv_iload hx hb d_MM_readsFault_84 (lv_at hl 3 rfl) ?_
          refine lv_iconst (v := (1 : Int32)) hx hb d_MM_readsFault_86 (by decide) ?_
          refine lv_iadd hx hb d_MM_readsFault_87 ?_
          obtain ⟨hn11, hf1⟩ := o_in hf1
          refine q_iald (j := (x5 + (1 : Int32)).toNatClampNeg) hx hb hX hH (aa_MM_2 hZ) hn11 rfl d_MM_readsFault_88 ?_
          refine lv_icmp_ne (tgt := 122) hx hb d_MM_readsFault_89 (by decide) (fun hc => ?_) (fun hc => ?_)
          · replace hf1 := o_f hc hf1
            exact J122 _ _ _ _ _ hf1 hH (lv_sub hl [0, 1, 2, 3, 4] rfl)
          · replace hf1 := o_t hc hf1
            refine lv_aload_n hx hb d_MM_readsFault_92 rfl (lv_at hl 0 rfl) ?_
            refine g_MM_13 S hX hH hZ d_MM_readsFault_93 ?_
            refine lv_iload hx hb d_MM_readsFault_96 (lv_at hl 4 rfl) ?_
            refine lv_iconst (v := (2 : Int32)) hx hb d_MM_readsFault_98 (by decide) ?_
            refine lv_iadd hx hb d_MM_readsFault_99 ?_
            obtain ⟨hn12, hf1⟩ := o_in hf1
            refine q_iald (j := (x6 + (2 : Int32)).toNatClampNeg) hx hb hX hH (aa_MM_2 hZ) hn12 rfl d_MM_readsFault_100 ?_
            refine lv_aload_n hx hb d_MM_readsFault_101 rfl (lv_at hl 0 rfl) ?_
            refine g_MM_13 S hX hH hZ d_MM_readsFault_102 ?_
            refine lv_iload hx hb d_MM_readsFault_105 (lv_at hl 3 rfl) ?_
            refine lv_iconst (v := (2 : Int32)) hx hb d_MM_readsFault_107 (by decide) ?_
            refine lv_iadd hx hb d_MM_readsFault_108 ?_
            obtain ⟨hn13, hf1⟩ := o_in hf1
            refine q_iald (j := (x5 + (2 : Int32)).toNatClampNeg) hx hb hX hH (aa_MM_2 hZ) hn13 rfl d_MM_readsFault_109 ?_
            refine lv_icmp_ne (tgt := 122) hx hb d_MM_readsFault_110 (by decide) (fun hc => ?_) (fun hc => ?_)
            · replace hf1 := o_f hc hf1
              exact J122 _ _ _ _ _ hf1 hH (lv_sub hl [0, 1, 2, 3, 4] rfl)
            · replace hf1 := o_t hc hf1
              refine lv_aload_n hx hb d_MM_readsFault_113 rfl (lv_at hl 0 rfl) ?_
              refine lv_iconst (v := (4 : Int32)) hx hb d_MM_readsFault_114 (by decide) ?_
              refine lv_aload_n hx hb d_MM_readsFault_115 rfl (lv_at hl 0 rfl) ?_
              refine g_MM_132 S hX hH hZ d_MM_readsFault_116 ?_
              obtain ⟨M15, hc14, hf1⟩ := o_b hf1
              refine q_cVv (As := [.int (4 : Int32), .int (M 0 11)]) (rest := []) S hX hH (c_MM_fails l hI hZ M (4 : Int32) (M 0 11) hc14) (cw_MM_128 S.2.2.2.2 (Nat.le_trans (Nat.le_of_ble_eq_true rfl) hR.1) (Nat.le_trans (Nat.le_of_ble_eq_true rfl) hR.2)) (rc_MM hX hH hZ) rfl hl.1 rfl (Nat.le_of_ble_eq_true rfl) d_MM_readsFault_119 ⟨Nat.zero_le _, Nat.zero_le _⟩ (fun H locs hH => ?_)
              exact J122 _ _ _ _ _ hf1 hH (lv_sub hl [0, 1, 2, 3, 4] rfl)
  refine lv_aload_n hx hb d_MM_readsFault_0 rfl (lv_at hl 0 rfl) ?_
  refine g_MM_13 S hX hH hZ d_MM_readsFault_1 ?_
  refine lv_iload_n hx hb d_MM_readsFault_4 rfl (lv_at hl 2 rfl) ?_
  obtain ⟨hn16, hf0⟩ := o_in hf0
  refine q_iald (j := x2.toNatClampNeg) hx hb hX hH (aa_MM_2 hZ) hn16 rfl d_MM_readsFault_5 ?_
  refine lv_bipush (v := (12 : Int32)) hx hb d_MM_readsFault_6 (by decide) ?_
  refine lv_icmp_ne (tgt := 18) hx hb d_MM_readsFault_8 (by decide) (fun hc => ?_) (fun hc => ?_)
  · replace hf0 := o_f hc hf0
    refine lv_iload_n hx hb d_MM_readsFault_18 rfl (lv_at hl 3 rfl) ?_
    refine lv_iload hx hb d_MM_readsFault_19 (lv_at hl 4 rfl) ?_
    refine lv_aload_n hx hb d_MM_readsFault_21 rfl (lv_at hl 0 rfl) ?_
    refine g_MM_13 S hX hH hZ d_MM_readsFault_22 ?_
    refine lv_iload_n hx hb d_MM_readsFault_25 rfl (lv_at hl 2 rfl) ?_
    refine q_iald (j := x2.toNatClampNeg) hx hb hX hH (aa_MM_2 hZ) hn16 rfl d_MM_readsFault_26 ?_
    refine lv_imul hx hb d_MM_readsFault_27 ?_
    refine lv_iadd hx hb d_MM_readsFault_28 ?_
    refine lv_istore (lv' := [(5, .int (x3 + (x4 * (M 2 x2.toNatClampNeg)))), (0, .ref (Z.2.2.1 0)), (1, .int x1), (2, .int x2), (3, .int x3), (4, .int x4)]) hx hb d_MM_readsFault_29 hl (by decide) rfl (fun ls hl => ?_)
    refine lv_aload_n hx hb d_MM_readsFault_31 rfl (lv_at hl 1 rfl) ?_
    refine lv_iload hx hb d_MM_readsFault_32 (lv_at hl 0 rfl) ?_
    obtain ⟨M18, hc17, hf0⟩ := o_b hf0
    refine q_cVv (As := [.int (x3 + (x4 * (M 2 x2.toNatClampNeg)))]) (rest := []) S hX hH (c_MM_readsWay l hI hZ M (x3 + (x4 * (M 2 x2.toNatClampNeg))) hc17) (cw_MM_147 S.2.2.2.2 (Nat.le_trans (Nat.le_of_ble_eq_true rfl) hR.1) (Nat.le_trans (Nat.le_of_ble_eq_true rfl) hR.2)) (rc_MM hX hH hZ) rfl hl.1 rfl (Nat.le_of_ble_eq_true rfl) d_MM_readsFault_34 ⟨Nat.zero_le _, Nat.zero_le _⟩ (fun H locs hH => ?_)
    refine lv_iload_n hx hb d_MM_readsFault_37 rfl (lv_at hl 4 rfl) ?_
    refine lv_istore (lv' := [(6, .int x3), (5, .int (x3 + (x4 * (M 2 x2.toNatClampNeg)))), (0, .ref (Z.2.2.1 0)), (1, .int x1), (2, .int x2), (3, .int x3), (4, .int x4)]) hx hb d_MM_readsFault_38 hl (by decide) rfl (fun ls hl => ?_)
    exact J40 _ _ _ _ _ _ _ _ hf0 hH (lv_sub hl [2, 4, 6, 1, 0] rfl)
  · replace hf0 := o_t hc hf0
    refine lv_aload_n hx hb d_MM_readsFault_11 rfl (lv_at hl 0 rfl) ?_
    refine lv_iconst (v := (3 : Int32)) hx hb d_MM_readsFault_12 (by decide) ?_
    refine lv_iload_n hx hb d_MM_readsFault_13 rfl (lv_at hl 1 rfl) ?_
    obtain ⟨M20, hc19, hf0⟩ := o_b hf0
    refine q_cVv (As := [.int (3 : Int32), .int x1]) (rest := []) S hX hH (c_MM_fails l hI hZ M (3 : Int32) x1 hc19) (cw_MM_128 S.2.2.2.2 (Nat.le_trans (Nat.le_of_ble_eq_true rfl) hR.1) (Nat.le_trans (Nat.le_of_ble_eq_true rfl) hR.2)) (rc_MM hX hH hZ) rfl hl.1 rfl (Nat.le_of_ble_eq_true rfl) d_MM_readsFault_14 ⟨Nat.zero_le _, Nat.zero_le _⟩ (fun H locs hH => ?_)
    obtain rfl := o_v hf0
    exact hQ _ _ _ _ hH d_MM_readsFault_17
theorem c_MM_readsFault (l : Launch) {Z : WD} (hI : wI Z) (hZ : IsM Z) (M : Mem) (x1 : Int32) (x2 : Int32) (x3 : Int32) (x4 : Int32) {M' : Mem} (hf : f_MM_readsFault M x1 x2 x3 x4 = some M') : Cv l Z y_MM_readsFault b_MM_readsFault 7 none 6 124 [.ref (Z.2.2.1 0), .int x1, .int x2, .int x3, .int x4] M M' := by
  refine Met.ofW (cc := b_MM_readsFault) (maxL := 7) (ret := none) (by decide) rfl ?_
  intro p e s m args below meth c s₁ B hml hv
  obtain ⟨rfl, hP, hX⟩ := hv
  have S : CallFix p m c b_MM_readsFault 7 s ([.ref (Z.2.2.1 0), .int x1, .int x2, .int x3, .int x4] : List Value).toArray gtb R_MM := ⟨B.exec, B.bytes, hml, findClass_of_methodNamed B.named, fun w hw => atoms_spec (ws := .code y_MM_readsFault b_MM_readsFault 7 none :: gtb) B.pre w (List.mem_cons_of_mem _ hw)⟩
  have hl := lv_entry ([.ref (Z.2.2.1 0), .int x1, .int x2, .int x3, .int x4]) (n := 7) (Nat.le_of_ble_eq_true rfl)
  rw [lg_entry_eq]
  exact wk_MM_readsFault hI hZ M x1 x2 x3 x4 S hX ⟨Nat.le_refl _, Nat.le_refl _⟩ (fun pc H locs ls hH d => q_rv S.1 S.2.1 B.returns B.notSynchronized hH rfl d) hf ⟨hP, va_S.rf⟩ hl
theorem cw_MM_156 {R : Room} {s : State} {args : Array Value} (ht : ∀ w ∈ gtb, w.before args s = true) (h1 : 4 + 1 ≤ R.frames) (h2 : 8 + (5 + 11) + 85 ≤ R.locals) : CallW R s args R_MM R_MM 156 y_MM_takes b_MM_takes 5 (some .boolean) (.code y_MM_takes b_MM_takes 5 (some .boolean) :: gtb) { frames := 4, cells := 0, slots := 0, locals := 85 } 0 0 1 := cwV 1 ht (gV w5_68 w5_70 ws_MM_takes w1_10 w5_71) rfl rfl rfl ⟨rfl, by decide, by decide, by decide +kernel⟩ ⟨h1, h2⟩
theorem cw_MM_179 {R : Room} {s : State} {args : Array Value} (ht : ∀ w ∈ gtb, w.before args s = true) (h1 : 6 + 1 ≤ R.frames) (h2 : 8 + (7 + 11) + 124 ≤ R.locals) : CallW R s args R_MM R_MM 179 y_MM_readsFault b_MM_readsFault 7 none (.code y_MM_readsFault b_MM_readsFault 7 none :: gtb) { frames := 6, cells := 0, slots := 0, locals := 124 } 0 0 4 := cwV 4 ht (gV w5_137 w5_139 ws_MM_readsFault w1_10 w5_140) rfl rfl rfl ⟨rfl, by decide, by decide, by decide +kernel⟩ ⟨h1, h2⟩
theorem cw_MM_174 {R : Room} {s : State} {args : Array Value} (ht : ∀ w ∈ gtb, w.before args s = true) (h1 : 6 + 1 ≤ R.frames) (h2 : 8 + (6 + 11) + 124 ≤ R.locals) : CallW R s args R_MM R_MM 174 y_MM_readsLetter b_MM_readsLetter 6 none (.code y_MM_readsLetter b_MM_readsLetter 6 none :: gtb) { frames := 6, cells := 0, slots := 0, locals := 124 } 0 0 1 := cwV 1 ht (gV w5_125 w5_127 ws_MM_readsLetter w1_10 w5_128) rfl rfl rfl ⟨rfl, by decide, by decide, by decide +kernel⟩ ⟨h1, h2⟩
theorem cw_MM_169 {R : Room} {s : State} {args : Array Value} (ht : ∀ w ∈ gtb, w.before args s = true) (h1 : 5 + 1 ≤ R.frames) (h2 : 8 + (3 + 11) + 103 ≤ R.locals) : CallW R s args R_MM R_MM 169 y_MM_readsLiars b_MM_readsLiars 3 none (.code y_MM_readsLiars b_MM_readsLiars 3 none :: gtb) { frames := 5, cells := 0, slots := 0, locals := 103 } 0 0 0 := cwV 0 ht (gV w5_120 w5_122 ws_MM_readsLiars w1_10 w5_123) rfl rfl rfl ⟨rfl, by decide, by decide, by decide +kernel⟩ ⟨h1, h2⟩
noncomputable def f_MM_readsPart (M : Mem) : Option Mem := 
    bnd2 (f_MM_next M) (fun y3 M2 => 
    bnd2 (f_MM_takes 1 M2) (fun y6 M5 => 
    if (bI y6) = 0 then 
    bnd2 (f_MM_takes 2 M5) (fun y9 M8 => 
    if (bI y9) = 0 then 
    bnd2 (f_MM_takes 3 M8) (fun y12 M11 => 
    if (bI y12) = 0 then 
    bnd2 (f_MM_takes 4 M11) (fun y15 M14 => 
    if (bI y15) = 0 then 
    bnd2 (f_MM_takes 5 M14) (fun y18 M17 => 
    if (bI y18) = 0 then 
    bnd2 (f_MM_takes 6 M17) (fun y21 M20 => 
    if (bI y21) = 0 then 
    bnd2 (f_MM_takes 7 M20) (fun y24 M23 => 
    if (bI y24) = 0 then 
    bnd2 (f_MM_takes 8 M23) (fun y27 M26 => 
    if (bI y27) = 0 then 
    bnd2 (f_MM_takes 9 M26) (fun y30 M29 => 
    if (bI y30) = 0 then bnd (f_MM_fails M29 (1 : Int32) (M2 0 9)) (fun M32 => some M32) else bnd (f_MM_readsFault M29 (M2 0 9) (9 : Int32) (254 : Int32) (4 : Int32)) (fun M34 => some M34)) else bnd (f_MM_readsFault M26 (M2 0 9) (8 : Int32) (218 : Int32) (3 : Int32)) (fun M36 => some M36)) else bnd (f_MM_readsLetter M23 (M2 0 9)) (fun M38 => some M38)) else bnd (f_MM_readsLiars M20) (fun M40 => some M40)) else 
    bnd2 (f_MM_number M17 (1 : Int32) (4 : Int32)) (fun y43 M42 => lt1 (upM M42 2 5 y43) (fun M44 => some M44))) else 
    bnd2 (f_MM_number M14 (0 : Int32) (3 : Int32)) (fun y47 M46 => lt1 (upM M46 2 4 y47) (fun M48 => some M48))) else 
    bnd2 (f_MM_number M11 (1 : Int32) (8 : Int32)) (fun y51 M50 => lt1 (upM M50 2 3 y51) (fun M52 => some M52))) else 
    bnd2 (f_MM_number M8 (0 : Int32) (3 : Int32)) (fun y55 M54 => lt1 (upM M54 2 2 y55) (fun M56 => some M56))) else bnd2 (f_MM_party M5) (fun y59 M58 => lt1 (upM M58 2 1 y59) (fun M60 => some M60))))
set_option maxHeartbeats 4000000 in
theorem wk_MM_readsPart {l : Launch} {Z : WD} (hI : wI Z) (hZ : IsM Z) (M : Mem) {M' : Mem} {p : Program} {e : Env} {R : Room} {s : State} {m : MethodId} {args : Array Value} {below : List Frame} {meth : Method} {c : Code} {H : Heap} {locs : List Loc} {ls : Array Slot} {Q : State → Prop} (S : CallFix p m c b_MM_readsPart 2 s args gtb R_MM) (hX : wX Z s) (hR : 7 ≤ R.frames ∧ 150 ≤ R.locals) (hQ : ∀ (pc : Nat) (H : Heap) (locs : List Loc) (ls : Array Slot), HW Z M' s H locs → decode b_MM_readsPart pc = .ok (.return_, 1) → W p l e R s m args below meth c H locs 0 0 Q (F0 m pc ls [])) (hf0 : f_MM_readsPart M = some M') (hH : HW Z M s H locs) (hl : lv_has ls 2 [(0, .ref (Z.2.2.1 0))]) : W p l e R s m args below meth c H locs 0 0 Q (F0 m 0 ls []) := by
  have hx := S.1
  have hb := S.2.1
  have hown := S.2.2.2.1
  have ht := S.2.2.2.2
  unfold f_MM_readsPart at hf0
  refine lv_aload_n hx hb d_MM_readsPart_0 rfl (lv_at hl 0 rfl) ?_
  obtain ⟨y3, M2, hc1, hf0⟩ := o_b2 hf0
  refine q_cVi (As := []) (rest := []) S hX hH (c_MM_next l hI hZ M hc1) (cw_MM_101 S.2.2.2.2 (Nat.le_trans (Nat.le_of_ble_eq_true rfl) hR.1) (Nat.le_trans (Nat.le_of_ble_eq_true rfl) hR.2)) (rc_MM hX hH hZ) rfl hl.1 rfl (Nat.le_of_ble_eq_true rfl) d_MM_readsPart_1 ⟨Nat.zero_le _, Nat.zero_le _⟩ (fun H locs hH => ?_)
  refine lv_pop hx hb d_MM_readsPart_4 rfl ?_
  refine lv_aload_n hx hb d_MM_readsPart_5 rfl (lv_at hl 0 rfl) ?_
  refine g_MM_87 S hX hH hZ d_MM_readsPart_6 ?_
  refine lv_istore_n (lv' := [(1, .int (M2 0 9)), (0, .ref (Z.2.2.1 0))]) hx hb d_MM_readsPart_9 rfl hl (by decide) rfl (fun ls hl => ?_)
  refine lv_aload_n hx hb d_MM_readsPart_10 rfl (lv_at hl 1 rfl) ?_
  refine va_ldcS hx hb hown (hX.2.2.1 ("MarkedChainsModel", 154, "sender", 1) (by decide)) d_MM_readsPart_11 ?_
  obtain ⟨y6, M5, hc4, hf0⟩ := o_b2 hf0
  refine q_cVi (As := [.ref (Z.2.2.2.2.2.1 1)]) (rest := []) S hX hH (c_MM_takes l hI hZ 1 M2 (by decide) hc4) (cw_MM_156 S.2.2.2.2 (Nat.le_trans (Nat.le_of_ble_eq_true rfl) hR.1) (Nat.le_trans (Nat.le_of_ble_eq_true rfl) hR.2)) (rc_MM hX hH hZ) rfl hl.1 rfl (Nat.le_of_ble_eq_true rfl) d_MM_readsPart_13 ⟨Nat.zero_le _, Nat.zero_le _⟩ (fun H locs hH => ?_)
  refine lv_if_eq (tgt := 32) hx hb d_MM_readsPart_16 (by decide) (fun hc => ?_) (fun hc => ?_)
  · replace hf0 := o_t hc hf0
    refine lv_aload_n hx hb d_MM_readsPart_32 rfl (lv_at hl 1 rfl) ?_
    refine va_ldcS hx hb hown (hX.2.2.1 ("MarkedChainsModel", 160, "value", 2) (by decide)) d_MM_readsPart_33 ?_
    obtain ⟨y9, M8, hc7, hf0⟩ := o_b2 hf0
    refine q_cVi (As := [.ref (Z.2.2.2.2.2.1 2)]) (rest := []) S hX hH (c_MM_takes l hI hZ 2 M5 (by decide) hc7) (cw_MM_156 S.2.2.2.2 (Nat.le_trans (Nat.le_of_ble_eq_true rfl) hR.1) (Nat.le_trans (Nat.le_of_ble_eq_true rfl) hR.2)) (rc_MM hX hH hZ) rfl hl.1 rfl (Nat.le_of_ble_eq_true rfl) d_MM_readsPart_35 ⟨Nat.zero_le _, Nat.zero_le _⟩ (fun H locs hH => ?_)
    refine lv_if_eq (tgt := 56) hx hb d_MM_readsPart_38 (by decide) (fun hc => ?_) (fun hc => ?_)
    · replace hf0 := o_t hc hf0
      refine lv_aload_n hx hb d_MM_readsPart_56 rfl (lv_at hl 1 rfl) ?_
      refine va_ldcS hx hb hown (hX.2.2.1 ("MarkedChainsModel", 161, "rounds", 3) (by decide)) d_MM_readsPart_57 ?_
      obtain ⟨y12, M11, hc10, hf0⟩ := o_b2 hf0
      refine q_cVi (As := [.ref (Z.2.2.2.2.2.1 3)]) (rest := []) S hX hH (c_MM_takes l hI hZ 3 M8 (by decide) hc10) (cw_MM_156 S.2.2.2.2 (Nat.le_trans (Nat.le_of_ble_eq_true rfl) hR.1) (Nat.le_trans (Nat.le_of_ble_eq_true rfl) hR.2)) (rc_MM hX hH hZ) rfl hl.1 rfl (Nat.le_of_ble_eq_true rfl) d_MM_readsPart_59 ⟨Nat.zero_le _, Nat.zero_le _⟩ (fun H locs hH => ?_)
      refine lv_if_eq (tgt := 81) hx hb d_MM_readsPart_62 (by decide) (fun hc => ?_) (fun hc => ?_)
      · replace hf0 := o_t hc hf0
        refine lv_aload_n hx hb d_MM_readsPart_81 rfl (lv_at hl 1 rfl) ?_
        refine va_ldcS hx hb hown (hX.2.2.1 ("MarkedChainsModel", 163, "default", 4) (by decide)) d_MM_readsPart_82 ?_
        obtain ⟨y15, M14, hc13, hf0⟩ := o_b2 hf0
        refine q_cVi (As := [.ref (Z.2.2.2.2.2.1 4)]) (rest := []) S hX hH (c_MM_takes l hI hZ 4 M11 (by decide) hc13) (cw_MM_156 S.2.2.2.2 (Nat.le_trans (Nat.le_of_ble_eq_true rfl) hR.1) (Nat.le_trans (Nat.le_of_ble_eq_true rfl) hR.2)) (rc_MM hX hH hZ) rfl hl.1 rfl (Nat.le_of_ble_eq_true rfl) d_MM_readsPart_84 ⟨Nat.zero_le _, Nat.zero_le _⟩ (fun H locs hH => ?_)
        refine lv_if_eq (tgt := 105) hx hb d_MM_readsPart_87 (by decide) (fun hc => ?_) (fun hc => ?_)
        · replace hf0 := o_t hc hf0
          refine lv_aload_n hx hb d_MM_readsPart_105 rfl (lv_at hl 1 rfl) ?_
          refine va_ldcS hx hb hown (hX.2.2.1 ("MarkedChainsModel", 165, "cut", 5) (by decide)) d_MM_readsPart_106 ?_
          obtain ⟨y18, M17, hc16, hf0⟩ := o_b2 hf0
          refine q_cVi (As := [.ref (Z.2.2.2.2.2.1 5)]) (rest := []) S hX hH (c_MM_takes l hI hZ 5 M14 (by decide) hc16) (cw_MM_156 S.2.2.2.2 (Nat.le_trans (Nat.le_of_ble_eq_true rfl) hR.1) (Nat.le_trans (Nat.le_of_ble_eq_true rfl) hR.2)) (rc_MM hX hH hZ) rfl hl.1 rfl (Nat.le_of_ble_eq_true rfl) d_MM_readsPart_108 ⟨Nat.zero_le _, Nat.zero_le _⟩ (fun H locs hH => ?_)
          refine lv_if_eq (tgt := 129) hx hb d_MM_readsPart_111 (by decide) (fun hc => ?_) (fun hc => ?_)
          · replace hf0 := o_t hc hf0
            refine lv_aload_n hx hb d_MM_readsPart_129 rfl (lv_at hl 1 rfl) ?_
            refine va_ldcS hx hb hown (hX.2.2.1 ("MarkedChainsModel", 167, "liar", 6) (by decide)) d_MM_readsPart_130 ?_
            obtain ⟨y21, M20, hc19, hf0⟩ := o_b2 hf0
            refine q_cVi (As := [.ref (Z.2.2.2.2.2.1 6)]) (rest := []) S hX hH (c_MM_takes l hI hZ 6 M17 (by decide) hc19) (cw_MM_156 S.2.2.2.2 (Nat.le_trans (Nat.le_of_ble_eq_true rfl) hR.1) (Nat.le_trans (Nat.le_of_ble_eq_true rfl) hR.2)) (rc_MM hX hH hZ) rfl hl.1 rfl (Nat.le_of_ble_eq_true rfl) d_MM_readsPart_132 ⟨Nat.zero_le _, Nat.zero_le _⟩ (fun H locs hH => ?_)
            refine lv_if_eq (tgt := 145) hx hb d_MM_readsPart_135 (by decide) (fun hc => ?_) (fun hc => ?_)
            · replace hf0 := o_t hc hf0
              refine lv_aload_n hx hb d_MM_readsPart_145 rfl (lv_at hl 1 rfl) ?_
              refine va_ldcS hx hb hown (hX.2.2.1 ("MarkedChainsModel", 172, "letter", 7) (by decide)) d_MM_readsPart_146 ?_
              obtain ⟨y24, M23, hc22, hf0⟩ := o_b2 hf0
              refine q_cVi (As := [.ref (Z.2.2.2.2.2.1 7)]) (rest := []) S hX hH (c_MM_takes l hI hZ 7 M20 (by decide) hc22) (cw_MM_156 S.2.2.2.2 (Nat.le_trans (Nat.le_of_ble_eq_true rfl) hR.1) (Nat.le_trans (Nat.le_of_ble_eq_true rfl) hR.2)) (rc_MM hX hH hZ) rfl hl.1 rfl (Nat.le_of_ble_eq_true rfl) d_MM_readsPart_148 ⟨Nat.zero_le _, Nat.zero_le _⟩ (fun H locs hH => ?_)
              refine lv_if_eq (tgt := 162) hx hb d_MM_readsPart_151 (by decide) (fun hc => ?_) (fun hc => ?_)
              · replace hf0 := o_t hc hf0
                refine lv_aload_n hx hb d_MM_readsPart_162 rfl (lv_at hl 1 rfl) ?_
                refine va_ldcS hx hb hown (hX.2.2.1 ("MarkedChainsModel", 177, "omit", 8) (by decide)) d_MM_readsPart_163 ?_
                obtain ⟨y27, M26, hc25, hf0⟩ := o_b2 hf0
                refine q_cVi (As := [.ref (Z.2.2.2.2.2.1 8)]) (rest := []) S hX hH (c_MM_takes l hI hZ 8 M23 (by decide) hc25) (cw_MM_156 S.2.2.2.2 (Nat.le_trans (Nat.le_of_ble_eq_true rfl) hR.1) (Nat.le_trans (Nat.le_of_ble_eq_true rfl) hR.2)) (rc_MM hX hH hZ) rfl hl.1 rfl (Nat.le_of_ble_eq_true rfl) d_MM_readsPart_165 ⟨Nat.zero_le _, Nat.zero_le _⟩ (fun H locs hH => ?_)
                refine lv_if_eq (tgt := 185) hx hb d_MM_readsPart_168 (by decide) (fun hc => ?_) (fun hc => ?_)
                · replace hf0 := o_t hc hf0
                  refine lv_aload_n hx hb d_MM_readsPart_185 rfl (lv_at hl 1 rfl) ?_
                  refine va_ldcS hx hb hown (hX.2.2.1 ("MarkedChainsModel", 183, "late", 9) (by decide)) d_MM_readsPart_186 ?_
                  obtain ⟨y30, M29, hc28, hf0⟩ := o_b2 hf0
                  refine q_cVi (As := [.ref (Z.2.2.2.2.2.1 9)]) (rest := []) S hX hH (c_MM_takes l hI hZ 9 M26 (by decide) hc28) (cw_MM_156 S.2.2.2.2 (Nat.le_trans (Nat.le_of_ble_eq_true rfl) hR.1) (Nat.le_trans (Nat.le_of_ble_eq_true rfl) hR.2)) (rc_MM hX hH hZ) rfl hl.1 rfl (Nat.le_of_ble_eq_true rfl) d_MM_readsPart_188 ⟨Nat.zero_le _, Nat.zero_le _⟩ (fun H locs hH => ?_)
                  refine lv_if_eq (tgt := 208) hx hb d_MM_readsPart_191 (by decide) (fun hc => ?_) (fun hc => ?_)
                  · replace hf0 := o_t hc hf0
                    refine lv_aload_n hx hb d_MM_readsPart_208 rfl (lv_at hl 1 rfl) ?_
                    refine lv_iconst (v := (1 : Int32)) hx hb d_MM_readsPart_209 (by decide) ?_
                    refine lv_iload_n hx hb d_MM_readsPart_210 rfl (lv_at hl 0 rfl) ?_
                    obtain ⟨M32, hc31, hf0⟩ := o_b hf0
                    refine q_cVv (As := [.int (1 : Int32), .int (M2 0 9)]) (rest := []) S hX hH (c_MM_fails l hI hZ M29 (1 : Int32) (M2 0 9) hc31) (cw_MM_128 S.2.2.2.2 (Nat.le_trans (Nat.le_of_ble_eq_true rfl) hR.1) (Nat.le_trans (Nat.le_of_ble_eq_true rfl) hR.2)) (rc_MM hX hH hZ) rfl hl.1 rfl (Nat.le_of_ble_eq_true rfl) d_MM_readsPart_211 ⟨Nat.zero_le _, Nat.zero_le _⟩ (fun H locs hH => ?_)
                    obtain rfl := o_v hf0
                    exact hQ _ _ _ _ hH d_MM_readsPart_214
                  · replace hf0 := o_f hc hf0
                    refine lv_aload_n hx hb d_MM_readsPart_194 rfl (lv_at hl 1 rfl) ?_
                    refine lv_iload_n hx hb d_MM_readsPart_195 rfl (lv_at hl 0 rfl) ?_
                    refine lv_bipush (v := (9 : Int32)) hx hb d_MM_readsPart_196 (by decide) ?_
                    refine lv_sipush (v := (254 : Int32)) hx hb d_MM_readsPart_198 (by decide) ?_
                    refine lv_iconst (v := (4 : Int32)) hx hb d_MM_readsPart_201 (by decide) ?_
                    obtain ⟨M34, hc33, hf0⟩ := o_b hf0
                    refine q_cVv (As := [.int (M2 0 9), .int (9 : Int32), .int (254 : Int32), .int (4 : Int32)]) (rest := []) S hX hH (c_MM_readsFault l hI hZ M29 (M2 0 9) (9 : Int32) (254 : Int32) (4 : Int32) hc33) (cw_MM_179 S.2.2.2.2 (Nat.le_trans (Nat.le_of_ble_eq_true rfl) hR.1) (Nat.le_trans (Nat.le_of_ble_eq_true rfl) hR.2)) (rc_MM hX hH hZ) rfl hl.1 rfl (Nat.le_of_ble_eq_true rfl) d_MM_readsPart_202 ⟨Nat.zero_le _, Nat.zero_le _⟩ (fun H locs hH => ?_)
                    refine lv_goto (tgt := 214) hx hb d_MM_readsPart_205 (by decide) ?_
                    obtain rfl := o_v hf0
                    exact hQ _ _ _ _ hH d_MM_readsPart_214
                · replace hf0 := o_f hc hf0
                  refine lv_aload_n hx hb d_MM_readsPart_171 rfl (lv_at hl 1 rfl) ?_
                  refine lv_iload_n hx hb d_MM_readsPart_172 rfl (lv_at hl 0 rfl) ?_
                  refine lv_bipush (v := (8 : Int32)) hx hb d_MM_readsPart_173 (by decide) ?_
                  refine lv_sipush (v := (218 : Int32)) hx hb d_MM_readsPart_175 (by decide) ?_
                  refine lv_iconst (v := (3 : Int32)) hx hb d_MM_readsPart_178 (by decide) ?_
                  obtain ⟨M36, hc35, hf0⟩ := o_b hf0
                  refine q_cVv (As := [.int (M2 0 9), .int (8 : Int32), .int (218 : Int32), .int (3 : Int32)]) (rest := []) S hX hH (c_MM_readsFault l hI hZ M26 (M2 0 9) (8 : Int32) (218 : Int32) (3 : Int32) hc35) (cw_MM_179 S.2.2.2.2 (Nat.le_trans (Nat.le_of_ble_eq_true rfl) hR.1) (Nat.le_trans (Nat.le_of_ble_eq_true rfl) hR.2)) (rc_MM hX hH hZ) rfl hl.1 rfl (Nat.le_of_ble_eq_true rfl) d_MM_readsPart_179 ⟨Nat.zero_le _, Nat.zero_le _⟩ (fun H locs hH => ?_)
                  refine lv_goto (tgt := 214) hx hb d_MM_readsPart_182 (by decide) ?_
                  obtain rfl := o_v hf0
                  exact hQ _ _ _ _ hH d_MM_readsPart_214
              · replace hf0 := o_f hc hf0
                refine lv_aload_n hx hb d_MM_readsPart_154 rfl (lv_at hl 1 rfl) ?_
                refine lv_iload_n hx hb d_MM_readsPart_155 rfl (lv_at hl 0 rfl) ?_
                obtain ⟨M38, hc37, hf0⟩ := o_b hf0
                refine q_cVv (As := [.int (M2 0 9)]) (rest := []) S hX hH (c_MM_readsLetter l hI hZ M23 (M2 0 9) hc37) (cw_MM_174 S.2.2.2.2 (Nat.le_trans (Nat.le_of_ble_eq_true rfl) hR.1) (Nat.le_trans (Nat.le_of_ble_eq_true rfl) hR.2)) (rc_MM hX hH hZ) rfl hl.1 rfl (Nat.le_of_ble_eq_true rfl) d_MM_readsPart_156 ⟨Nat.zero_le _, Nat.zero_le _⟩ (fun H locs hH => ?_)
                refine lv_goto (tgt := 214) hx hb d_MM_readsPart_159 (by decide) ?_
                obtain rfl := o_v hf0
                exact hQ _ _ _ _ hH d_MM_readsPart_214
            · replace hf0 := o_f hc hf0
              refine lv_aload_n hx hb d_MM_readsPart_138 rfl (lv_at hl 1 rfl) ?_
              obtain ⟨M40, hc39, hf0⟩ := o_b hf0
              refine q_cVv (As := []) (rest := []) S hX hH (c_MM_readsLiars l hI hZ M20 hc39) (cw_MM_169 S.2.2.2.2 (Nat.le_trans (Nat.le_of_ble_eq_true rfl) hR.1) (Nat.le_trans (Nat.le_of_ble_eq_true rfl) hR.2)) (rc_MM hX hH hZ) rfl hl.1 rfl (Nat.le_of_ble_eq_true rfl) d_MM_readsPart_139 ⟨Nat.zero_le _, Nat.zero_le _⟩ (fun H locs hH => ?_)
              refine lv_goto (tgt := 214) hx hb d_MM_readsPart_142 (by decide) ?_
              obtain rfl := o_v hf0
              exact hQ _ _ _ _ hH d_MM_readsPart_214
          · replace hf0 := o_f hc hf0
            refine lv_aload_n hx hb d_MM_readsPart_114 rfl (lv_at hl 1 rfl) ?_
            refine g_MM_13 S hX hH hZ d_MM_readsPart_115 ?_
            refine lv_iconst (v := (5 : Int32)) hx hb d_MM_readsPart_118 (by decide) ?_
            refine lv_aload_n hx hb d_MM_readsPart_119 rfl (lv_at hl 1 rfl) ?_
            refine lv_iconst (v := (1 : Int32)) hx hb d_MM_readsPart_120 (by decide) ?_
            refine lv_iconst (v := (4 : Int32)) hx hb d_MM_readsPart_121 (by decide) ?_
            obtain ⟨y43, M42, hc41, hf0⟩ := o_b2 hf0
            refine q_cVi (As := [.int (1 : Int32), .int (4 : Int32)]) (rest := [.int (5 : Int32), .ref (Z.2.2.1 2)]) S hX hH (c_MM_number l hI hZ M17 (1 : Int32) (4 : Int32) hc41) (cw_MM_141 S.2.2.2.2 (Nat.le_trans (Nat.le_of_ble_eq_true rfl) hR.1) (Nat.le_trans (Nat.le_of_ble_eq_true rfl) hR.2)) (rc_MM hX hH hZ) rfl hl.1 rfl (Nat.le_of_ble_eq_true rfl) d_MM_readsPart_122 ⟨Nat.zero_le _, Nat.zero_le _⟩ (fun H locs hH => ?_)
            obtain ⟨M44, hM44, hf0⟩ := o_l hf0
            refine q_iast (j := 5) hx hb hX hI hH (aa_MM_2 hZ) (vp_c (by decide)) (by decide) d_MM_readsPart_125 (fun H locs hH => ?_)
            rw [hM44] at hH
            refine lv_goto (tgt := 214) hx hb d_MM_readsPart_126 (by decide) ?_
            obtain rfl := o_v hf0
            exact hQ _ _ _ _ hH d_MM_readsPart_214
        · replace hf0 := o_f hc hf0
          refine lv_aload_n hx hb d_MM_readsPart_90 rfl (lv_at hl 1 rfl) ?_
          refine g_MM_13 S hX hH hZ d_MM_readsPart_91 ?_
          refine lv_iconst (v := (4 : Int32)) hx hb d_MM_readsPart_94 (by decide) ?_
          refine lv_aload_n hx hb d_MM_readsPart_95 rfl (lv_at hl 1 rfl) ?_
          refine lv_iconst (v := (0 : Int32)) hx hb d_MM_readsPart_96 (by decide) ?_
          refine lv_iconst (v := (3 : Int32)) hx hb d_MM_readsPart_97 (by decide) ?_
          obtain ⟨y47, M46, hc45, hf0⟩ := o_b2 hf0
          refine q_cVi (As := [.int (0 : Int32), .int (3 : Int32)]) (rest := [.int (4 : Int32), .ref (Z.2.2.1 2)]) S hX hH (c_MM_number l hI hZ M14 (0 : Int32) (3 : Int32) hc45) (cw_MM_141 S.2.2.2.2 (Nat.le_trans (Nat.le_of_ble_eq_true rfl) hR.1) (Nat.le_trans (Nat.le_of_ble_eq_true rfl) hR.2)) (rc_MM hX hH hZ) rfl hl.1 rfl (Nat.le_of_ble_eq_true rfl) d_MM_readsPart_98 ⟨Nat.zero_le _, Nat.zero_le _⟩ (fun H locs hH => ?_)
          obtain ⟨M48, hM48, hf0⟩ := o_l hf0
          refine q_iast (j := 4) hx hb hX hI hH (aa_MM_2 hZ) (vp_c (by decide)) (by decide) d_MM_readsPart_101 (fun H locs hH => ?_)
          rw [hM48] at hH
          refine lv_goto (tgt := 214) hx hb d_MM_readsPart_102 (by decide) ?_
          obtain rfl := o_v hf0
          exact hQ _ _ _ _ hH d_MM_readsPart_214
      · replace hf0 := o_f hc hf0
        refine lv_aload_n hx hb d_MM_readsPart_65 rfl (lv_at hl 1 rfl) ?_
        refine g_MM_13 S hX hH hZ d_MM_readsPart_66 ?_
        refine lv_iconst (v := (3 : Int32)) hx hb d_MM_readsPart_69 (by decide) ?_
        refine lv_aload_n hx hb d_MM_readsPart_70 rfl (lv_at hl 1 rfl) ?_
        refine lv_iconst (v := (1 : Int32)) hx hb d_MM_readsPart_71 (by decide) ?_
        refine lv_bipush (v := (8 : Int32)) hx hb d_MM_readsPart_72 (by decide) ?_
        obtain ⟨y51, M50, hc49, hf0⟩ := o_b2 hf0
        refine q_cVi (As := [.int (1 : Int32), .int (8 : Int32)]) (rest := [.int (3 : Int32), .ref (Z.2.2.1 2)]) S hX hH (c_MM_number l hI hZ M11 (1 : Int32) (8 : Int32) hc49) (cw_MM_141 S.2.2.2.2 (Nat.le_trans (Nat.le_of_ble_eq_true rfl) hR.1) (Nat.le_trans (Nat.le_of_ble_eq_true rfl) hR.2)) (rc_MM hX hH hZ) rfl hl.1 rfl (Nat.le_of_ble_eq_true rfl) d_MM_readsPart_74 ⟨Nat.zero_le _, Nat.zero_le _⟩ (fun H locs hH => ?_)
        obtain ⟨M52, hM52, hf0⟩ := o_l hf0
        refine q_iast (j := 3) hx hb hX hI hH (aa_MM_2 hZ) (vp_c (by decide)) (by decide) d_MM_readsPart_77 (fun H locs hH => ?_)
        rw [hM52] at hH
        refine lv_goto (tgt := 214) hx hb d_MM_readsPart_78 (by decide) ?_
        obtain rfl := o_v hf0
        exact hQ _ _ _ _ hH d_MM_readsPart_214
    · replace hf0 := o_f hc hf0
      refine lv_aload_n hx hb d_MM_readsPart_41 rfl (lv_at hl 1 rfl) ?_
      refine g_MM_13 S hX hH hZ d_MM_readsPart_42 ?_
      refine lv_iconst (v := (2 : Int32)) hx hb d_MM_readsPart_45 (by decide) ?_
      refine lv_aload_n hx hb d_MM_readsPart_46 rfl (lv_at hl 1 rfl) ?_
      refine lv_iconst (v := (0 : Int32)) hx hb d_MM_readsPart_47 (by decide) ?_
      refine lv_iconst (v := (3 : Int32)) hx hb d_MM_readsPart_48 (by decide) ?_
      obtain ⟨y55, M54, hc53, hf0⟩ := o_b2 hf0
      refine q_cVi (As := [.int (0 : Int32), .int (3 : Int32)]) (rest := [.int (2 : Int32), .ref (Z.2.2.1 2)]) S hX hH (c_MM_number l hI hZ M8 (0 : Int32) (3 : Int32) hc53) (cw_MM_141 S.2.2.2.2 (Nat.le_trans (Nat.le_of_ble_eq_true rfl) hR.1) (Nat.le_trans (Nat.le_of_ble_eq_true rfl) hR.2)) (rc_MM hX hH hZ) rfl hl.1 rfl (Nat.le_of_ble_eq_true rfl) d_MM_readsPart_49 ⟨Nat.zero_le _, Nat.zero_le _⟩ (fun H locs hH => ?_)
      obtain ⟨M56, hM56, hf0⟩ := o_l hf0
      refine q_iast (j := 2) hx hb hX hI hH (aa_MM_2 hZ) (vp_c (by decide)) (by decide) d_MM_readsPart_52 (fun H locs hH => ?_)
      rw [hM56] at hH
      refine lv_goto (tgt := 214) hx hb d_MM_readsPart_53 (by decide) ?_
      obtain rfl := o_v hf0
      exact hQ _ _ _ _ hH d_MM_readsPart_214
  · replace hf0 := o_f hc hf0
    refine lv_aload_n hx hb d_MM_readsPart_19 rfl (lv_at hl 1 rfl) ?_
    refine g_MM_13 S hX hH hZ d_MM_readsPart_20 ?_
    refine lv_iconst (v := (1 : Int32)) hx hb d_MM_readsPart_23 (by decide) ?_
    refine lv_aload_n hx hb d_MM_readsPart_24 rfl (lv_at hl 1 rfl) ?_
    obtain ⟨y59, M58, hc57, hf0⟩ := o_b2 hf0
    refine q_cVi (As := []) (rest := [.int (1 : Int32), .ref (Z.2.2.1 2)]) S hX hH (c_MM_party l hI hZ M5 hc57) (cw_MM_144 S.2.2.2.2 (Nat.le_trans (Nat.le_of_ble_eq_true rfl) hR.1) (Nat.le_trans (Nat.le_of_ble_eq_true rfl) hR.2)) (rc_MM hX hH hZ) rfl hl.1 rfl (Nat.le_of_ble_eq_true rfl) d_MM_readsPart_25 ⟨Nat.zero_le _, Nat.zero_le _⟩ (fun H locs hH => ?_)
    obtain ⟨M60, hM60, hf0⟩ := o_l hf0
    refine q_iast (j := 1) hx hb hX hI hH (aa_MM_2 hZ) (vp_c (by decide)) (by decide) d_MM_readsPart_28 (fun H locs hH => ?_)
    rw [hM60] at hH
    refine lv_goto (tgt := 214) hx hb d_MM_readsPart_29 (by decide) ?_
    obtain rfl := o_v hf0
    exact hQ _ _ _ _ hH d_MM_readsPart_214
theorem c_MM_readsPart (l : Launch) {Z : WD} (hI : wI Z) (hZ : IsM Z) (M : Mem) {M' : Mem} (hf : f_MM_readsPart M = some M') : Cv l Z y_MM_readsPart b_MM_readsPart 2 none 7 150 [.ref (Z.2.2.1 0)] M M' := by
  refine Met.ofW (cc := b_MM_readsPart) (maxL := 2) (ret := none) (by decide) rfl ?_
  intro p e s m args below meth c s₁ B hml hv
  obtain ⟨rfl, hP, hX⟩ := hv
  have S : CallFix p m c b_MM_readsPart 2 s ([.ref (Z.2.2.1 0)] : List Value).toArray gtb R_MM := ⟨B.exec, B.bytes, hml, findClass_of_methodNamed B.named, fun w hw => atoms_spec (ws := .code y_MM_readsPart b_MM_readsPart 2 none :: gtb) B.pre w (List.mem_cons_of_mem _ hw)⟩
  have hl := lv_entry ([.ref (Z.2.2.1 0)]) (n := 2) (Nat.le_of_ble_eq_true rfl)
  rw [lg_entry_eq]
  exact wk_MM_readsPart hI hZ M S hX ⟨Nat.le_refl _, Nat.le_refl _⟩ (fun pc H locs ls hH d => q_rv S.1 S.2.1 B.returns B.notSynchronized hH rfl d) hf ⟨hP, va_S.rf⟩ hl
noncomputable def f_MM_moves_L3 (a0 n0 : Nat) (a2 n2 : Nat) (x1 : Int32) (x3 : Int32) (x4 : Int32) (M : Mem) : Option ((Int32 × Mem) ⊕ Mem) := if (302 : Int32) ≤ x4 then some (.inr M) else 
    gIn (x1 + x4) n0 (gIn (x3 + x4) n2 (lt1 (upM M a2 ((x3 + x4).toNatClampNeg) (M a0 (x1 + x4).toNatClampNeg)) (fun M3 => some (.inl (x4 + (1 : Int32), M3)))))
noncomputable def f_MM_moves_W3 (a0 n0 : Nat) (a2 n2 : Nat) (x1 : Int32) (x3 : Int32) (u : (Int32 × Mem)) : Option Mem := loop (fun t => f_MM_moves_L3 a0 n0 a2 n2 x1 x3 t.1 t.2) u
noncomputable def f_MM_moves_J3 (a0 n0 : Nat) (a2 n2 : Nat) (M : Mem) (x1 : Int32) (x3 : Int32) (x4 : Int32) : Option (Mem) := bnd (f_MM_moves_W3 a0 n0 a2 n2 x1 x3 (x4, M)) (fun e3 => some e3)
noncomputable def f_MM_moves (a0 n0 : Nat) (a2 n2 : Nat) (M : Mem) (x1 : Int32) (x3 : Int32) : Option Mem := f_MM_moves_J3 a0 n0 a2 n2 M x1 x3 (0 : Int32)
set_option maxHeartbeats 4000000 in
theorem wk_MM_moves {l : Launch} {Z : WD} (hI : wI Z) (a0 n0 : Nat) (a2 n2 : Nat) (M : Mem) (x1 : Int32) (x3 : Int32) (ha0 : AA .int Z a0 n0) (ha2 : AA .int Z a2 n2) {M' : Mem} {p : Program} {e : Env} {R : Room} {s : State} {m : MethodId} {args : Array Value} {below : List Frame} {meth : Method} {c : Code} {H : Heap} {locs : List Loc} {ls : Array Slot} {Q : State → Prop} (S : CallFix p m c b_MM_moves 5 s args gtb R_MM) (hX : wX Z s) (hR : 0 ≤ R.frames ∧ 0 ≤ R.locals) (hQ : ∀ (pc : Nat) (H : Heap) (locs : List Loc) (ls : Array Slot), HW Z M' s H locs → decode b_MM_moves pc = .ok (.return_, 1) → W p l e R s m args below meth c H locs 0 0 Q (F0 m pc ls [])) (hf0 : f_MM_moves a0 n0 a2 n2 M x1 x3 = some M') (hH : HW Z M s H locs) (hl : lv_has ls 5 [(0, .ref (Z.2.2.1 a0)), (1, .int x1), (2, .ref (Z.2.2.1 a2)), (3, .int x3)]) : W p l e R s m args below meth c H locs 0 0 Q (F0 m 0 ls []) := by
  have hx := S.1
  have hb := S.2.1
  have hown := S.2.2.2.1
  have ht := S.2.2.2.2
  unfold f_MM_moves at hf0
  have J3 : ∀ (M : Mem) (x1 : Int32) (x3 : Int32) (x4 : Int32) (H : Heap) (locs : List Loc) (ls : Array Slot), f_MM_moves_J3 a0 n0 a2 n2 M x1 x3 x4 = some M' → HW Z M s H locs → lv_has ls 5 [(0, .ref (Z.2.2.1 a0)), (1, .int x1), (2, .ref (Z.2.2.1 a2)), (3, .int x3), (4, .int x4)] → W p l e R s m args below meth c H locs 0 0 Q (F0 m 3 ls []) := by
    intro M x1 x3 x4 H locs ls hf0 hH hl
    unfold f_MM_moves_J3 at hf0
    obtain ⟨e3, he3, hf0⟩ := o_b hf0
    unfold f_MM_moves_W3 at he3
    refine loop_W (fun t => ∀ (H : Heap) (locs : List Loc) (ls : Array Slot), HW Z t.2 s H locs → lv_has ls 5 [(0, .ref (Z.2.2.1 a0)), (1, .int x1), (2, .ref (Z.2.2.1 a2)), (3, .int x3), (4, .int t.1)] → W p l e R s m args below meth c H locs 0 0 Q (F0 m 3 ls [])) ?_ he3 H locs ls hH hl
    rintro ⟨x4, M⟩ o1 hf1 hG1 hR1 H locs ls hH hl
    replace hH : HW Z M s H locs := hH
    replace hl : lv_has ls 5 [(0, .ref (Z.2.2.1 a0)), (1, .int x1), (2, .ref (Z.2.2.1 a2)), (3, .int x3), (4, .int x4)] := hl
    replace hf1 : f_MM_moves_L3 a0 n0 a2 n2 x1 x3 x4 M = some o1 := hf1
    unfold f_MM_moves_L3 at hf1
    refine lv_iload hx hb d_MM_moves_3 (lv_at hl 4 rfl) ?_
    refine lv_sipush (v := (302 : Int32)) hx hb d_MM_moves_5 (by decide) ?_
    refine lv_icmp_ge (tgt := 29) hx hb d_MM_moves_8 (by decide) (fun hc => ?_) (fun hc => ?_)
    · replace hf1 := o_t hc hf1
      obtain rfl := hR1 _ (o_v hf1).symm
      obtain rfl := o_v hf0
      exact hQ _ _ _ _ hH d_MM_moves_29
    · replace hf1 := o_f hc hf1
      refine lv_aload_n hx hb d_MM_moves_11 rfl (lv_at hl 2 rfl) ?_
      refine lv_iload_n hx hb d_MM_moves_12 rfl (lv_at hl 3 rfl) ?_
      refine lv_iload hx hb d_MM_moves_13 (lv_at hl 4 rfl) ?_
      refine lv_iadd hx hb d_MM_moves_15 ?_
      refine lv_aload_n hx hb d_MM_moves_16 rfl (lv_at hl 0 rfl) ?_
      refine lv_iload_n hx hb d_MM_moves_17 rfl (lv_at hl 1 rfl) ?_
      refine lv_iload hx hb d_MM_moves_18 (lv_at hl 4 rfl) ?_
      refine lv_iadd hx hb d_MM_moves_20 ?_
      obtain ⟨hn1, hf1⟩ := o_in hf1
      refine q_iald (j := (x1 + x4).toNatClampNeg) hx hb hX hH ha0 hn1 rfl d_MM_moves_21 ?_
      obtain ⟨hn2, hf1⟩ := o_in hf1
      obtain ⟨M3, hM3, hf1⟩ := o_l hf1
      refine q_iast (j := (x3 + x4).toNatClampNeg) hx hb hX hI hH ha2 hn2 rfl d_MM_moves_22 (fun H locs hH => ?_)
      rw [hM3] at hH
      refine lv_iinc (v := x4 + (1 : Int32)) (lv' := [(4, .int (x4 + (1 : Int32))), (0, .ref (Z.2.2.1 a0)), (1, .int x1), (2, .ref (Z.2.2.1 a2)), (3, .int x3)]) hx hb d_MM_moves_23 hl (k := 4) rfl rfl (by decide) rfl (fun ls hl => ?_)
      refine lv_goto (tgt := 3) hx hb d_MM_moves_26 (by decide) ?_
      exact hG1 _ (o_v hf1).symm _ _ _ hH (lv_sub hl [1, 2, 3, 4, 0] rfl)
  refine lv_iconst (v := (0 : Int32)) hx hb d_MM_moves_0 (by decide) ?_
  refine lv_istore (lv' := [(4, .int (0 : Int32)), (0, .ref (Z.2.2.1 a0)), (1, .int x1), (2, .ref (Z.2.2.1 a2)), (3, .int x3)]) hx hb d_MM_moves_1 hl (by decide) rfl (fun ls hl => ?_)
  exact J3 _ _ _ _ _ _ _ hf0 hH (lv_sub hl [1, 2, 3, 4, 0] rfl)
theorem c_MM_moves (l : Launch) {Z : WD} (hI : wI Z) (a0 n0 : Nat) (a2 n2 : Nat) (M : Mem) (x1 : Int32) (x3 : Int32) (ha0 : AA .int Z a0 n0) (ha2 : AA .int Z a2 n2) {M' : Mem} (hf : f_MM_moves a0 n0 a2 n2 M x1 x3 = some M') : Cv l Z y_MM_moves b_MM_moves 5 none 0 0 [.ref (Z.2.2.1 a0), .int x1, .ref (Z.2.2.1 a2), .int x3] M M' := by
  refine Met.ofW (cc := b_MM_moves) (maxL := 5) (ret := none) (by decide) rfl ?_
  intro p e s m args below meth c s₁ B hml hv
  obtain ⟨rfl, hP, hX⟩ := hv
  have S : CallFix p m c b_MM_moves 5 s ([.ref (Z.2.2.1 a0), .int x1, .ref (Z.2.2.1 a2), .int x3] : List Value).toArray gtb R_MM := ⟨B.exec, B.bytes, hml, findClass_of_methodNamed B.named, fun w hw => atoms_spec (ws := .code y_MM_moves b_MM_moves 5 none :: gtb) B.pre w (List.mem_cons_of_mem _ hw)⟩
  have hl := lv_entry ([.ref (Z.2.2.1 a0), .int x1, .ref (Z.2.2.1 a2), .int x3]) (n := 5) (Nat.le_of_ble_eq_true rfl)
  rw [lg_entry_eq]
  exact wk_MM_moves hI a0 n0 a2 n2 M x1 x3 ha0 ha2 S hX ⟨Nat.le_refl _, Nat.le_refl _⟩ (fun pc H locs ls hH d => q_rv S.1 S.2.1 B.returns B.notSynchronized hH rfl d) hf ⟨hP, va_S.rf⟩ hl
theorem cw_MM_190 {R : Room} {s : State} {args : Array Value} (ht : ∀ w ∈ gtb, w.before args s = true) (h1 : 0 + 1 ≤ R.frames) (h2 : 8 + (5 + 11) + 0 ≤ R.locals) : CallB R s args R_MM 190 y_MM_moves b_MM_moves 5 none (.code y_MM_moves b_MM_moves 5 none :: gtb) { frames := 0, cells := 0, slots := 0, locals := 0 } 0 0 4 ∧ (Cond.static y_MM_moves).before args s = true := va_cwS 4 ht (gS w5_142 w5_143 w1_10 w5_144) rfl rfl rfl ⟨by decide, by decide, by decide +kernel⟩ ⟨h1, h2⟩
theorem cw_MM_187 {R : Room} {s : State} {args : Array Value} (ht : ∀ w ∈ gtb, w.before args s = true) (h1 : 7 + 1 ≤ R.frames) (h2 : 8 + (2 + 11) + 150 ≤ R.locals) : CallW R s args R_MM R_MM 187 y_MM_readsPart b_MM_readsPart 2 none (.code y_MM_readsPart b_MM_readsPart 2 none :: gtb) { frames := 7, cells := 0, slots := 0, locals := 150 } 0 0 0 := cwV 0 ht (gV w5_106 w5_108 ws_MM_readsPart w1_10 w5_109) rfl rfl rfl ⟨rfl, by decide, by decide, by decide +kernel⟩ ⟨h1, h2⟩
theorem cw_MM_76 {R : Room} {s : State} {args : Array Value} (ht : ∀ w ∈ gtb, w.before args s = true) (h1 : 0 + 1 ≤ R.frames) (h2 : 8 + (2 + 11) + 0 ≤ R.locals) : CallB R s args R_MM 76 y_MM_begins b_MM_begins 2 none (.code y_MM_begins b_MM_begins 2 none :: gtb) { frames := 0, cells := 0, slots := 0, locals := 0 } 0 0 1 ∧ (Cond.static y_MM_begins).before args s = true := va_cwS 1 ht (gS w4_190 w4_191 w1_10 w4_192) rfl rfl rfl ⟨by decide, by decide, by decide +kernel⟩ ⟨h1, h2⟩
noncomputable def f_MM_tell_J105 (M : Mem) : Option (Int32 × Mem) := lt1 (upM M 0 8 (0 : Int32)) (fun M1 => 
    if (bI (f_MM_isRight M1)) = 0 then some ((-2 : Int32) - (M1 0 10), M1) else 
    bnd (f_MM_moves 2 302 1 302 M1 (0 : Int32) (0 : Int32)) (fun M3 => lt1 (upM M3 0 6 (0 : Int32)) (fun M4 => some (M4 1 0, M4))))
noncomputable def f_MM_tell_J81 (M : Mem) : Option (Int32 × Mem) := if (bI (f_MM_isRight M)) = 0 then f_MM_tell_J105 M else 
    bnd2 (f_MM_next M) (fun y7 M6 => 
    if y7 = (-1 : Int32) then f_MM_tell_J105 M6 else bnd (f_MM_fails M6 (1 : Int32) (M6 0 9)) (fun M9 => f_MM_tell_J105 M9))
noncomputable def f_MM_tell_L48 (M : Mem) : Option (Mem ⊕ Mem) := if (bI (f_MM_isRight M)) = 0 then some (.inr M) else 
    bnd2 (f_MM_next M) (fun y12 M11 => 
    if y12 = (59 : Int32) then 
    lt1 (upM M11 0 9 ((M11 0 9) + (1 : Int32))) (fun M13 => bnd (f_MM_readsPart M13) (fun M15 => some (.inl M15))) else some (.inr M11))
noncomputable def f_MM_tell_W48  (u : Mem) : Option Mem := loop (fun t => f_MM_tell_L48 t) u
noncomputable def f_MM_tell_J48 (M : Mem) : Option (Int32 × Mem) := bnd (f_MM_tell_W48 M) (fun e48 => f_MM_tell_J81 e48)
noncomputable def f_MM_tell_J35 (M : Mem) : Option (Int32 × Mem) := bnd2 (f_MM_number M (3 : Int32) (8 : Int32)) (fun y18 M17 => lt1 (upM M17 2 0 y18) (fun M19 => f_MM_tell_J48 M19))
noncomputable def f_MM_tell (M : Mem) : Option (Int32 × Mem) := 
    lt1 (upM M 0 9 (0 : Int32)) (fun M20 => 
    lt1 (upM M20 0 10 (-1 : Int32)) (fun M21 => 
    bnd (f_MM_begins 2 302 M21) (fun M23 => 
    bnd2 (f_MM_takes 0 M23) (fun y26 M25 => 
    if (bI y26) = 0 then bnd (f_MM_fails M25 (1 : Int32) (M25 0 9)) (fun M28 => f_MM_tell_J35 M28) else f_MM_tell_J35 M25))))
set_option maxHeartbeats 4000000 in
theorem wk_MM_tell {l : Launch} {Z : WD} (hI : wI Z) (hZ : IsM Z) (M : Mem) {r : Int32} {M' : Mem} {p : Program} {e : Env} {R : Room} {s : State} {m : MethodId} {args : Array Value} {below : List Frame} {meth : Method} {c : Code} {H : Heap} {locs : List Loc} {ls : Array Slot} {Q : State → Prop} (S : CallFix p m c b_MM_tell 1 s args gtb R_MM) (hX : wX Z s) (hR : 8 ≤ R.frames ∧ 171 ≤ R.locals) (hQ : ∀ (pc : Nat) (H : Heap) (locs : List Loc) (ls : Array Slot), HW Z M' s H locs → decode b_MM_tell pc = .ok (.ireturn, 1) → W p l e R s m args below meth c H locs 0 0 Q (F0 m pc ls [.int r])) (hf0 : f_MM_tell M = some (r, M')) (hH : HW Z M s H locs) (hl : lv_has ls 1 [(0, .ref (Z.2.2.1 0))]) : W p l e R s m args below meth c H locs 0 0 Q (F0 m 0 ls []) := by
  have hx := S.1
  have hb := S.2.1
  have hown := S.2.2.2.1
  have ht := S.2.2.2.2
  unfold f_MM_tell at hf0
  have J105 : ∀ (M : Mem) (H : Heap) (locs : List Loc) (ls : Array Slot), f_MM_tell_J105 M = some (r, M') → HW Z M s H locs → lv_has ls 1 [(0, .ref (Z.2.2.1 0))] → W p l e R s m args below meth c H locs 0 0 Q (F0 m 105 ls []) := by
    intro M H locs ls hf0 hH hl
    unfold f_MM_tell_J105 at hf0
    refine lv_aload_n hx hb d_MM_tell_105 rfl (lv_at hl 0 rfl) ?_
    refine lv_iconst (v := (0 : Int32)) hx hb d_MM_tell_106 (by decide) ?_
    obtain ⟨M1, hM1, hf0⟩ := o_l hf0
    refine s_MM_80 S hX hI hH hZ d_MM_tell_107 (fun H locs hH => ?_)
    rw [hM1] at hH
    refine lv_aload_n hx hb d_MM_tell_110 rfl (lv_at hl 0 rfl) ?_
    refine q_cVi (As := []) (rest := []) S hX hH (c_MM_isRight l hI hZ M1 rfl) (cw_MM_97 S.2.2.2.2 (Nat.le_trans (Nat.le_of_ble_eq_true rfl) hR.1) (Nat.le_trans (Nat.le_of_ble_eq_true rfl) hR.2)) (rc_MM hX hH hZ) rfl hl.1 rfl (Nat.le_of_ble_eq_true rfl) d_MM_tell_111 ⟨Nat.zero_le _, Nat.zero_le _⟩ (fun H locs hH => ?_)
    refine lv_if_ne (tgt := 125) hx hb d_MM_tell_114 (by decide) (fun hc => ?_) (fun hc => ?_)
    · replace hf0 := o_f hc hf0
      refine lv_aload_n hx hb d_MM_tell_125 rfl (lv_at hl 0 rfl) ?_
      refine g_MM_13 S hX hH hZ d_MM_tell_126 ?_
      refine lv_iconst (v := (0 : Int32)) hx hb d_MM_tell_129 (by decide) ?_
      refine lv_aload_n hx hb d_MM_tell_130 rfl (lv_at hl 0 rfl) ?_
      refine g_MM_9 S hX hH hZ d_MM_tell_131 ?_
      refine lv_iconst (v := (0 : Int32)) hx hb d_MM_tell_134 (by decide) ?_
      obtain ⟨M3, hc2, hf0⟩ := o_b hf0
      refine q_cSv (As := [.ref (Z.2.2.1 2), .int (0 : Int32), .ref (Z.2.2.1 1), .int (0 : Int32)]) (rest := []) S hX hH (c_MM_moves l hI 2 302 1 302 M1 (0 : Int32) (0 : Int32) (aa_MM_2 hZ) (aa_MM_1 hZ) hc2) (cw_MM_190 S.2.2.2.2 (Nat.le_trans (Nat.le_of_ble_eq_true rfl) hR.1) (Nat.le_trans (Nat.le_of_ble_eq_true rfl) hR.2)) rfl hl.1 rfl (Nat.le_of_ble_eq_true rfl) d_MM_tell_135 ⟨Nat.zero_le _, Nat.zero_le _⟩ (fun H locs hH => ?_)
      refine lv_aload_n hx hb d_MM_tell_138 rfl (lv_at hl 0 rfl) ?_
      refine lv_iconst (v := (0 : Int32)) hx hb d_MM_tell_139 (by decide) ?_
      obtain ⟨M4, hM4, hf0⟩ := o_l hf0
      refine s_MM_194 S hX hI hH hZ d_MM_tell_140 (fun H locs hH => ?_)
      rw [hM4] at hH
      refine lv_aload_n hx hb d_MM_tell_143 rfl (lv_at hl 0 rfl) ?_
      refine g_MM_9 S hX hH hZ d_MM_tell_144 ?_
      refine lv_iconst (v := (0 : Int32)) hx hb d_MM_tell_147 (by decide) ?_
      refine q_iald (j := 0) hx hb hX hH (aa_MM_1 hZ) (vp_c (by decide)) (by decide) d_MM_tell_148 ?_
      obtain ⟨rfl, rfl⟩ := o_p hf0
      exact hQ _ _ _ _ hH d_MM_tell_149
    · replace hf0 := o_t hc hf0
      refine lv_bipush (v := (-2 : Int32)) hx hb d_MM_tell_117 (by decide) ?_
      refine lv_aload_n hx hb d_MM_tell_119 rfl (lv_at hl 0 rfl) ?_
      refine g_MM_94 S hX hH hZ d_MM_tell_120 ?_
      refine lv_isub hx hb d_MM_tell_123 ?_
      obtain ⟨rfl, rfl⟩ := o_p hf0
      exact hQ _ _ _ _ hH d_MM_tell_124
  have J81 : ∀ (M : Mem) (H : Heap) (locs : List Loc) (ls : Array Slot), f_MM_tell_J81 M = some (r, M') → HW Z M s H locs → lv_has ls 1 [(0, .ref (Z.2.2.1 0))] → W p l e R s m args below meth c H locs 0 0 Q (F0 m 81 ls []) := by
    intro M H locs ls hf0 hH hl
    unfold f_MM_tell_J81 at hf0
    refine lv_aload_n hx hb d_MM_tell_81 rfl (lv_at hl 0 rfl) ?_
    refine q_cVi (As := []) (rest := []) S hX hH (c_MM_isRight l hI hZ M rfl) (cw_MM_97 S.2.2.2.2 (Nat.le_trans (Nat.le_of_ble_eq_true rfl) hR.1) (Nat.le_trans (Nat.le_of_ble_eq_true rfl) hR.2)) (rc_MM hX hH hZ) rfl hl.1 rfl (Nat.le_of_ble_eq_true rfl) d_MM_tell_82 ⟨Nat.zero_le _, Nat.zero_le _⟩ (fun H locs hH => ?_)
    refine lv_if_eq (tgt := 105) hx hb d_MM_tell_85 (by decide) (fun hc => ?_) (fun hc => ?_)
    · replace hf0 := o_t hc hf0
      exact J105 _ _ _ _ hf0 hH (lv_sub hl [0] rfl)
    · replace hf0 := o_f hc hf0
      refine lv_aload_n hx hb d_MM_tell_88 rfl (lv_at hl 0 rfl) ?_
      obtain ⟨y7, M6, hc5, hf0⟩ := o_b2 hf0
      refine q_cVi (As := []) (rest := []) S hX hH (c_MM_next l hI hZ M hc5) (cw_MM_101 S.2.2.2.2 (Nat.le_trans (Nat.le_of_ble_eq_true rfl) hR.1) (Nat.le_trans (Nat.le_of_ble_eq_true rfl) hR.2)) (rc_MM hX hH hZ) rfl hl.1 rfl (Nat.le_of_ble_eq_true rfl) d_MM_tell_89 ⟨Nat.zero_le _, Nat.zero_le _⟩ (fun H locs hH => ?_)
      refine lv_iconst (v := (-1 : Int32)) hx hb d_MM_tell_92 (by decide) ?_
      refine lv_icmp_eq (tgt := 105) hx hb d_MM_tell_93 (by decide) (fun hc => ?_) (fun hc => ?_)
      · replace hf0 := o_t hc hf0
        exact J105 _ _ _ _ hf0 hH (lv_sub hl [0] rfl)
      · replace hf0 := o_f hc hf0
        refine lv_aload_n hx hb d_MM_tell_96 rfl (lv_at hl 0 rfl) ?_
        refine lv_iconst (v := (1 : Int32)) hx hb d_MM_tell_97 (by decide) ?_
        refine lv_aload_n hx hb d_MM_tell_98 rfl (lv_at hl 0 rfl) ?_
        refine g_MM_87 S hX hH hZ d_MM_tell_99 ?_
        obtain ⟨M9, hc8, hf0⟩ := o_b hf0
        refine q_cVv (As := [.int (1 : Int32), .int (M6 0 9)]) (rest := []) S hX hH (c_MM_fails l hI hZ M6 (1 : Int32) (M6 0 9) hc8) (cw_MM_128 S.2.2.2.2 (Nat.le_trans (Nat.le_of_ble_eq_true rfl) hR.1) (Nat.le_trans (Nat.le_of_ble_eq_true rfl) hR.2)) (rc_MM hX hH hZ) rfl hl.1 rfl (Nat.le_of_ble_eq_true rfl) d_MM_tell_102 ⟨Nat.zero_le _, Nat.zero_le _⟩ (fun H locs hH => ?_)
        exact J105 _ _ _ _ hf0 hH (lv_sub hl [0] rfl)
  have J48 : ∀ (M : Mem) (H : Heap) (locs : List Loc) (ls : Array Slot), f_MM_tell_J48 M = some (r, M') → HW Z M s H locs → lv_has ls 1 [(0, .ref (Z.2.2.1 0))] → W p l e R s m args below meth c H locs 0 0 Q (F0 m 48 ls []) := by
    intro M H locs ls hf0 hH hl
    unfold f_MM_tell_J48 at hf0
    obtain ⟨e48, he48, hf0⟩ := o_b hf0
    have KX48 : ∀ (H : Heap) (locs : List Loc) (ls : Array Slot), HW Z e48 s H locs → lv_has ls 1 [(0, .ref (Z.2.2.1 0))] → W p l e R s m args below meth c H locs 0 0 Q (F0 m 81 ls []) := by
      intro H locs ls hH hl
      exact J81 _ _ _ _ hf0 hH (lv_sub hl [0] rfl)
    unfold f_MM_tell_W48 at he48
    refine loop_W (fun t => ∀ (H : Heap) (locs : List Loc) (ls : Array Slot), HW Z t s H locs → lv_has ls 1 [(0, .ref (Z.2.2.1 0))] → W p l e R s m args below meth c H locs 0 0 Q (F0 m 48 ls [])) ?_ he48 H locs ls hH hl
    rintro M o1 hf1 hG1 hR1 H locs ls hH hl
    replace hH : HW Z M s H locs := hH
    replace hl : lv_has ls 1 [(0, .ref (Z.2.2.1 0))] := hl
    replace hf1 : f_MM_tell_L48 M = some o1 := hf1
    unfold f_MM_tell_L48 at hf1
    refine lv_aload_n hx hb d_MM_tell_48 rfl (lv_at hl 0 rfl) ?_
    refine q_cVi (As := []) (rest := []) S hX hH (c_MM_isRight l hI hZ M rfl) (cw_MM_97 S.2.2.2.2 (Nat.le_trans (Nat.le_of_ble_eq_true rfl) hR.1) (Nat.le_trans (Nat.le_of_ble_eq_true rfl) hR.2)) (rc_MM hX hH hZ) rfl hl.1 rfl (Nat.le_of_ble_eq_true rfl) d_MM_tell_49 ⟨Nat.zero_le _, Nat.zero_le _⟩ (fun H locs hH => ?_)
    refine lv_if_eq (tgt := 81) hx hb d_MM_tell_52 (by decide) (fun hc => ?_) (fun hc => ?_)
    · replace hf1 := o_t hc hf1
      obtain rfl := hR1 _ (o_v hf1).symm
      exact KX48 _ _ _ hH (lv_sub hl [0] rfl)
    · replace hf1 := o_f hc hf1
      refine lv_aload_n hx hb d_MM_tell_55 rfl (lv_at hl 0 rfl) ?_
      obtain ⟨y12, M11, hc10, hf1⟩ := o_b2 hf1
      refine q_cVi (As := []) (rest := []) S hX hH (c_MM_next l hI hZ M hc10) (cw_MM_101 S.2.2.2.2 (Nat.le_trans (Nat.le_of_ble_eq_true rfl) hR.1) (Nat.le_trans (Nat.le_of_ble_eq_true rfl) hR.2)) (rc_MM hX hH hZ) rfl hl.1 rfl (Nat.le_of_ble_eq_true rfl) d_MM_tell_56 ⟨Nat.zero_le _, Nat.zero_le _⟩ (fun H locs hH => ?_)
      refine lv_bipush (v := (59 : Int32)) hx hb d_MM_tell_59 (by decide) ?_
      refine lv_icmp_ne (tgt := 81) hx hb d_MM_tell_61 (by decide) (fun hc => ?_) (fun hc => ?_)
      · replace hf1 := o_f hc hf1
        obtain rfl := hR1 _ (o_v hf1).symm
        exact KX48 _ _ _ hH (lv_sub hl [0] rfl)
      · replace hf1 := o_t hc hf1
        refine lv_aload_n hx hb d_MM_tell_64 rfl (lv_at hl 0 rfl) ?_
        refine lv_dup hx hb d_MM_tell_65 rfl ?_
        refine g_MM_87 S hX hH hZ d_MM_tell_66 ?_
        refine lv_iconst (v := (1 : Int32)) hx hb d_MM_tell_69 (by decide) ?_
        refine lv_iadd hx hb d_MM_tell_70 ?_
        obtain ⟨M13, hM13, hf1⟩ := o_l hf1
        refine s_MM_87 S hX hI hH hZ d_MM_tell_71 (fun H locs hH => ?_)
        rw [hM13] at hH
        refine lv_aload_n hx hb d_MM_tell_74 rfl (lv_at hl 0 rfl) ?_
        obtain ⟨M15, hc14, hf1⟩ := o_b hf1
        refine q_cVv (As := []) (rest := []) S hX hH (c_MM_readsPart l hI hZ M13 hc14) (cw_MM_187 S.2.2.2.2 (Nat.le_trans (Nat.le_of_ble_eq_true rfl) hR.1) (Nat.le_trans (Nat.le_of_ble_eq_true rfl) hR.2)) (rc_MM hX hH hZ) rfl hl.1 rfl (Nat.le_of_ble_eq_true rfl) d_MM_tell_75 ⟨Nat.zero_le _, Nat.zero_le _⟩ (fun H locs hH => ?_)
        refine lv_goto (tgt := 48) hx hb d_MM_tell_78 (by decide) ?_
        exact hG1 _ (o_v hf1).symm _ _ _ hH (lv_sub hl [0] rfl)
  have J35 : ∀ (M : Mem) (H : Heap) (locs : List Loc) (ls : Array Slot), f_MM_tell_J35 M = some (r, M') → HW Z M s H locs → lv_has ls 1 [(0, .ref (Z.2.2.1 0))] → W p l e R s m args below meth c H locs 0 0 Q (F0 m 35 ls []) := by
    intro M H locs ls hf0 hH hl
    unfold f_MM_tell_J35 at hf0
    refine lv_aload_n hx hb d_MM_tell_35 rfl (lv_at hl 0 rfl) ?_
    refine g_MM_13 S hX hH hZ d_MM_tell_36 ?_
    refine lv_iconst (v := (0 : Int32)) hx hb d_MM_tell_39 (by decide) ?_
    refine lv_aload_n hx hb d_MM_tell_40 rfl (lv_at hl 0 rfl) ?_
    refine lv_iconst (v := (3 : Int32)) hx hb d_MM_tell_41 (by decide) ?_
    refine lv_bipush (v := (8 : Int32)) hx hb d_MM_tell_42 (by decide) ?_
    obtain ⟨y18, M17, hc16, hf0⟩ := o_b2 hf0
    refine q_cVi (As := [.int (3 : Int32), .int (8 : Int32)]) (rest := [.int (0 : Int32), .ref (Z.2.2.1 2)]) S hX hH (c_MM_number l hI hZ M (3 : Int32) (8 : Int32) hc16) (cw_MM_141 S.2.2.2.2 (Nat.le_trans (Nat.le_of_ble_eq_true rfl) hR.1) (Nat.le_trans (Nat.le_of_ble_eq_true rfl) hR.2)) (rc_MM hX hH hZ) rfl hl.1 rfl (Nat.le_of_ble_eq_true rfl) d_MM_tell_44 ⟨Nat.zero_le _, Nat.zero_le _⟩ (fun H locs hH => ?_)
    obtain ⟨M19, hM19, hf0⟩ := o_l hf0
    refine q_iast (j := 0) hx hb hX hI hH (aa_MM_2 hZ) (vp_c (by decide)) (by decide) d_MM_tell_47 (fun H locs hH => ?_)
    rw [hM19] at hH
    exact J48 _ _ _ _ hf0 hH (lv_sub hl [0] rfl)
  refine lv_aload_n hx hb d_MM_tell_0 rfl (lv_at hl 0 rfl) ?_
  refine lv_iconst (v := (0 : Int32)) hx hb d_MM_tell_1 (by decide) ?_
  obtain ⟨M20, hM20, hf0⟩ := o_l hf0
  refine s_MM_87 S hX hI hH hZ d_MM_tell_2 (fun H locs hH => ?_)
  rw [hM20] at hH
  refine lv_aload_n hx hb d_MM_tell_5 rfl (lv_at hl 0 rfl) ?_
  refine lv_iconst (v := (-1 : Int32)) hx hb d_MM_tell_6 (by decide) ?_
  obtain ⟨M21, hM21, hf0⟩ := o_l hf0
  refine s_MM_94 S hX hI hH hZ d_MM_tell_7 (fun H locs hH => ?_)
  rw [hM21] at hH
  refine lv_aload_n hx hb d_MM_tell_10 rfl (lv_at hl 0 rfl) ?_
  refine g_MM_13 S hX hH hZ d_MM_tell_11 ?_
  obtain ⟨M23, hc22, hf0⟩ := o_b hf0
  refine q_cSv (As := [.ref (Z.2.2.1 2)]) (rest := []) S hX hH (c_MM_begins l hI 2 302 M21 (aa_MM_2 hZ) hc22) (cw_MM_76 S.2.2.2.2 (Nat.le_trans (Nat.le_of_ble_eq_true rfl) hR.1) (Nat.le_trans (Nat.le_of_ble_eq_true rfl) hR.2)) rfl hl.1 rfl (Nat.le_of_ble_eq_true rfl) d_MM_tell_14 ⟨Nat.zero_le _, Nat.zero_le _⟩ (fun H locs hH => ?_)
  refine lv_aload_n hx hb d_MM_tell_17 rfl (lv_at hl 0 rfl) ?_
  refine va_ldcS hx hb hown (hX.2.2.1 ("MarkedChainsModel", 185, "play", 0) (by decide)) d_MM_tell_18 ?_
  obtain ⟨y26, M25, hc24, hf0⟩ := o_b2 hf0
  refine q_cVi (As := [.ref (Z.2.2.2.2.2.1 0)]) (rest := []) S hX hH (c_MM_takes l hI hZ 0 M23 (by decide) hc24) (cw_MM_156 S.2.2.2.2 (Nat.le_trans (Nat.le_of_ble_eq_true rfl) hR.1) (Nat.le_trans (Nat.le_of_ble_eq_true rfl) hR.2)) (rc_MM hX hH hZ) rfl hl.1 rfl (Nat.le_of_ble_eq_true rfl) d_MM_tell_20 ⟨Nat.zero_le _, Nat.zero_le _⟩ (fun H locs hH => ?_)
  refine lv_if_ne (tgt := 35) hx hb d_MM_tell_23 (by decide) (fun hc => ?_) (fun hc => ?_)
  · replace hf0 := o_f hc hf0
    exact J35 _ _ _ _ hf0 hH (lv_sub hl [0] rfl)
  · replace hf0 := o_t hc hf0
    refine lv_aload_n hx hb d_MM_tell_26 rfl (lv_at hl 0 rfl) ?_
    refine lv_iconst (v := (1 : Int32)) hx hb d_MM_tell_27 (by decide) ?_
    refine lv_aload_n hx hb d_MM_tell_28 rfl (lv_at hl 0 rfl) ?_
    refine g_MM_87 S hX hH hZ d_MM_tell_29 ?_
    obtain ⟨M28, hc27, hf0⟩ := o_b hf0
    refine q_cVv (As := [.int (1 : Int32), .int (M25 0 9)]) (rest := []) S hX hH (c_MM_fails l hI hZ M25 (1 : Int32) (M25 0 9) hc27) (cw_MM_128 S.2.2.2.2 (Nat.le_trans (Nat.le_of_ble_eq_true rfl) hR.1) (Nat.le_trans (Nat.le_of_ble_eq_true rfl) hR.2)) (rc_MM hX hH hZ) rfl hl.1 rfl (Nat.le_of_ble_eq_true rfl) d_MM_tell_32 ⟨Nat.zero_le _, Nat.zero_le _⟩ (fun H locs hH => ?_)
    exact J35 _ _ _ _ hf0 hH (lv_sub hl [0] rfl)
theorem c_MM_tell (l : Launch) {Z : WD} (hI : wI Z) (hZ : IsM Z) (M : Mem) {r : Int32} {M' : Mem} (hf : f_MM_tell M = some (r, M')) : Ci l Z y_MM_tell b_MM_tell 1 (some .int) 8 171 [.ref (Z.2.2.1 0)] M M' r := by
  refine Met.ofW (cc := b_MM_tell) (maxL := 1) (ret := (some .int)) (by decide) rfl ?_
  intro p e s m args below meth c s₁ B hml hv
  obtain ⟨rfl, hP, hX⟩ := hv
  have S : CallFix p m c b_MM_tell 1 s ([.ref (Z.2.2.1 0)] : List Value).toArray gtb R_MM := ⟨B.exec, B.bytes, hml, findClass_of_methodNamed B.named, fun w hw => atoms_spec (ws := .code y_MM_tell b_MM_tell 1 (some .int) :: gtb) B.pre w (List.mem_cons_of_mem _ hw)⟩
  have hl := lv_entry ([.ref (Z.2.2.1 0)]) (n := 1) (Nat.le_of_ble_eq_true rfl)
  rw [lg_entry_eq]
  exact wk_MM_tell hI hZ M S hX ⟨Nat.le_refl _, Nat.le_refl _⟩ (fun pc H locs ls hH d => q_ri S.1 S.2.1 B.returns B.notSynchronized hH rfl rfl d) hf ⟨hP, va_S.rf⟩ hl
noncomputable def f_MM_undo (M : Mem) : Option (Int32 × Mem) := 
    if (M 0 6) = 0 then some ((-1 : Int32), M) else 
    lt1 (upM M 0 6 ((M 0 6) - (1 : Int32))) (fun M1 => 
    bnd (f_MM_moves 4 3020 1 302 M1 ((302 : Int32) * (M1 0 6)) (0 : Int32)) (fun M3 => some (M3 0 6, M3)))
set_option maxHeartbeats 4000000 in
theorem wk_MM_undo {l : Launch} {Z : WD} (hI : wI Z) (hZ : IsM Z) (M : Mem) {r : Int32} {M' : Mem} {p : Program} {e : Env} {R : Room} {s : State} {m : MethodId} {args : Array Value} {below : List Frame} {meth : Method} {c : Code} {H : Heap} {locs : List Loc} {ls : Array Slot} {Q : State → Prop} (S : CallFix p m c b_MM_undo 1 s args gtb R_MM) (hX : wX Z s) (hR : 1 ≤ R.frames ∧ 24 ≤ R.locals) (hQ : ∀ (pc : Nat) (H : Heap) (locs : List Loc) (ls : Array Slot), HW Z M' s H locs → decode b_MM_undo pc = .ok (.ireturn, 1) → W p l e R s m args below meth c H locs 0 0 Q (F0 m pc ls [.int r])) (hf0 : f_MM_undo M = some (r, M')) (hH : HW Z M s H locs) (hl : lv_has ls 1 [(0, .ref (Z.2.2.1 0))]) : W p l e R s m args below meth c H locs 0 0 Q (F0 m 0 ls []) := by
  have hx := S.1
  have hb := S.2.1
  have hown := S.2.2.2.1
  have ht := S.2.2.2.2
  unfold f_MM_undo at hf0
  refine lv_aload_n hx hb d_MM_undo_0 rfl (lv_at hl 0 rfl) ?_
  refine g_MM_194 S hX hH hZ d_MM_undo_1 ?_
  refine lv_if_ne (tgt := 9) hx hb d_MM_undo_4 (by decide) (fun hc => ?_) (fun hc => ?_)
  · replace hf0 := o_f hc hf0
    refine lv_aload_n hx hb d_MM_undo_9 rfl (lv_at hl 0 rfl) ?_
    refine lv_dup hx hb d_MM_undo_10 rfl ?_
    refine g_MM_194 S hX hH hZ d_MM_undo_11 ?_
    refine lv_iconst (v := (1 : Int32)) hx hb d_MM_undo_14 (by decide) ?_
    refine lv_isub hx hb d_MM_undo_15 ?_
    obtain ⟨M1, hM1, hf0⟩ := o_l hf0
    refine s_MM_194 S hX hI hH hZ d_MM_undo_16 (fun H locs hH => ?_)
    rw [hM1] at hH
    refine lv_aload_n hx hb d_MM_undo_19 rfl (lv_at hl 0 rfl) ?_
    refine g_MM_19 S hX hH hZ d_MM_undo_20 ?_
    refine lv_sipush (v := (302 : Int32)) hx hb d_MM_undo_23 (by decide) ?_
    refine lv_aload_n hx hb d_MM_undo_26 rfl (lv_at hl 0 rfl) ?_
    refine g_MM_194 S hX hH hZ d_MM_undo_27 ?_
    refine lv_imul hx hb d_MM_undo_30 ?_
    refine lv_aload_n hx hb d_MM_undo_31 rfl (lv_at hl 0 rfl) ?_
    refine g_MM_9 S hX hH hZ d_MM_undo_32 ?_
    refine lv_iconst (v := (0 : Int32)) hx hb d_MM_undo_35 (by decide) ?_
    obtain ⟨M3, hc2, hf0⟩ := o_b hf0
    refine q_cSv (As := [.ref (Z.2.2.1 4), .int ((302 : Int32) * (M1 0 6)), .ref (Z.2.2.1 1), .int (0 : Int32)]) (rest := []) S hX hH (c_MM_moves l hI 4 3020 1 302 M1 ((302 : Int32) * (M1 0 6)) (0 : Int32) (aa_MM_4 hZ) (aa_MM_1 hZ) hc2) (cw_MM_190 S.2.2.2.2 (Nat.le_trans (Nat.le_of_ble_eq_true rfl) hR.1) (Nat.le_trans (Nat.le_of_ble_eq_true rfl) hR.2)) rfl hl.1 rfl (Nat.le_of_ble_eq_true rfl) d_MM_undo_36 ⟨Nat.zero_le _, Nat.zero_le _⟩ (fun H locs hH => ?_)
    refine lv_aload_n hx hb d_MM_undo_39 rfl (lv_at hl 0 rfl) ?_
    refine g_MM_194 S hX hH hZ d_MM_undo_40 ?_
    obtain ⟨rfl, rfl⟩ := o_p hf0
    exact hQ _ _ _ _ hH d_MM_undo_43
  · replace hf0 := o_t hc hf0
    refine lv_iconst (v := (-1 : Int32)) hx hb d_MM_undo_7 (by decide) ?_
    obtain ⟨rfl, rfl⟩ := o_p hf0
    exact hQ _ _ _ _ hH d_MM_undo_8
theorem c_MM_undo (l : Launch) {Z : WD} (hI : wI Z) (hZ : IsM Z) (M : Mem) {r : Int32} {M' : Mem} (hf : f_MM_undo M = some (r, M')) : Ci l Z y_MM_undo b_MM_undo 1 (some .int) 1 24 [.ref (Z.2.2.1 0)] M M' r := by
  refine Met.ofW (cc := b_MM_undo) (maxL := 1) (ret := (some .int)) (by decide) rfl ?_
  intro p e s m args below meth c s₁ B hml hv
  obtain ⟨rfl, hP, hX⟩ := hv
  have S : CallFix p m c b_MM_undo 1 s ([.ref (Z.2.2.1 0)] : List Value).toArray gtb R_MM := ⟨B.exec, B.bytes, hml, findClass_of_methodNamed B.named, fun w hw => atoms_spec (ws := .code y_MM_undo b_MM_undo 1 (some .int) :: gtb) B.pre w (List.mem_cons_of_mem _ hw)⟩
  have hl := lv_entry ([.ref (Z.2.2.1 0)]) (n := 1) (Nat.le_of_ble_eq_true rfl)
  rw [lg_entry_eq]
  exact wk_MM_undo hI hZ M S hX ⟨Nat.le_refl _, Nat.le_refl _⟩ (fun pc H locs ls hH d => q_ri S.1 S.2.1 B.returns B.notSynchronized hH rfl rfl d) hf ⟨hP, va_S.rf⟩ hl
noncomputable def f_MM_keep (M : Mem) (x1 : Int32) : Option (Int32 × Mem) := 
    if (bI (f_MM_in x1.toInt64 (0 : Int64) (1 : Int64))) = 0 then some ((-1 : Int32), M) else 
    bnd (f_MM_moves 1 302 5 604 M (0 : Int32) ((302 : Int32) * x1)) (fun M2 => 
    gIn x1 2 (lt1 (upM M2 6 x1.toNatClampNeg (vp_nar .boolean (1 : Int32))) (fun M4 => some (M4 1 7, M4))))
set_option maxHeartbeats 4000000 in
theorem wk_MM_keep {l : Launch} {Z : WD} (hI : wI Z) (hZ : IsM Z) (M : Mem) (x1 : Int32) {r : Int32} {M' : Mem} {p : Program} {e : Env} {R : Room} {s : State} {m : MethodId} {args : Array Value} {below : List Frame} {meth : Method} {c : Code} {H : Heap} {locs : List Loc} {ls : Array Slot} {Q : State → Prop} (S : CallFix p m c b_MM_keep 2 s args gtb R_MM) (hX : wX Z s) (hR : 1 ≤ R.frames ∧ 25 ≤ R.locals) (hQ : ∀ (pc : Nat) (H : Heap) (locs : List Loc) (ls : Array Slot), HW Z M' s H locs → decode b_MM_keep pc = .ok (.ireturn, 1) → W p l e R s m args below meth c H locs 0 0 Q (F0 m pc ls [.int r])) (hf0 : f_MM_keep M x1 = some (r, M')) (hH : HW Z M s H locs) (hl : lv_has ls 2 [(0, .ref (Z.2.2.1 0)), (1, .int x1)]) : W p l e R s m args below meth c H locs 0 0 Q (F0 m 0 ls []) := by
  have hx := S.1
  have hb := S.2.1
  have hown := S.2.2.2.1
  have ht := S.2.2.2.2
  unfold f_MM_keep at hf0
  refine lv_iload_n hx hb d_MM_keep_0 rfl (lv_at hl 1 rfl) ?_
  refine lv_i2l hx hb d_MM_keep_1 rfl ?_
  refine lv_lconst (v := (0 : Int64)) hx hb d_MM_keep_2 (by decide) ?_
  refine lv_lconst (v := (1 : Int64)) hx hb d_MM_keep_3 (by decide) ?_
  refine q_cSi (As := [.long x1.toInt64, .long (0 : Int64), .long (1 : Int64)]) (rest := []) S hX hH (c_MM_in l hI M x1.toInt64 (0 : Int64) (1 : Int64) rfl) (cw_MM_108 S.2.2.2.2 (Nat.le_trans (Nat.le_of_ble_eq_true rfl) hR.1) (Nat.le_trans (Nat.le_of_ble_eq_true rfl) hR.2)) rfl hl.1 rfl (Nat.le_of_ble_eq_true rfl) d_MM_keep_4 ⟨Nat.zero_le _, Nat.zero_le _⟩ (fun H locs hH => ?_)
  refine lv_if_ne (tgt := 12) hx hb d_MM_keep_7 (by decide) (fun hc => ?_) (fun hc => ?_)
  · replace hf0 := o_f hc hf0
    refine lv_aload_n hx hb d_MM_keep_12 rfl (lv_at hl 0 rfl) ?_
    refine g_MM_9 S hX hH hZ d_MM_keep_13 ?_
    refine lv_iconst (v := (0 : Int32)) hx hb d_MM_keep_16 (by decide) ?_
    refine lv_aload_n hx hb d_MM_keep_17 rfl (lv_at hl 0 rfl) ?_
    refine g_MM_22 S hX hH hZ d_MM_keep_18 ?_
    refine lv_sipush (v := (302 : Int32)) hx hb d_MM_keep_21 (by decide) ?_
    refine lv_iload_n hx hb d_MM_keep_24 rfl (lv_at hl 1 rfl) ?_
    refine lv_imul hx hb d_MM_keep_25 ?_
    obtain ⟨M2, hc1, hf0⟩ := o_b hf0
    refine q_cSv (As := [.ref (Z.2.2.1 1), .int (0 : Int32), .ref (Z.2.2.1 5), .int ((302 : Int32) * x1)]) (rest := []) S hX hH (c_MM_moves l hI 1 302 5 604 M (0 : Int32) ((302 : Int32) * x1) (aa_MM_1 hZ) (aa_MM_5 hZ) hc1) (cw_MM_190 S.2.2.2.2 (Nat.le_trans (Nat.le_of_ble_eq_true rfl) hR.1) (Nat.le_trans (Nat.le_of_ble_eq_true rfl) hR.2)) rfl hl.1 rfl (Nat.le_of_ble_eq_true rfl) d_MM_keep_26 ⟨Nat.zero_le _, Nat.zero_le _⟩ (fun H locs hH => ?_)
    refine lv_aload_n hx hb d_MM_keep_29 rfl (lv_at hl 0 rfl) ?_
    refine g_MM_25 S hX hH hZ d_MM_keep_30 ?_
    refine lv_iload_n hx hb d_MM_keep_33 rfl (lv_at hl 1 rfl) ?_
    refine lv_iconst (v := (1 : Int32)) hx hb d_MM_keep_34 (by decide) ?_
    obtain ⟨hn3, hf0⟩ := o_in hf0
    obtain ⟨M4, hM4, hf0⟩ := o_l hf0
    refine q_zast (j := x1.toNatClampNeg) hx hb hX hI hH (aa_MM_6 hZ) hn3 rfl d_MM_keep_35 (fun H locs hH => ?_)
    rw [hM4] at hH
    refine lv_aload_n hx hb d_MM_keep_36 rfl (lv_at hl 0 rfl) ?_
    refine g_MM_9 S hX hH hZ d_MM_keep_37 ?_
    refine lv_bipush (v := (7 : Int32)) hx hb d_MM_keep_40 (by decide) ?_
    refine q_iald (j := 7) hx hb hX hH (aa_MM_1 hZ) (vp_c (by decide)) (by decide) d_MM_keep_42 ?_
    obtain ⟨rfl, rfl⟩ := o_p hf0
    exact hQ _ _ _ _ hH d_MM_keep_43
  · replace hf0 := o_t hc hf0
    refine lv_iconst (v := (-1 : Int32)) hx hb d_MM_keep_10 (by decide) ?_
    obtain ⟨rfl, rfl⟩ := o_p hf0
    exact hQ _ _ _ _ hH d_MM_keep_11
theorem c_MM_keep (l : Launch) {Z : WD} (hI : wI Z) (hZ : IsM Z) (M : Mem) (x1 : Int32) {r : Int32} {M' : Mem} (hf : f_MM_keep M x1 = some (r, M')) : Ci l Z y_MM_keep b_MM_keep 2 (some .int) 1 25 [.ref (Z.2.2.1 0), .int x1] M M' r := by
  refine Met.ofW (cc := b_MM_keep) (maxL := 2) (ret := (some .int)) (by decide) rfl ?_
  intro p e s m args below meth c s₁ B hml hv
  obtain ⟨rfl, hP, hX⟩ := hv
  have S : CallFix p m c b_MM_keep 2 s ([.ref (Z.2.2.1 0), .int x1] : List Value).toArray gtb R_MM := ⟨B.exec, B.bytes, hml, findClass_of_methodNamed B.named, fun w hw => atoms_spec (ws := .code y_MM_keep b_MM_keep 2 (some .int) :: gtb) B.pre w (List.mem_cons_of_mem _ hw)⟩
  have hl := lv_entry ([.ref (Z.2.2.1 0), .int x1]) (n := 2) (Nat.le_of_ble_eq_true rfl)
  rw [lg_entry_eq]
  exact wk_MM_keep hI hZ M x1 S hX ⟨Nat.le_refl _, Nat.le_refl _⟩ (fun pc H locs ls hH d => q_ri S.1 S.2.1 B.returns B.notSynchronized hH rfl rfl d) hf ⟨hP, va_S.rf⟩ hl
noncomputable def f_MM_back (M : Mem) (x1 : Int32) : Option (Int32 × Mem) := 
    if (bI (f_MM_in x1.toInt64 (0 : Int64) (1 : Int64))) = 0 then some ((-1 : Int32), M) else 
    gIn x1 2 (if (M 6 x1.toNatClampNeg) = 0 then some ((-2 : Int32), M) else 
    bnd (f_MM_moves 5 604 1 302 M ((302 : Int32) * x1) (0 : Int32)) (fun M3 => lt1 (upM M3 0 6 (0 : Int32)) (fun M4 => some (M4 1 7, M4))))
set_option maxHeartbeats 4000000 in
theorem wk_MM_back {l : Launch} {Z : WD} (hI : wI Z) (hZ : IsM Z) (M : Mem) (x1 : Int32) {r : Int32} {M' : Mem} {p : Program} {e : Env} {R : Room} {s : State} {m : MethodId} {args : Array Value} {below : List Frame} {meth : Method} {c : Code} {H : Heap} {locs : List Loc} {ls : Array Slot} {Q : State → Prop} (S : CallFix p m c b_MM_back 2 s args gtb R_MM) (hX : wX Z s) (hR : 1 ≤ R.frames ∧ 25 ≤ R.locals) (hQ : ∀ (pc : Nat) (H : Heap) (locs : List Loc) (ls : Array Slot), HW Z M' s H locs → decode b_MM_back pc = .ok (.ireturn, 1) → W p l e R s m args below meth c H locs 0 0 Q (F0 m pc ls [.int r])) (hf0 : f_MM_back M x1 = some (r, M')) (hH : HW Z M s H locs) (hl : lv_has ls 2 [(0, .ref (Z.2.2.1 0)), (1, .int x1)]) : W p l e R s m args below meth c H locs 0 0 Q (F0 m 0 ls []) := by
  have hx := S.1
  have hb := S.2.1
  have hown := S.2.2.2.1
  have ht := S.2.2.2.2
  unfold f_MM_back at hf0
  refine lv_iload_n hx hb d_MM_back_0 rfl (lv_at hl 1 rfl) ?_
  refine lv_i2l hx hb d_MM_back_1 rfl ?_
  refine lv_lconst (v := (0 : Int64)) hx hb d_MM_back_2 (by decide) ?_
  refine lv_lconst (v := (1 : Int64)) hx hb d_MM_back_3 (by decide) ?_
  refine q_cSi (As := [.long x1.toInt64, .long (0 : Int64), .long (1 : Int64)]) (rest := []) S hX hH (c_MM_in l hI M x1.toInt64 (0 : Int64) (1 : Int64) rfl) (cw_MM_108 S.2.2.2.2 (Nat.le_trans (Nat.le_of_ble_eq_true rfl) hR.1) (Nat.le_trans (Nat.le_of_ble_eq_true rfl) hR.2)) rfl hl.1 rfl (Nat.le_of_ble_eq_true rfl) d_MM_back_4 ⟨Nat.zero_le _, Nat.zero_le _⟩ (fun H locs hH => ?_)
  refine lv_if_ne (tgt := 12) hx hb d_MM_back_7 (by decide) (fun hc => ?_) (fun hc => ?_)
  · replace hf0 := o_f hc hf0
    refine lv_aload_n hx hb d_MM_back_12 rfl (lv_at hl 0 rfl) ?_
    refine g_MM_25 S hX hH hZ d_MM_back_13 ?_
    refine lv_iload_n hx hb d_MM_back_16 rfl (lv_at hl 1 rfl) ?_
    obtain ⟨hn1, hf0⟩ := o_in hf0
    refine q_zald (j := x1.toNatClampNeg) hx hb hX hH (aa_MM_6 hZ) hn1 rfl d_MM_back_17 ?_
    refine lv_if_ne (tgt := 24) hx hb d_MM_back_18 (by decide) (fun hc => ?_) (fun hc => ?_)
    · replace hf0 := o_f hc hf0
      refine lv_aload_n hx hb d_MM_back_24 rfl (lv_at hl 0 rfl) ?_
      refine g_MM_22 S hX hH hZ d_MM_back_25 ?_
      refine lv_sipush (v := (302 : Int32)) hx hb d_MM_back_28 (by decide) ?_
      refine lv_iload_n hx hb d_MM_back_31 rfl (lv_at hl 1 rfl) ?_
      refine lv_imul hx hb d_MM_back_32 ?_
      refine lv_aload_n hx hb d_MM_back_33 rfl (lv_at hl 0 rfl) ?_
      refine g_MM_9 S hX hH hZ d_MM_back_34 ?_
      refine lv_iconst (v := (0 : Int32)) hx hb d_MM_back_37 (by decide) ?_
      obtain ⟨M3, hc2, hf0⟩ := o_b hf0
      refine q_cSv (As := [.ref (Z.2.2.1 5), .int ((302 : Int32) * x1), .ref (Z.2.2.1 1), .int (0 : Int32)]) (rest := []) S hX hH (c_MM_moves l hI 5 604 1 302 M ((302 : Int32) * x1) (0 : Int32) (aa_MM_5 hZ) (aa_MM_1 hZ) hc2) (cw_MM_190 S.2.2.2.2 (Nat.le_trans (Nat.le_of_ble_eq_true rfl) hR.1) (Nat.le_trans (Nat.le_of_ble_eq_true rfl) hR.2)) rfl hl.1 rfl (Nat.le_of_ble_eq_true rfl) d_MM_back_38 ⟨Nat.zero_le _, Nat.zero_le _⟩ (fun H locs hH => ?_)
      refine lv_aload_n hx hb d_MM_back_41 rfl (lv_at hl 0 rfl) ?_
      refine lv_iconst (v := (0 : Int32)) hx hb d_MM_back_42 (by decide) ?_
      obtain ⟨M4, hM4, hf0⟩ := o_l hf0
      refine s_MM_194 S hX hI hH hZ d_MM_back_43 (fun H locs hH => ?_)
      rw [hM4] at hH
      refine lv_aload_n hx hb d_MM_back_46 rfl (lv_at hl 0 rfl) ?_
      refine g_MM_9 S hX hH hZ d_MM_back_47 ?_
      refine lv_bipush (v := (7 : Int32)) hx hb d_MM_back_50 (by decide) ?_
      refine q_iald (j := 7) hx hb hX hH (aa_MM_1 hZ) (vp_c (by decide)) (by decide) d_MM_back_52 ?_
      obtain ⟨rfl, rfl⟩ := o_p hf0
      exact hQ _ _ _ _ hH d_MM_back_53
    · replace hf0 := o_t hc hf0
      refine lv_bipush (v := (-2 : Int32)) hx hb d_MM_back_21 (by decide) ?_
      obtain ⟨rfl, rfl⟩ := o_p hf0
      exact hQ _ _ _ _ hH d_MM_back_23
  · replace hf0 := o_t hc hf0
    refine lv_iconst (v := (-1 : Int32)) hx hb d_MM_back_10 (by decide) ?_
    obtain ⟨rfl, rfl⟩ := o_p hf0
    exact hQ _ _ _ _ hH d_MM_back_11
theorem c_MM_back (l : Launch) {Z : WD} (hI : wI Z) (hZ : IsM Z) (M : Mem) (x1 : Int32) {r : Int32} {M' : Mem} (hf : f_MM_back M x1 = some (r, M')) : Ci l Z y_MM_back b_MM_back 2 (some .int) 1 25 [.ref (Z.2.2.1 0), .int x1] M M' r := by
  refine Met.ofW (cc := b_MM_back) (maxL := 2) (ret := (some .int)) (by decide) rfl ?_
  intro p e s m args below meth c s₁ B hml hv
  obtain ⟨rfl, hP, hX⟩ := hv
  have S : CallFix p m c b_MM_back 2 s ([.ref (Z.2.2.1 0), .int x1] : List Value).toArray gtb R_MM := ⟨B.exec, B.bytes, hml, findClass_of_methodNamed B.named, fun w hw => atoms_spec (ws := .code y_MM_back b_MM_back 2 (some .int) :: gtb) B.pre w (List.mem_cons_of_mem _ hw)⟩
  have hl := lv_entry ([.ref (Z.2.2.1 0), .int x1]) (n := 2) (Nat.le_of_ble_eq_true rfl)
  rw [lg_entry_eq]
  exact wk_MM_back hI hZ M x1 S hX ⟨Nat.le_refl _, Nat.le_refl _⟩ (fun pc H locs ls hH d => q_ri S.1 S.2.1 B.returns B.notSynchronized hH rfl rfl d) hf ⟨hP, va_S.rf⟩ hl
noncomputable def f_MM_isParty (M : Mem) (x1 : Int32) : Bool := (f_MM_in x1.toInt64 (0 : Int64) (((M 1 0) - (1 : Int32)).toInt64))
set_option maxHeartbeats 4000000 in
theorem wk_MM_isParty {l : Launch} {Z : WD} (hI : wI Z) (hZ : IsM Z) (M : Mem) (x1 : Int32) {r : Bool} {p : Program} {e : Env} {R : Room} {s : State} {m : MethodId} {args : Array Value} {below : List Frame} {meth : Method} {c : Code} {H : Heap} {locs : List Loc} {ls : Array Slot} {Q : State → Prop} (S : CallFix p m c b_MM_isParty 2 s args gtb R_MM) (hX : wX Z s) (hR : 1 ≤ R.frames ∧ 25 ≤ R.locals) (hQ : ∀ (pc : Nat) (H : Heap) (locs : List Loc) (ls : Array Slot), HW Z M s H locs → decode b_MM_isParty pc = .ok (.ireturn, 1) → W p l e R s m args below meth c H locs 0 0 Q (F0 m pc ls [.int (bI r)])) (hf0 : f_MM_isParty M x1 = r) (hH : HW Z M s H locs) (hl : lv_has ls 2 [(0, .ref (Z.2.2.1 0)), (1, .int x1)]) : W p l e R s m args below meth c H locs 0 0 Q (F0 m 0 ls []) := by
  have hx := S.1
  have hb := S.2.1
  have hown := S.2.2.2.1
  have ht := S.2.2.2.2
  unfold f_MM_isParty at hf0
  refine lv_iload_n hx hb d_MM_isParty_0 rfl (lv_at hl 1 rfl) ?_
  refine lv_i2l hx hb d_MM_isParty_1 rfl ?_
  refine lv_lconst (v := (0 : Int64)) hx hb d_MM_isParty_2 (by decide) ?_
  refine lv_aload_n hx hb d_MM_isParty_3 rfl (lv_at hl 0 rfl) ?_
  refine g_MM_9 S hX hH hZ d_MM_isParty_4 ?_
  refine lv_iconst (v := (0 : Int32)) hx hb d_MM_isParty_7 (by decide) ?_
  refine q_iald (j := 0) hx hb hX hH (aa_MM_1 hZ) (vp_c (by decide)) (by decide) d_MM_isParty_8 ?_
  refine lv_iconst (v := (1 : Int32)) hx hb d_MM_isParty_9 (by decide) ?_
  refine lv_isub hx hb d_MM_isParty_10 ?_
  refine lv_i2l hx hb d_MM_isParty_11 rfl ?_
  refine q_cSi (As := [.long x1.toInt64, .long (0 : Int64), .long (((M 1 0) - (1 : Int32)).toInt64)]) (rest := []) S hX hH (c_MM_in l hI M x1.toInt64 (0 : Int64) (((M 1 0) - (1 : Int32)).toInt64) rfl) (cw_MM_108 S.2.2.2.2 (Nat.le_trans (Nat.le_of_ble_eq_true rfl) hR.1) (Nat.le_trans (Nat.le_of_ble_eq_true rfl) hR.2)) rfl hl.1 rfl (Nat.le_of_ble_eq_true rfl) d_MM_isParty_12 ⟨Nat.zero_le _, Nat.zero_le _⟩ (fun H locs hH => ?_)
  subst hf0
  exact hQ _ _ _ _ hH d_MM_isParty_15
theorem c_MM_isParty (l : Launch) {Z : WD} (hI : wI Z) (hZ : IsM Z) (M : Mem) (x1 : Int32) {r : Bool} (hf : f_MM_isParty M x1 = r) : Ci l Z y_MM_isParty b_MM_isParty 2 (some .boolean) 1 25 [.ref (Z.2.2.1 0), .int x1] M M (bI r) := by
  refine Met.ofW (cc := b_MM_isParty) (maxL := 2) (ret := (some .boolean)) (by decide) rfl ?_
  intro p e s m args below meth c s₁ B hml hv
  obtain ⟨rfl, hP, hX⟩ := hv
  have S : CallFix p m c b_MM_isParty 2 s ([.ref (Z.2.2.1 0), .int x1] : List Value).toArray gtb R_MM := ⟨B.exec, B.bytes, hml, findClass_of_methodNamed B.named, fun w hw => atoms_spec (ws := .code y_MM_isParty b_MM_isParty 2 (some .boolean) :: gtb) B.pre w (List.mem_cons_of_mem _ hw)⟩
  have hl := lv_entry ([.ref (Z.2.2.1 0), .int x1]) (n := 2) (Nat.le_of_ble_eq_true rfl)
  rw [lg_entry_eq]
  exact wk_MM_isParty hI hZ M x1 S hX ⟨Nat.le_refl _, Nat.le_refl _⟩ (fun pc H locs ls hH d => q_rz S.1 S.2.1 B.returns B.notSynchronized hH rfl rfl d) hf ⟨hP, va_S.rf⟩ hl
