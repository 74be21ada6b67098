noncomputable def f_Tape_append_L3 (x1 : Int32) (x2 : Int32) (M : Mem) : Option ((Int32 × Mem) ⊕ Mem) := if x2 < 0 then some (.inr M) else 
    if (400 : Int32) ≤ (M 136 2) then some (.inl (x2 + (-8 : Int32), M)) else 
    gIn (M 136 2) 400 (lt1 (upM M 137 ((M 136 2).toNatClampNeg) (vp_nar .char ((((x1 >>> (x2 &&& 31)) &&& (255 : Int32)).toUInt32 % 65536).toInt32))) (fun M2 => lt1 (upM M2 136 2 ((M2 136 2) + (1 : Int32))) (fun M3 => some (.inl (x2 + (-8 : Int32), M3)))))
noncomputable def f_Tape_append_W3 (x1 : Int32) (u : (Int32 × Mem)) : Option Mem := loop (fun t => f_Tape_append_L3 x1 t.1 t.2) u
noncomputable def f_Tape_append_J3 (M : Mem) (x1 : Int32) (x2 : Int32) : Option (Mem) := bnd (f_Tape_append_W3 x1 (x2, M)) (fun e3 => some e3)
noncomputable def f_Tape_append (M : Mem) (x1 : Int32) : Option Mem := f_Tape_append_J3 M x1 (24 : Int32)
set_option maxHeartbeats 4000000 in
theorem wk_Tape_append {l : Launch} {Z : WD} (hI : wI Z) (hZ : IsC Z) (M : Mem) (x1 : Int32) {M' : Mem} {p : Program} {e : Env} {R : Room} {s : State} {m : MethodId} {args : Array Value} {below : List Frame} {meth : Method} {c : Code} {H : Heap} {locs : List Loc} {ls : Array Slot} {Q : State → Prop} (S : CallFix p m c b_Tape_append 3 s args gtb R_Tape) (hX : wX Z s) (hR : 0 ≤ R.frames ∧ 0 ≤ R.locals) (hQ : ∀ (pc : Nat) (H : Heap) (locs : List Loc) (ls : Array Slot), HW Z M' s H locs → decode b_Tape_append pc = .ok (.return_, 1) → W p l e R s m args below meth c H locs 0 0 Q (F0 m pc ls [])) (hf0 : f_Tape_append M x1 = some M') (hH : HW Z M s H locs) (hl : lv_has ls 3 [(0, .ref (Z.2.2.1 136)), (1, .int x1)]) : W p l e R s m args below meth c H locs 0 0 Q (F0 m 0 ls []) := by
  have hx := S.1
  have hb := S.2.1
  have hown := S.2.2.2.1
  have ht := S.2.2.2.2
  unfold f_Tape_append at hf0
  have J3 : ∀ (M : Mem) (x1 : Int32) (x2 : Int32) (H : Heap) (locs : List Loc) (ls : Array Slot), f_Tape_append_J3 M x1 x2 = some M' → HW Z M s H locs → lv_has ls 3 [(0, .ref (Z.2.2.1 136)), (1, .int x1), (2, .int x2)] → W p l e R s m args below meth c H locs 0 0 Q (F0 m 3 ls []) := by
    intro M x1 x2 H locs ls hf0 hH hl
    unfold f_Tape_append_J3 at hf0
    obtain ⟨e3, he3, hf0⟩ := o_b hf0
    unfold f_Tape_append_W3 at he3
    refine loop_W (fun t => ∀ (H : Heap) (locs : List Loc) (ls : Array Slot), HW Z t.2 s H locs → lv_has ls 3 [(0, .ref (Z.2.2.1 136)), (1, .int x1), (2, .int t.1)] → W p l e R s m args below meth c H locs 0 0 Q (F0 m 3 ls [])) ?_ he3 H locs ls hH hl
    rintro ⟨x2, M⟩ o1 hf1 hG1 hR1 H locs ls hH hl
    replace hH : HW Z M s H locs := hH
    replace hl : lv_has ls 3 [(0, .ref (Z.2.2.1 136)), (1, .int x1), (2, .int x2)] := hl
    replace hf1 : f_Tape_append_L3 x1 x2 M = some o1 := hf1
    unfold f_Tape_append_L3 at hf1
    refine lv_iload_n hx hb d_Tape_append_3 rfl (lv_at hl 2 rfl) ?_
    refine lv_if_lt (tgt := 50) hx hb d_Tape_append_4 (by decide) (fun hc => ?_) (fun hc => ?_)
    · replace hf1 := o_t hc hf1
      obtain rfl := hR1 _ (o_v hf1).symm
      obtain rfl := o_v hf0
      exact hQ _ _ _ _ hH d_Tape_append_50
    · replace hf1 := o_f hc hf1
      refine lv_aload_n hx hb d_Tape_append_7 rfl (lv_at hl 0 rfl) ?_
      refine g_Tape_22 S hX hH hZ d_Tape_append_8 ?_
      refine lv_sipush (v := (400 : Int32)) hx hb d_Tape_append_11 (by decide) ?_
      refine lv_icmp_ge (tgt := 44) hx hb d_Tape_append_14 (by decide) (fun hc => ?_) (fun hc => ?_)
      · replace hf1 := o_t hc hf1
        refine lv_iinc (v := x2 + (-8 : Int32)) (lv' := [(2, .int (x2 + (-8 : Int32))), (0, .ref (Z.2.2.1 136)), (1, .int x1)]) hx hb d_Tape_append_44 hl (k := 2) rfl rfl (by decide) rfl (fun ls hl => ?_)
        refine lv_goto (tgt := 3) hx hb d_Tape_append_47 (by decide) ?_
        exact hG1 _ (o_v hf1).symm _ _ _ hH (lv_sub hl [1, 2, 0] rfl)
      · replace hf1 := o_f hc hf1
        refine lv_aload_n hx hb d_Tape_append_17 rfl (lv_at hl 0 rfl) ?_
        refine g_Tape_9 S hX hH hZ d_Tape_append_18 ?_
        refine lv_aload_n hx hb d_Tape_append_21 rfl (lv_at hl 0 rfl) ?_
        refine g_Tape_22 S hX hH hZ d_Tape_append_22 ?_
        refine lv_iload_n hx hb d_Tape_append_25 rfl (lv_at hl 1 rfl) ?_
        refine lv_iload_n hx hb d_Tape_append_26 rfl (lv_at hl 2 rfl) ?_
        refine lv_ishr hx hb d_Tape_append_27 ?_
        refine lv_sipush (v := (255 : Int32)) hx hb d_Tape_append_28 (by decide) ?_
        refine lv_iand hx hb d_Tape_append_31 ?_
        refine lv_i2c hx hb d_Tape_append_32 rfl ?_
        obtain ⟨hn1, hf1⟩ := o_in hf1
        obtain ⟨M2, hM2, hf1⟩ := o_l hf1
        refine q_cast (j := (M 136 2).toNatClampNeg) hx hb hX hI hH (aa_Tape hZ) hn1 rfl d_Tape_append_33 (fun H locs hH => ?_)
        rw [hM2] at hH
        refine lv_aload_n hx hb d_Tape_append_34 rfl (lv_at hl 0 rfl) ?_
        refine lv_dup hx hb d_Tape_append_35 rfl ?_
        refine g_Tape_22 S hX hH hZ d_Tape_append_36 ?_
        refine lv_iconst (v := (1 : Int32)) hx hb d_Tape_append_39 (by decide) ?_
        refine lv_iadd hx hb d_Tape_append_40 ?_
        obtain ⟨M3, hM3, hf1⟩ := o_l hf1
        refine s_Tape_22 S hX hI hH hZ d_Tape_append_41 (fun H locs hH => ?_)
        rw [hM3] at hH
        refine lv_iinc (v := x2 + (-8 : Int32)) (lv' := [(2, .int (x2 + (-8 : Int32))), (0, .ref (Z.2.2.1 136)), (1, .int x1)]) hx hb d_Tape_append_44 hl (k := 2) rfl rfl (by decide) rfl (fun ls hl => ?_)
        refine lv_goto (tgt := 3) hx hb d_Tape_append_47 (by decide) ?_
        exact hG1 _ (o_v hf1).symm _ _ _ hH (lv_sub hl [1, 2, 0] rfl)
  refine lv_bipush (v := (24 : Int32)) hx hb d_Tape_append_0 (by decide) ?_
  refine lv_istore_n (lv' := [(2, .int (24 : Int32)), (0, .ref (Z.2.2.1 136)), (1, .int x1)]) hx hb d_Tape_append_2 rfl hl (by decide) rfl (fun ls hl => ?_)
  exact J3 _ _ _ _ _ _ hf0 hH (lv_sub hl [1, 2, 0] rfl)
theorem c_Tape_append (l : Launch) {Z : WD} (hI : wI Z) (hZ : IsC Z) (M : Mem) (x1 : Int32) {M' : Mem} (hf : f_Tape_append M x1 = some M') : Cv l Z y_Tape_append b_Tape_append 3 none 0 0 [.ref (Z.2.2.1 136), .int x1] M M' := by
  refine Met.ofW (cc := b_Tape_append) (maxL := 3) (ret := none) (by decide) rfl ?_
  intro p e s m args below meth c s₁ B hml hv
  obtain ⟨rfl, hP, hX⟩ := hv
  have S : CallFix p m c b_Tape_append 3 s ([.ref (Z.2.2.1 136), .int x1] : List Value).toArray gtb R_Tape := ⟨B.exec, B.bytes, hml, findClass_of_methodNamed B.named, fun w hw => atoms_spec (ws := .code y_Tape_append b_Tape_append 3 none :: gtb) B.pre w (List.mem_cons_of_mem _ hw)⟩
  have hl := lv_entry ([.ref (Z.2.2.1 136), .int x1]) (n := 3) (Nat.le_of_ble_eq_true rfl)
  rw [lg_entry_eq]
  exact wk_Tape_append hI hZ M x1 S hX ⟨Nat.le_refl _, Nat.le_refl _⟩ (fun pc H locs ls hH d => q_rv S.1 S.2.1 B.returns B.notSynchronized hH rfl d) hf ⟨hP, va_S.rf⟩ hl
noncomputable def f_Tape_skipBlanks_L0 (M : Mem) : Option (Mem ⊕ Mem) := if (M 136 2) ≤ (M 136 4) then some (.inr M) else 
    gIn (M 136 4) 400 (if (M 137 (M 136 4).toNatClampNeg) = (32 : Int32) then lt1 (upM M 136 4 ((M 136 4) + (1 : Int32))) (fun M2 => some (.inl M2)) else some (.inr M))
noncomputable def f_Tape_skipBlanks_W0  (u : Mem) : Option Mem := loop (fun t => f_Tape_skipBlanks_L0 t) u
noncomputable def f_Tape_skipBlanks_J0 (M : Mem) : Option (Mem) := bnd (f_Tape_skipBlanks_W0 M) (fun e0 => some e0)
noncomputable def f_Tape_skipBlanks (M : Mem) : Option Mem := f_Tape_skipBlanks_J0 M
set_option maxHeartbeats 4000000 in
theorem wk_Tape_skipBlanks {l : Launch} {Z : WD} (hI : wI Z) (hZ : IsC Z) (M : Mem) {M' : Mem} {p : Program} {e : Env} {R : Room} {s : State} {m : MethodId} {args : Array Value} {below : List Frame} {meth : Method} {c : Code} {H : Heap} {locs : List Loc} {ls : Array Slot} {Q : State → Prop} (S : CallFix p m c b_Tape_skipBlanks 1 s args gtb R_Tape) (hX : wX Z s) (hR : 0 ≤ R.frames ∧ 0 ≤ R.locals) (hQ : ∀ (pc : Nat) (H : Heap) (locs : List Loc) (ls : Array Slot), HW Z M' s H locs → decode b_Tape_skipBlanks pc = .ok (.return_, 1) → W p l e R s m args below meth c H locs 0 0 Q (F0 m pc ls [])) (hf0 : f_Tape_skipBlanks M = some M') (hH : HW Z M s H locs) (hl : lv_has ls 1 [(0, .ref (Z.2.2.1 136))]) : W p l e R s m args below meth c H locs 0 0 Q (F0 m 0 ls []) := by
  have hx := S.1
  have hb := S.2.1
  have hown := S.2.2.2.1
  have ht := S.2.2.2.2
  unfold f_Tape_skipBlanks at hf0
  have J0 : ∀ (M : Mem) (H : Heap) (locs : List Loc) (ls : Array Slot), f_Tape_skipBlanks_J0 M = some M' → HW Z M s H locs → lv_has ls 1 [(0, .ref (Z.2.2.1 136))] → W p l e R s m args below meth c H locs 0 0 Q (F0 m 0 ls []) := by
    intro M H locs ls hf0 hH hl
    unfold f_Tape_skipBlanks_J0 at hf0
    obtain ⟨e0, he0, hf0⟩ := o_b hf0
    unfold f_Tape_skipBlanks_W0 at he0
    refine loop_W (fun t => ∀ (H : Heap) (locs : List Loc) (ls : Array Slot), HW Z t s H locs → lv_has ls 1 [(0, .ref (Z.2.2.1 136))] → W p l e R s m args below meth c H locs 0 0 Q (F0 m 0 ls [])) ?_ he0 H locs ls hH hl
    rintro M o1 hf1 hG1 hR1 H locs ls hH hl
    replace hH : HW Z M s H locs := hH
    replace hl : lv_has ls 1 [(0, .ref (Z.2.2.1 136))] := hl
    replace hf1 : f_Tape_skipBlanks_L0 M = some o1 := hf1
    unfold f_Tape_skipBlanks_L0 at hf1
    refine lv_aload_n hx hb d_Tape_skipBlanks_0 rfl (lv_at hl 0 rfl) ?_
    refine g_Tape_29 S hX hH hZ d_Tape_skipBlanks_1 ?_
    refine lv_aload_n hx hb d_Tape_skipBlanks_4 rfl (lv_at hl 0 rfl) ?_
    refine g_Tape_22 S hX hH hZ d_Tape_skipBlanks_5 ?_
    refine lv_icmp_ge (tgt := 38) hx hb d_Tape_skipBlanks_8 (by decide) (fun hc => ?_) (fun hc => ?_)
    · replace hf1 := o_t hc hf1
      obtain rfl := hR1 _ (o_v hf1).symm
      obtain rfl := o_v hf0
      exact hQ _ _ _ _ hH d_Tape_skipBlanks_38
    · replace hf1 := o_f hc hf1
      refine lv_aload_n hx hb d_Tape_skipBlanks_11 rfl (lv_at hl 0 rfl) ?_
      refine g_Tape_9 S hX hH hZ d_Tape_skipBlanks_12 ?_
      refine lv_aload_n hx hb d_Tape_skipBlanks_15 rfl (lv_at hl 0 rfl) ?_
      refine g_Tape_29 S hX hH hZ d_Tape_skipBlanks_16 ?_
      obtain ⟨hn1, hf1⟩ := o_in hf1
      refine q_cald (j := (M 136 4).toNatClampNeg) hx hb hX hH (aa_Tape hZ) hn1 rfl d_Tape_skipBlanks_19 ?_
      refine lv_bipush (v := (32 : Int32)) hx hb d_Tape_skipBlanks_20 (by decide) ?_
      refine lv_icmp_ne (tgt := 38) hx hb d_Tape_skipBlanks_22 (by decide) (fun hc => ?_) (fun hc => ?_)
      · replace hf1 := o_f hc hf1
        obtain rfl := hR1 _ (o_v hf1).symm
        obtain rfl := o_v hf0
        exact hQ _ _ _ _ hH d_Tape_skipBlanks_38
      · replace hf1 := o_t hc hf1
        refine lv_aload_n hx hb d_Tape_skipBlanks_25 rfl (lv_at hl 0 rfl) ?_
        refine lv_dup hx hb d_Tape_skipBlanks_26 rfl ?_
        refine g_Tape_29 S hX hH hZ d_Tape_skipBlanks_27 ?_
        refine lv_iconst (v := (1 : Int32)) hx hb d_Tape_skipBlanks_30 (by decide) ?_
        refine lv_iadd hx hb d_Tape_skipBlanks_31 ?_
        obtain ⟨M2, hM2, hf1⟩ := o_l hf1
        refine s_Tape_29 S hX hI hH hZ d_Tape_skipBlanks_32 (fun H locs hH => ?_)
        rw [hM2] at hH
        refine lv_goto (tgt := 0) hx hb d_Tape_skipBlanks_35 (by decide) ?_
        exact hG1 _ (o_v hf1).symm _ _ _ hH (lv_sub hl [0] rfl)
  exact J0 _ _ _ _ hf0 hH (lv_sub hl [0] rfl)
theorem c_Tape_skipBlanks (l : Launch) {Z : WD} (hI : wI Z) (hZ : IsC Z) (M : Mem) {M' : Mem} (hf : f_Tape_skipBlanks M = some M') : Cv l Z y_Tape_skipBlanks b_Tape_skipBlanks 1 none 0 0 [.ref (Z.2.2.1 136)] M M' := by
  refine Met.ofW (cc := b_Tape_skipBlanks) (maxL := 1) (ret := none) (by decide) rfl ?_
  intro p e s m args below meth c s₁ B hml hv
  obtain ⟨rfl, hP, hX⟩ := hv
  have S : CallFix p m c b_Tape_skipBlanks 1 s ([.ref (Z.2.2.1 136)] : List Value).toArray gtb R_Tape := ⟨B.exec, B.bytes, hml, findClass_of_methodNamed B.named, fun w hw => atoms_spec (ws := .code y_Tape_skipBlanks b_Tape_skipBlanks 1 none :: gtb) B.pre w (List.mem_cons_of_mem _ hw)⟩
  have hl := lv_entry ([.ref (Z.2.2.1 136)]) (n := 1) (Nat.le_of_ble_eq_true rfl)
  rw [lg_entry_eq]
  exact wk_Tape_skipBlanks hI hZ M S hX ⟨Nat.le_refl _, Nat.le_refl _⟩ (fun pc H locs ls hH d => q_rv S.1 S.2.1 B.returns B.notSynchronized hH rfl d) hf ⟨hP, va_S.rf⟩ hl
theorem cw_Tape_58 {R : Room} {s : State} {args : Array Value} (ht : ∀ w ∈ gtb, w.before args s = true) (h1 : 0 + 1 ≤ R.frames) (h2 : 8 + (1 + 11) + 0 ≤ R.locals) : CallW R s args R_Tape R_Tape 58 y_Tape_skipBlanks b_Tape_skipBlanks 1 none (.code y_Tape_skipBlanks b_Tape_skipBlanks 1 none :: gtb) { frames := 0, cells := 0, slots := 0, locals := 0 } 0 0 0 := cwV 0 ht (gV w2_121 w2_123 ws_Tape_skipBlanks w1_3 w2_124) rfl rfl rfl ⟨rfl, by decide, by decide, by decide +kernel⟩ ⟨h1, h2⟩
noncomputable def f_Tape_readWord_L12 (M : Mem) : Option (Mem ⊕ Mem) := if (M 136 2) ≤ (M 136 4) then some (.inr M) else 
    gIn (M 136 4) 400 (if (M 137 (M 136 4).toNatClampNeg) < (97 : Int32) then some (.inr M) else 
    if (122 : Int32) < (M 137 (M 136 4).toNatClampNeg) then some (.inr M) else lt1 (upM M 136 4 ((M 136 4) + (1 : Int32))) (fun M2 => some (.inl M2)))
noncomputable def f_Tape_readWord_W12  (u : Mem) : Option Mem := loop (fun t => f_Tape_readWord_L12 t) u
noncomputable def f_Tape_readWord_J12 (M : Mem) : Option (Mem) := bnd (f_Tape_readWord_W12 M) (fun e12 => some e12)
noncomputable def f_Tape_readWord (M : Mem) : Option Mem := 
    bnd (f_Tape_skipBlanks M) (fun M4 => lt1 (upM M4 136 5 (M4 136 4)) (fun M5 => f_Tape_readWord_J12 M5))
set_option maxHeartbeats 4000000 in
theorem wk_Tape_readWord {l : Launch} {Z : WD} (hI : wI Z) (hZ : IsC Z) (M : Mem) {M' : Mem} {p : Program} {e : Env} {R : Room} {s : State} {m : MethodId} {args : Array Value} {below : List Frame} {meth : Method} {c : Code} {H : Heap} {locs : List Loc} {ls : Array Slot} {Q : State → Prop} (S : CallFix p m c b_Tape_readWord 1 s args gtb R_Tape) (hX : wX Z s) (hR : 1 ≤ R.frames ∧ 20 ≤ R.locals) (hQ : ∀ (pc : Nat) (H : Heap) (locs : List Loc) (ls : Array Slot), HW Z M' s H locs → decode b_Tape_readWord pc = .ok (.return_, 1) → W p l e R s m args below meth c H locs 0 0 Q (F0 m pc ls [])) (hf0 : f_Tape_readWord M = some M') (hH : HW Z M s H locs) (hl : lv_has ls 1 [(0, .ref (Z.2.2.1 136))]) : W p l e R s m args below meth c H locs 0 0 Q (F0 m 0 ls []) := by
  have hx := S.1
  have hb := S.2.1
  have hown := S.2.2.2.1
  have ht := S.2.2.2.2
  unfold f_Tape_readWord at hf0
  have J12 : ∀ (M : Mem) (H : Heap) (locs : List Loc) (ls : Array Slot), f_Tape_readWord_J12 M = some M' → HW Z M s H locs → lv_has ls 1 [(0, .ref (Z.2.2.1 136))] → W p l e R s m args below meth c H locs 0 0 Q (F0 m 12 ls []) := by
    intro M H locs ls hf0 hH hl
    unfold f_Tape_readWord_J12 at hf0
    obtain ⟨e12, he12, hf0⟩ := o_b hf0
    unfold f_Tape_readWord_W12 at he12
    refine loop_W (fun t => ∀ (H : Heap) (locs : List Loc) (ls : Array Slot), HW Z t s H locs → lv_has ls 1 [(0, .ref (Z.2.2.1 136))] → W p l e R s m args below meth c H locs 0 0 Q (F0 m 12 ls [])) ?_ he12 H locs ls hH hl
    rintro M o1 hf1 hG1 hR1 H locs ls hH hl
    replace hH : HW Z M s H locs := hH
    replace hl : lv_has ls 1 [(0, .ref (Z.2.2.1 136))] := hl
    replace hf1 : f_Tape_readWord_L12 M = some o1 := hf1
    unfold f_Tape_readWord_L12 at hf1
    refine lv_aload_n hx hb d_Tape_readWord_12 rfl (lv_at hl 0 rfl) ?_
    refine g_Tape_29 S hX hH hZ d_Tape_readWord_13 ?_
    refine lv_aload_n hx hb d_Tape_readWord_16 rfl (lv_at hl 0 rfl) ?_
    refine g_Tape_22 S hX hH hZ d_Tape_readWord_17 ?_
    refine lv_icmp_ge (tgt := 64) hx hb d_Tape_readWord_20 (by decide) (fun hc => ?_) (fun hc => ?_)
    · replace hf1 := o_t hc hf1
      obtain rfl := hR1 _ (o_v hf1).symm
      obtain rfl := o_v hf0
      exact hQ _ _ _ _ hH d_Tape_readWord_64
    · replace hf1 := o_f hc hf1
      refine lv_aload_n hx hb d_Tape_readWord_23 rfl (lv_at hl 0 rfl) ?_
      refine g_Tape_9 S hX hH hZ d_Tape_readWord_24 ?_
      refine lv_aload_n hx hb d_Tape_readWord_27 rfl (lv_at hl 0 rfl) ?_
      refine g_Tape_29 S hX hH hZ d_Tape_readWord_28 ?_
      obtain ⟨hn1, hf1⟩ := o_in hf1
      refine q_cald (j := (M 136 4).toNatClampNeg) hx hb hX hH (aa_Tape hZ) hn1 rfl d_Tape_readWord_31 ?_
      refine lv_bipush (v := (97 : Int32)) hx hb d_Tape_readWord_32 (by decide) ?_
      refine lv_icmp_lt (tgt := 64) hx hb d_Tape_readWord_34 (by decide) (fun hc => ?_) (fun hc => ?_)
      · replace hf1 := o_t hc hf1
        obtain rfl := hR1 _ (o_v hf1).symm
        obtain rfl := o_v hf0
        exact hQ _ _ _ _ hH d_Tape_readWord_64
      · replace hf1 := o_f hc hf1
        refine lv_aload_n hx hb d_Tape_readWord_37 rfl (lv_at hl 0 rfl) ?_
        refine g_Tape_9 S hX hH hZ d_Tape_readWord_38 ?_
        refine lv_aload_n hx hb d_Tape_readWord_41 rfl (lv_at hl 0 rfl) ?_
        refine g_Tape_29 S hX hH hZ d_Tape_readWord_42 ?_
        refine q_cald (j := (M 136 4).toNatClampNeg) hx hb hX hH (aa_Tape hZ) hn1 rfl d_Tape_readWord_45 ?_
        refine lv_bipush (v := (122 : Int32)) hx hb d_Tape_readWord_46 (by decide) ?_
        refine lv_icmp_gt (tgt := 64) hx hb d_Tape_readWord_48 (by decide) (fun hc => ?_) (fun hc => ?_)
        · replace hf1 := o_t hc hf1
          obtain rfl := hR1 _ (o_v hf1).symm
          obtain rfl := o_v hf0
          exact hQ _ _ _ _ hH d_Tape_readWord_64
        · replace hf1 := o_f hc hf1
          refine lv_aload_n hx hb d_Tape_readWord_51 rfl (lv_at hl 0 rfl) ?_
          refine lv_dup hx hb d_Tape_readWord_52 rfl ?_
          refine g_Tape_29 S hX hH hZ d_Tape_readWord_53 ?_
          refine lv_iconst (v := (1 : Int32)) hx hb d_Tape_readWord_56 (by decide) ?_
          refine lv_iadd hx hb d_Tape_readWord_57 ?_
          obtain ⟨M2, hM2, hf1⟩ := o_l hf1
          refine s_Tape_29 S hX hI hH hZ d_Tape_readWord_58 (fun H locs hH => ?_)
          rw [hM2] at hH
          refine lv_goto (tgt := 12) hx hb d_Tape_readWord_61 (by decide) ?_
          exact hG1 _ (o_v hf1).symm _ _ _ hH (lv_sub hl [0] rfl)
  refine lv_aload_n hx hb d_Tape_readWord_0 rfl (lv_at hl 0 rfl) ?_
  obtain ⟨M4, hc3, hf0⟩ := o_b hf0
  refine q_cVv (As := []) (rest := []) S hX hH (c_Tape_skipBlanks l hI hZ M hc3) (cw_Tape_58 S.2.2.2.2 (Nat.le_trans (Nat.le_of_ble_eq_true rfl) hR.1) (Nat.le_trans (Nat.le_of_ble_eq_true rfl) hR.2)) (rc_Tape hX hH hZ) rfl hl.1 rfl (Nat.le_of_ble_eq_true rfl) d_Tape_readWord_1 ⟨Nat.zero_le _, Nat.zero_le _⟩ (fun H locs hH => ?_)
  refine lv_aload_n hx hb d_Tape_readWord_4 rfl (lv_at hl 0 rfl) ?_
  refine lv_aload_n hx hb d_Tape_readWord_5 rfl (lv_at hl 0 rfl) ?_
  refine g_Tape_29 S hX hH hZ d_Tape_readWord_6 ?_
  obtain ⟨M5, hM5, hf0⟩ := o_l hf0
  refine s_Tape_32 S hX hI hH hZ d_Tape_readWord_9 (fun H locs hH => ?_)
  rw [hM5] at hH
  exact J12 _ _ _ _ hf0 hH (lv_sub hl [0] rfl)
theorem c_Tape_readWord (l : Launch) {Z : WD} (hI : wI Z) (hZ : IsC Z) (M : Mem) {M' : Mem} (hf : f_Tape_readWord M = some M') : Cv l Z y_Tape_readWord b_Tape_readWord 1 none 1 20 [.ref (Z.2.2.1 136)] M M' := by
  refine Met.ofW (cc := b_Tape_readWord) (maxL := 1) (ret := none) (by decide) rfl ?_
  intro p e s m args below meth c s₁ B hml hv
  obtain ⟨rfl, hP, hX⟩ := hv
  have S : CallFix p m c b_Tape_readWord 1 s ([.ref (Z.2.2.1 136)] : List Value).toArray gtb R_Tape := ⟨B.exec, B.bytes, hml, findClass_of_methodNamed B.named, fun w hw => atoms_spec (ws := .code y_Tape_readWord b_Tape_readWord 1 none :: gtb) B.pre w (List.mem_cons_of_mem _ hw)⟩
  have hl := lv_entry ([.ref (Z.2.2.1 136)]) (n := 1) (Nat.le_of_ble_eq_true rfl)
  rw [lg_entry_eq]
  exact wk_Tape_readWord hI hZ M S hX ⟨Nat.le_refl _, Nat.le_refl _⟩ (fun pc H locs ls hH d => q_rv S.1 S.2.1 B.returns B.notSynchronized hH rfl d) hf ⟨hP, va_S.rf⟩ hl
theorem cw_Tape_177 {R : Room} {s : State} {args : Array Value} (ht : ∀ w ∈ gtb, w.before args s = true) (h1 : 1 + 1 ≤ R.frames) (h2 : 8 + (1 + 11) + 20 ≤ R.locals) : CallW R s args R_Tape R_Str 177 y_Str_length b_Str_length 1 (some .int) (.code y_Str_length b_Str_length 1 (some .int) :: gtb) { frames := 1, cells := 0, slots := 0, locals := 20 } 0 0 0 := cwV 0 ht (gV w2_130 w2_131 w2_132 w1_11 w2_133) rfl rfl rfl ⟨rfl, by decide, by decide, by decide +kernel⟩ ⟨h1, h2⟩
theorem cw_Tape_181 {R : Room} {s : State} {args : Array Value} (ht : ∀ w ∈ gtb, w.before args s = true) (h1 : 3 + 1 ≤ R.frames) (h2 : 8 + (2 + 11) + 64 ≤ R.locals) : CallW R s args R_Tape R_Str 181 y_Str_charAt b_Str_charAt 2 (some .char) (.code y_Str_charAt b_Str_charAt 2 (some .char) :: gtb) { frames := 3, cells := 0, slots := 0, locals := 64 } 0 0 1 := cwV 1 ht (gV w2_140 w2_141 w2_142 w1_11 w2_143) rfl rfl rfl ⟨rfl, by decide, by decide, by decide +kernel⟩ ⟨h1, h2⟩
noncomputable def f_Tape_isWord_L20 (a1 : Nat) (M : Mem) (x2 : Int32) : Option (Int32 ⊕ Bool) := if (f_Str_length a1) ≤ x2 then some (.inr true) else 
    if (M 136 2) ≤ ((M 136 5) + x2) then some (.inr true) else 
    gIn ((M 136 5) + x2) 400 (bnd (f_Str_charAt a1 x2) (fun y3 => 
    if (M 137 ((M 136 5) + x2).toNatClampNeg) = y3 then some (.inl (x2 + (1 : Int32))) else some (.inr false)))
noncomputable def f_Tape_isWord_W20 (a1 : Nat) (M : Mem) (u : Int32) : Option Bool := loop (fun t => f_Tape_isWord_L20 a1 M t) u
noncomputable def f_Tape_isWord_J20 (a1 : Nat) (M : Mem) (x2 : Int32) : Option (Bool) := bnd (f_Tape_isWord_W20 a1 M x2) (fun e20 => some e20)
noncomputable def f_Tape_isWord (a1 : Nat) (M : Mem) : Option Bool := 
    if ((M 136 4) - (M 136 5)) = (f_Str_length a1) then f_Tape_isWord_J20 a1 M (0 : Int32) else some false
set_option maxHeartbeats 4000000 in
theorem wk_Tape_isWord {l : Launch} {Z : WD} (hI : wI Z) (hZ : IsC Z) (a1 : Nat) (M : Mem) (hs1 : a1 < 10) {r : Bool} {p : Program} {e : Env} {R : Room} {s : State} {m : MethodId} {args : Array Value} {below : List Frame} {meth : Method} {c : Code} {H : Heap} {locs : List Loc} {ls : Array Slot} {Q : State → Prop} (S : CallFix p m c b_Tape_isWord 3 s args gtb R_Tape) (hX : wX Z s) (hR : 4 ≤ R.frames ∧ 85 ≤ R.locals) (hQ : ∀ (pc : Nat) (H : Heap) (locs : List Loc) (ls : Array Slot), HW Z M s H locs → decode b_Tape_isWord pc = .ok (.ireturn, 1) → W p l e R s m args below meth c H locs 0 0 Q (F0 m pc ls [.int (bI r)])) (hf0 : f_Tape_isWord a1 M = some r) (hH : HW Z M s H locs) (hl : lv_has ls 3 [(0, .ref (Z.2.2.1 136)), (1, .ref (Z.2.2.2.2.2.1 a1))]) : W p l e R s m args below meth c H locs 0 0 Q (F0 m 0 ls []) := by
  have hx := S.1
  have hb := S.2.1
  have hown := S.2.2.2.1
  have ht := S.2.2.2.2
  unfold f_Tape_isWord at hf0
  have J20 : ∀ (x2 : Int32) (H : Heap) (locs : List Loc) (ls : Array Slot), f_Tape_isWord_J20 a1 M x2 = some r → HW Z M s H locs → lv_has ls 3 [(0, .ref (Z.2.2.1 136)), (1, .ref (Z.2.2.2.2.2.1 a1)), (2, .int x2)] → W p l e R s m args below meth c H locs 0 0 Q (F0 m 20 ls []) := by
    intro x2 H locs ls hf0 hH hl
    unfold f_Tape_isWord_J20 at hf0
    obtain ⟨e20, he20, hf0⟩ := o_b hf0
    unfold f_Tape_isWord_W20 at he20
    refine loop_W (fun t => ∀ (H : Heap) (locs : List Loc) (ls : Array Slot), HW Z M s H locs → lv_has ls 3 [(0, .ref (Z.2.2.1 136)), (1, .ref (Z.2.2.2.2.2.1 a1)), (2, .int t)] → W p l e R s m args below meth c H locs 0 0 Q (F0 m 20 ls [])) ?_ he20 H locs ls hH hl
    rintro x2 o1 hf1 hG1 hR1 H locs ls hH hl
    replace hH : HW Z M s H locs := hH
    replace hl : lv_has ls 3 [(0, .ref (Z.2.2.1 136)), (1, .ref (Z.2.2.2.2.2.1 a1)), (2, .int x2)] := hl
    replace hf1 : f_Tape_isWord_L20 a1 M x2 = some o1 := hf1
    unfold f_Tape_isWord_L20 at hf1
    refine lv_iload_n hx hb d_Tape_isWord_20 rfl (lv_at hl 2 rfl) ?_
    refine lv_aload_n hx hb d_Tape_isWord_21 rfl (lv_at hl 1 rfl) ?_
    refine q_cVi (As := []) (rest := [.int x2]) S hX hH (c_Str_length l hI a1 M hs1 rfl) (cw_Tape_177 S.2.2.2.2 (Nat.le_trans (Nat.le_of_ble_eq_true rfl) hR.1) (Nat.le_trans (Nat.le_of_ble_eq_true rfl) hR.2)) (rc_Str hX hH hs1) rfl hl.1 rfl (Nat.le_of_ble_eq_true rfl) d_Tape_isWord_22 ⟨Nat.zero_le _, Nat.zero_le _⟩ (fun H locs hH => ?_)
    refine lv_icmp_ge (tgt := 68) hx hb d_Tape_isWord_25 (by decide) (fun hc => ?_) (fun hc => ?_)
    · replace hf1 := o_t hc hf1
      refine lv_iconst (v := (1 : Int32)) hx hb d_Tape_isWord_68 (by decide) ?_
      obtain rfl := hR1 _ (o_v hf1).symm
      obtain rfl := o_v hf0
      exact hQ _ _ _ _ hH d_Tape_isWord_69
    · replace hf1 := o_f hc hf1
      refine lv_aload_n hx hb d_Tape_isWord_28 rfl (lv_at hl 0 rfl) ?_
      refine g_Tape_32 S hX hH hZ d_Tape_isWord_29 ?_
      refine lv_iload_n hx hb d_Tape_isWord_32 rfl (lv_at hl 2 rfl) ?_
      refine lv_iadd hx hb d_Tape_isWord_33 ?_
      refine lv_aload_n hx hb d_Tape_isWord_34 rfl (lv_at hl 0 rfl) ?_
      refine g_Tape_22 S hX hH hZ d_Tape_isWord_35 ?_
      refine lv_icmp_ge (tgt := 68) hx hb d_Tape_isWord_38 (by decide) (fun hc => ?_) (fun hc => ?_)
      · replace hf1 := o_t hc hf1
        refine lv_iconst (v := (1 : Int32)) hx hb d_Tape_isWord_68 (by decide) ?_
        obtain rfl := hR1 _ (o_v hf1).symm
        obtain rfl := o_v hf0
        exact hQ _ _ _ _ hH d_Tape_isWord_69
      · replace hf1 := o_f hc hf1
        refine lv_aload_n hx hb d_Tape_isWord_41 rfl (lv_at hl 0 rfl) ?_
        refine g_Tape_9 S hX hH hZ d_Tape_isWord_42 ?_
        refine lv_aload_n hx hb d_Tape_isWord_45 rfl (lv_at hl 0 rfl) ?_
        refine g_Tape_32 S hX hH hZ d_Tape_isWord_46 ?_
        refine lv_iload_n hx hb d_Tape_isWord_49 rfl (lv_at hl 2 rfl) ?_
        refine lv_iadd hx hb d_Tape_isWord_50 ?_
        obtain ⟨hn1, hf1⟩ := o_in hf1
        refine q_cald (j := ((M 136 5) + x2).toNatClampNeg) hx hb hX hH (aa_Tape hZ) hn1 rfl d_Tape_isWord_51 ?_
        refine lv_aload_n hx hb d_Tape_isWord_52 rfl (lv_at hl 1 rfl) ?_
        refine lv_iload_n hx hb d_Tape_isWord_53 rfl (lv_at hl 2 rfl) ?_
        obtain ⟨y3, hc2, hf1⟩ := o_b hf1
        refine q_cVi (As := [.int x2]) (rest := [.int (M 137 ((M 136 5) + x2).toNatClampNeg)]) S hX hH (c_Str_charAt l hI a1 M x2 hs1 hc2) (cw_Tape_181 S.2.2.2.2 (Nat.le_trans (Nat.le_of_ble_eq_true rfl) hR.1) (Nat.le_trans (Nat.le_of_ble_eq_true rfl) hR.2)) (rc_Str hX hH hs1) rfl hl.1 rfl (Nat.le_of_ble_eq_true rfl) d_Tape_isWord_54 ⟨Nat.zero_le _, Nat.zero_le _⟩ (fun H locs hH => ?_)
        refine lv_icmp_eq (tgt := 62) hx hb d_Tape_isWord_57 (by decide) (fun hc => ?_) (fun hc => ?_)
        · replace hf1 := o_t hc hf1
          refine lv_iinc (v := x2 + (1 : Int32)) (lv' := [(2, .int (x2 + (1 : Int32))), (0, .ref (Z.2.2.1 136)), (1, .ref (Z.2.2.2.2.2.1 a1))]) hx hb d_Tape_isWord_62 hl (k := 2) rfl rfl (by decide) rfl (fun ls hl => ?_)
          refine lv_goto (tgt := 20) hx hb d_Tape_isWord_65 (by decide) ?_
          exact hG1 _ (o_v hf1).symm _ _ _ hH (lv_sub hl [1, 2, 0] rfl)
        · replace hf1 := o_f hc hf1
          refine lv_iconst (v := (0 : Int32)) hx hb d_Tape_isWord_60 (by decide) ?_
          obtain rfl := hR1 _ (o_v hf1).symm
          obtain rfl := o_v hf0
          exact hQ _ _ _ _ hH d_Tape_isWord_61
  refine lv_aload_n hx hb d_Tape_isWord_0 rfl (lv_at hl 0 rfl) ?_
  refine g_Tape_29 S hX hH hZ d_Tape_isWord_1 ?_
  refine lv_aload_n hx hb d_Tape_isWord_4 rfl (lv_at hl 0 rfl) ?_
  refine g_Tape_32 S hX hH hZ d_Tape_isWord_5 ?_
  refine lv_isub hx hb d_Tape_isWord_8 ?_
  refine lv_aload_n hx hb d_Tape_isWord_9 rfl (lv_at hl 1 rfl) ?_
  refine q_cVi (As := []) (rest := [.int ((M 136 4) - (M 136 5))]) S hX hH (c_Str_length l hI a1 M hs1 rfl) (cw_Tape_177 S.2.2.2.2 (Nat.le_trans (Nat.le_of_ble_eq_true rfl) hR.1) (Nat.le_trans (Nat.le_of_ble_eq_true rfl) hR.2)) (rc_Str hX hH hs1) rfl hl.1 rfl (Nat.le_of_ble_eq_true rfl) d_Tape_isWord_10 ⟨Nat.zero_le _, Nat.zero_le _⟩ (fun H locs hH => ?_)
  refine lv_icmp_eq (tgt := 18) hx hb d_Tape_isWord_13 (by decide) (fun hc => ?_) (fun hc => ?_)
  · replace hf0 := o_t hc hf0
    refine lv_iconst (v := (0 : Int32)) hx hb d_Tape_isWord_18 (by decide) ?_
    refine lv_istore_n (lv' := [(2, .int (0 : Int32)), (0, .ref (Z.2.2.1 136)), (1, .ref (Z.2.2.2.2.2.1 a1))]) hx hb d_Tape_isWord_19 rfl hl (by decide) rfl (fun ls hl => ?_)
    exact J20 _ _ _ _ hf0 hH (lv_sub hl [1, 2, 0] rfl)
  · replace hf0 := o_f hc hf0
    refine lv_iconst (v := (0 : Int32)) hx hb d_Tape_isWord_16 (by decide) ?_
    obtain rfl := o_v hf0
    exact hQ _ _ _ _ hH d_Tape_isWord_17
theorem c_Tape_isWord (l : Launch) {Z : WD} (hI : wI Z) (hZ : IsC Z) (a1 : Nat) (M : Mem) (hs1 : a1 < 10) {r : Bool} (hf : f_Tape_isWord a1 M = some r) : Ci l Z y_Tape_isWord b_Tape_isWord 3 (some .boolean) 4 85 [.ref (Z.2.2.1 136), .ref (Z.2.2.2.2.2.1 a1)] M M (bI r) := by
  refine Met.ofW (cc := b_Tape_isWord) (maxL := 3) (ret := (some .boolean)) (by decide) rfl ?_
  intro p e s m args below meth c s₁ B hml hv
  obtain ⟨rfl, hP, hX⟩ := hv
  have S : CallFix p m c b_Tape_isWord 3 s ([.ref (Z.2.2.1 136), .ref (Z.2.2.2.2.2.1 a1)] : List Value).toArray gtb R_Tape := ⟨B.exec, B.bytes, hml, findClass_of_methodNamed B.named, fun w hw => atoms_spec (ws := .code y_Tape_isWord b_Tape_isWord 3 (some .boolean) :: gtb) B.pre w (List.mem_cons_of_mem _ hw)⟩
  have hl := lv_entry ([.ref (Z.2.2.1 136), .ref (Z.2.2.2.2.2.1 a1)]) (n := 3) (Nat.le_of_ble_eq_true rfl)
  rw [lg_entry_eq]
  exact wk_Tape_isWord hI hZ a1 M hs1 S hX ⟨Nat.le_refl _, Nat.le_refl _⟩ (fun pc H locs ls hH d => q_rz S.1 S.2.1 B.returns B.notSynchronized hH rfl rfl d) hf ⟨hP, va_S.rf⟩ hl
noncomputable def f_Tape_blame (M : Mem) (x1 : Int32) (x2 : Int32) : Option Mem := if (M 136 3) = 0 then lt1 (upM M 136 3 (((8 : Int32) * x1) + x2)) (fun M1 => some M1) else some M
set_option maxHeartbeats 4000000 in
theorem wk_Tape_blame {l : Launch} {Z : WD} (hI : wI Z) (hZ : IsC Z) (M : Mem) (x1 : Int32) (x2 : Int32) {M' : Mem} {p : Program} {e : Env} {R : Room} {s : State} {m : MethodId} {args : Array Value} {below : List Frame} {meth : Method} {c : Code} {H : Heap} {locs : List Loc} {ls : Array Slot} {Q : State → Prop} (S : CallFix p m c b_Tape_blame 3 s args gtb R_Tape) (hX : wX Z s) (hR : 0 ≤ R.frames ∧ 0 ≤ R.locals) (hQ : ∀ (pc : Nat) (H : Heap) (locs : List Loc) (ls : Array Slot), HW Z M' s H locs → decode b_Tape_blame pc = .ok (.return_, 1) → W p l e R s m args below meth c H locs 0 0 Q (F0 m pc ls [])) (hf0 : f_Tape_blame M x1 x2 = some M') (hH : HW Z M s H locs) (hl : lv_has ls 3 [(0, .ref (Z.2.2.1 136)), (1, .int x1), (2, .int x2)]) : W p l e R s m args below meth c H locs 0 0 Q (F0 m 0 ls []) := by
  have hx := S.1
  have hb := S.2.1
  have hown := S.2.2.2.1
  have ht := S.2.2.2.2
  unfold f_Tape_blame at hf0
  refine lv_aload_n hx hb d_Tape_blame_0 rfl (lv_at hl 0 rfl) ?_
  refine g_Tape_26 S hX hH hZ d_Tape_blame_1 ?_
  refine lv_if_ne (tgt := 17) hx hb d_Tape_blame_4 (by decide) (fun hc => ?_) (fun hc => ?_)
  · replace hf0 := o_f hc hf0
    obtain rfl := o_v hf0
    exact hQ _ _ _ _ hH d_Tape_blame_17
  · replace hf0 := o_t hc hf0
    refine lv_aload_n hx hb d_Tape_blame_7 rfl (lv_at hl 0 rfl) ?_
    refine lv_bipush (v := (8 : Int32)) hx hb d_Tape_blame_8 (by decide) ?_
    refine lv_iload_n hx hb d_Tape_blame_10 rfl (lv_at hl 1 rfl) ?_
    refine lv_imul hx hb d_Tape_blame_11 ?_
    refine lv_iload_n hx hb d_Tape_blame_12 rfl (lv_at hl 2 rfl) ?_
    refine lv_iadd hx hb d_Tape_blame_13 ?_
    obtain ⟨M1, hM1, hf0⟩ := o_l hf0
    refine s_Tape_26 S hX hI hH hZ d_Tape_blame_14 (fun H locs hH => ?_)
    rw [hM1] at hH
    obtain rfl := o_v hf0
    exact hQ _ _ _ _ hH d_Tape_blame_17
theorem c_Tape_blame (l : Launch) {Z : WD} (hI : wI Z) (hZ : IsC Z) (M : Mem) (x1 : Int32) (x2 : Int32) {M' : Mem} (hf : f_Tape_blame M x1 x2 = some M') : Cv l Z y_Tape_blame b_Tape_blame 3 none 0 0 [.ref (Z.2.2.1 136), .int x1, .int x2] M M' := by
  refine Met.ofW (cc := b_Tape_blame) (maxL := 3) (ret := none) (by decide) rfl ?_
  intro p e s m args below meth c s₁ B hml hv
  obtain ⟨rfl, hP, hX⟩ := hv
  have S : CallFix p m c b_Tape_blame 3 s ([.ref (Z.2.2.1 136), .int x1, .int x2] : List Value).toArray gtb R_Tape := ⟨B.exec, B.bytes, hml, findClass_of_methodNamed B.named, fun w hw => atoms_spec (ws := .code y_Tape_blame b_Tape_blame 3 none :: gtb) B.pre w (List.mem_cons_of_mem _ hw)⟩
  have hl := lv_entry ([.ref (Z.2.2.1 136), .int x1, .int x2]) (n := 3) (Nat.le_of_ble_eq_true rfl)
  rw [lg_entry_eq]
  exact wk_Tape_blame hI hZ M x1 x2 S hX ⟨Nat.le_refl _, Nat.le_refl _⟩ (fun pc H locs ls hH d => q_rv S.1 S.2.1 B.returns B.notSynchronized hH rfl d) hf ⟨hP, va_S.rf⟩ hl
noncomputable def f_Tape_isDigit_J16  : Bool := false
noncomputable def f_Tape_isDigit (x0 : Int32) : Bool := 
    if x0 < (48 : Int32) then f_Tape_isDigit_J16 else if (57 : Int32) < x0 then f_Tape_isDigit_J16 else true
set_option maxHeartbeats 4000000 in
theorem wk_Tape_isDigit {l : Launch} {Z : WD} (hI : wI Z) (M : Mem) (x0 : Int32) {r : Bool} {p : Program} {e : Env} {R : Room} {s : State} {m : MethodId} {args : Array Value} {below : List Frame} {meth : Method} {c : Code} {H : Heap} {locs : List Loc} {ls : Array Slot} {Q : State → Prop} (S : CallFix p m c b_Tape_isDigit 1 s args gtb R_Tape) (hX : wX Z s) (hR : 0 ≤ R.frames ∧ 0 ≤ R.locals) (hQ : ∀ (pc : Nat) (H : Heap) (locs : List Loc) (ls : Array Slot), HW Z M s H locs → decode b_Tape_isDigit pc = .ok (.ireturn, 1) → W p l e R s m args below meth c H locs 0 0 Q (F0 m pc ls [.int (bI r)])) (hf0 : f_Tape_isDigit x0 = r) (hH : HW Z M s H locs) (hl : lv_has ls 1 [(0, .int x0)]) : W p l e R s m args below meth c H locs 0 0 Q (F0 m 0 ls []) := by
  have hx := S.1
  have hb := S.2.1
  have hown := S.2.2.2.1
  have ht := S.2.2.2.2
  unfold f_Tape_isDigit at hf0
  have J16 : ∀ (H : Heap) (locs : List Loc) (ls : Array Slot), f_Tape_isDigit_J16 = r → HW Z M s H locs → lv_has ls 1 [] → W p l e R s m args below meth c H locs 0 0 Q (F0 m 16 ls []) := by
    intro H locs ls hf0 hH hl
    unfold f_Tape_isDigit_J16 at hf0
    refine lv_iconst (v := (0 : Int32)) hx hb d_Tape_isDigit_16 (by decide) ?_
    subst hf0
    exact hQ _ _ _ _ hH d_Tape_isDigit_17
  refine lv_iload_n hx hb d_Tape_isDigit_0 rfl (lv_at hl 0 rfl) ?_
  refine lv_bipush (v := (48 : Int32)) hx hb d_Tape_isDigit_1 (by decide) ?_
  refine lv_icmp_lt (tgt := 16) hx hb d_Tape_isDigit_3 (by decide) (fun hc => ?_) (fun hc => ?_)
  · replace hf0 := o_t hc hf0
    exact J16 _ _ _ hf0 hH (lv_sub hl [] rfl)
  · replace hf0 := o_f hc hf0
    refine lv_iload_n hx hb d_Tape_isDigit_6 rfl (lv_at hl 0 rfl) ?_
    refine lv_bipush (v := (57 : Int32)) hx hb d_Tape_isDigit_7 (by decide) ?_
    refine lv_icmp_gt (tgt := 16) hx hb d_Tape_isDigit_9 (by decide) (fun hc => ?_) (fun hc => ?_)
    · replace hf0 := o_t hc hf0
      exact J16 _ _ _ hf0 hH (lv_sub hl [] rfl)
    · replace hf0 := o_f hc hf0
      refine lv_iconst (v := (1 : Int32)) hx hb d_Tape_isDigit_12 (by decide) ?_
      refine lv_goto (tgt := 17) hx hb d_Tape_isDigit_13 (by decide) ?_
      subst hf0
      exact hQ _ _ _ _ hH d_Tape_isDigit_17
theorem c_Tape_isDigit (l : Launch) {Z : WD} (hI : wI Z) (M : Mem) (x0 : Int32) {r : Bool} (hf : f_Tape_isDigit x0 = r) : Ci l Z y_Tape_isDigit b_Tape_isDigit 1 (some .boolean) 0 0 [.int x0] M M (bI r) := by
  refine Met.ofW (cc := b_Tape_isDigit) (maxL := 1) (ret := (some .boolean)) (by decide) rfl ?_
  intro p e s m args below meth c s₁ B hml hv
  obtain ⟨rfl, hP, hX⟩ := hv
  have S : CallFix p m c b_Tape_isDigit 1 s ([.int x0] : List Value).toArray gtb R_Tape := ⟨B.exec, B.bytes, hml, findClass_of_methodNamed B.named, fun w hw => atoms_spec (ws := .code y_Tape_isDigit b_Tape_isDigit 1 (some .boolean) :: gtb) B.pre w (List.mem_cons_of_mem _ hw)⟩
  have hl := lv_entry ([.int x0]) (n := 1) (Nat.le_of_ble_eq_true rfl)
  rw [lg_entry_eq]
  exact wk_Tape_isDigit hI M x0 S hX ⟨Nat.le_refl _, Nat.le_refl _⟩ (fun pc H locs ls hH d => q_rz S.1 S.2.1 B.returns B.notSynchronized hH rfl rfl d) hf ⟨hP, va_S.rf⟩ hl
theorem cw_Tape_47 {R : Room} {s : State} {args : Array Value} (ht : ∀ w ∈ gtb, w.before args s = true) (h1 : 0 + 1 ≤ R.frames) (h2 : 8 + (3 + 11) + 0 ≤ R.locals) : CallW R s args R_Tape R_Tape 47 y_Tape_blame b_Tape_blame 3 none (.code y_Tape_blame b_Tape_blame 3 none :: gtb) { frames := 0, cells := 0, slots := 0, locals := 0 } 0 0 2 := cwV 2 ht (gV w2_178 w2_180 ws_Tape_blame w1_3 w2_181) rfl rfl rfl ⟨rfl, by decide, by decide, by decide +kernel⟩ ⟨h1, h2⟩
theorem cw_Tape_168 {R : Room} {s : State} {args : Array Value} (ht : ∀ w ∈ gtb, w.before args s = true) (h1 : 0 + 1 ≤ R.frames) (h2 : 8 + (1 + 11) + 0 ≤ R.locals) : CallB R s args R_Tape 168 y_Tape_isDigit b_Tape_isDigit 1 (some .boolean) (.code y_Tape_isDigit b_Tape_isDigit 1 (some .boolean) :: gtb) { frames := 0, cells := 0, slots := 0, locals := 0 } 0 0 1 ∧ (Cond.static y_Tape_isDigit).before args s = true := va_cwS 1 ht (gS w2_186 w2_187 w1_3 w2_188) rfl rfl rfl ⟨by decide, by decide, by decide +kernel⟩ ⟨h1, h2⟩
noncomputable def f_Tape_readNumber_J121 (M : Mem) (x1 : Int32) : Option (Int32 × Mem) := bnd (f_Tape_blame M (M 136 5) (2 : Int32)) (fun M2 => some (x1, M2))
noncomputable def f_Tape_readNumber_J111 (M : Mem) (x1 : Int32) (x2 : Int32) (x3 : Int32) : Option (Int32 × Mem) := if x3 < x1 then f_Tape_readNumber_J121 M x1 else if x3 ≤ x2 then some (x3, M) else f_Tape_readNumber_J121 M x1
noncomputable def f_Tape_readNumber_L49 (x3 : Int32) (M : Mem) : Option ((Int32 × Mem) ⊕ (Int32 × Mem)) := if (M 136 2) ≤ (M 136 4) then some (.inr (x3, M)) else 
    gIn (M 136 4) 400 (if (bI (f_Tape_isDigit (M 137 (M 136 4).toNatClampNeg))) = 0 then some (.inr (x3, M)) else 
    lt1 (miI (((x3 * (10 : Int32)) + (M 137 (M 136 4).toNatClampNeg)) - (48 : Int32)) (100 : Int32)) (fun y4 => lt1 (upM M 136 4 ((M 136 4) + (1 : Int32))) (fun M5 => some (.inl (y4, M5)))))
noncomputable def f_Tape_readNumber_W49  (u : (Int32 × Mem)) : Option (Int32 × Mem) := loop (fun t => f_Tape_readNumber_L49 t.1 t.2) u
noncomputable def f_Tape_readNumber_J49 (M : Mem) (x1 : Int32) (x2 : Int32) (x3 : Int32) : Option (Int32 × Mem) := bnd (f_Tape_readNumber_W49 (x3, M)) (fun e49 => f_Tape_readNumber_J111 e49.2 x1 x2 e49.1)
noncomputable def f_Tape_readNumber_J39 (M : Mem) (x1 : Int32) (x2 : Int32) : Option (Int32 × Mem) := lt1 (upM M 136 5 (M 136 4)) (fun M6 => f_Tape_readNumber_J49 M6 x1 x2 (0 : Int32))
noncomputable def f_Tape_readNumber_J30 (M : Mem) (x1 : Int32) (x2 : Int32) : Option (Int32 × Mem) := bnd (f_Tape_blame M (M 136 4) (1 : Int32)) (fun M8 => f_Tape_readNumber_J39 M8 x1 x2)
noncomputable def f_Tape_readNumber (M : Mem) (x1 : Int32) (x2 : Int32) : Option (Int32 × Mem) := 
    bnd (f_Tape_skipBlanks M) (fun M10 => 
    if (M10 136 2) ≤ (M10 136 4) then f_Tape_readNumber_J30 M10 x1 x2 else 
    gIn (M10 136 4) 400 (if (bI (f_Tape_isDigit (M10 137 (M10 136 4).toNatClampNeg))) = 0 then f_Tape_readNumber_J30 M10 x1 x2 else f_Tape_readNumber_J39 M10 x1 x2))
set_option maxHeartbeats 4000000 in
theorem wk_Tape_readNumber {l : Launch} {Z : WD} (hI : wI Z) (hZ : IsC Z) (M : Mem) (x1 : Int32) (x2 : Int32) {r : Int32} {M' : Mem} {p : Program} {e : Env} {R : Room} {s : State} {m : MethodId} {args : Array Value} {below : List Frame} {meth : Method} {c : Code} {H : Heap} {locs : List Loc} {ls : Array Slot} {Q : State → Prop} (S : CallFix p m c b_Tape_readNumber 4 s args gtb R_Tape) (hX : wX Z s) (hR : 1 ≤ R.frames ∧ 22 ≤ R.locals) (hQ : ∀ (pc : Nat) (H : Heap) (locs : List Loc) (ls : Array Slot), HW Z M' s H locs → decode b_Tape_readNumber pc = .ok (.ireturn, 1) → W p l e R s m args below meth c H locs 0 0 Q (F0 m pc ls [.int r])) (hf0 : f_Tape_readNumber M x1 x2 = some (r, M')) (hH : HW Z M s H locs) (hl : lv_has ls 4 [(0, .ref (Z.2.2.1 136)), (1, .int x1), (2, .int x2)]) : W p l e R s m args below meth c H locs 0 0 Q (F0 m 0 ls []) := by
  have hx := S.1
  have hb := S.2.1
  have hown := S.2.2.2.1
  have ht := S.2.2.2.2
  unfold f_Tape_readNumber at hf0
  have J121 : ∀ (M : Mem) (x1 : Int32) (H : Heap) (locs : List Loc) (ls : Array Slot), f_Tape_readNumber_J121 M x1 = some (r, M') → HW Z M s H locs → lv_has ls 4 [(0, .ref (Z.2.2.1 136)), (1, .int x1)] → W p l e R s m args below meth c H locs 0 0 Q (F0 m 121 ls []) := by
    intro M x1 H locs ls hf0 hH hl
    unfold f_Tape_readNumber_J121 at hf0
    refine lv_aload_n hx hb d_Tape_readNumber_121 rfl (lv_at hl 0 rfl) ?_
    refine lv_aload_n hx hb d_Tape_readNumber_122 rfl (lv_at hl 0 rfl) ?_
    refine g_Tape_32 S hX hH hZ d_Tape_readNumber_123 ?_
    refine lv_iconst (v := (2 : Int32)) hx hb d_Tape_readNumber_126 (by decide) ?_
    obtain ⟨M2, hc1, hf0⟩ := o_b hf0
    refine q_cVv (As := [.int (M 136 5), .int (2 : Int32)]) (rest := []) S hX hH (c_Tape_blame l hI hZ M (M 136 5) (2 : Int32) hc1) (cw_Tape_47 S.2.2.2.2 (Nat.le_trans (Nat.le_of_ble_eq_true rfl) hR.1) (Nat.le_trans (Nat.le_of_ble_eq_true rfl) hR.2)) (rc_Tape hX hH hZ) rfl hl.1 rfl (Nat.le_of_ble_eq_true rfl) d_Tape_readNumber_127 ⟨Nat.zero_le _, Nat.zero_le _⟩ (fun H locs hH => ?_)
    refine lv_iload_n hx hb d_Tape_readNumber_130 rfl (lv_at hl 1 rfl) ?_
    obtain ⟨rfl, rfl⟩ := o_p hf0
    exact hQ _ _ _ _ hH d_Tape_readNumber_131
  have J111 : ∀ (M : Mem) (x1 : Int32) (x2 : Int32) (x3 : Int32) (H : Heap) (locs : List Loc) (ls : Array Slot), f_Tape_readNumber_J111 M x1 x2 x3 = some (r, M') → HW Z M s H locs → lv_has ls 4 [(0, .ref (Z.2.2.1 136)), (1, .int x1), (2, .int x2), (3, .int x3)] → W p l e R s m args below meth c H locs 0 0 Q (F0 m 111 ls []) := by
    intro M x1 x2 x3 H locs ls hf0 hH hl
    unfold f_Tape_readNumber_J111 at hf0
    refine lv_iload_n hx hb d_Tape_readNumber_111 rfl (lv_at hl 3 rfl) ?_
    refine lv_iload_n hx hb d_Tape_readNumber_112 rfl (lv_at hl 1 rfl) ?_
    refine lv_icmp_lt (tgt := 121) hx hb d_Tape_readNumber_113 (by decide) (fun hc => ?_) (fun hc => ?_)
    · replace hf0 := o_t hc hf0
      exact J121 _ _ _ _ _ hf0 hH (lv_sub hl [0, 1] rfl)
    · replace hf0 := o_f hc hf0
      refine lv_iload_n hx hb d_Tape_readNumber_116 rfl (lv_at hl 3 rfl) ?_
      refine lv_iload_n hx hb d_Tape_readNumber_117 rfl (lv_at hl 2 rfl) ?_
      refine lv_icmp_le (tgt := 132) hx hb d_Tape_readNumber_118 (by decide) (fun hc => ?_) (fun hc => ?_)
      · replace hf0 := o_t hc hf0
        refine lv_iload_n hx hb d_Tape_readNumber_132 rfl (lv_at hl 3 rfl) ?_
        obtain ⟨rfl, rfl⟩ := o_p hf0
        exact hQ _ _ _ _ hH d_Tape_readNumber_133
      · replace hf0 := o_f hc hf0
        exact J121 _ _ _ _ _ hf0 hH (lv_sub hl [0, 1] rfl)
  have J49 : ∀ (M : Mem) (x1 : Int32) (x2 : Int32) (x3 : Int32) (H : Heap) (locs : List Loc) (ls : Array Slot), f_Tape_readNumber_J49 M x1 x2 x3 = some (r, M') → HW Z M s H locs → lv_has ls 4 [(0, .ref (Z.2.2.1 136)), (1, .int x1), (2, .int x2), (3, .int x3)] → W p l e R s m args below meth c H locs 0 0 Q (F0 m 49 ls []) := by
    intro M x1 x2 x3 H locs ls hf0 hH hl
    unfold f_Tape_readNumber_J49 at hf0
    obtain ⟨e49, he49, hf0⟩ := o_b hf0
    have KX49 : ∀ (H : Heap) (locs : List Loc) (ls : Array Slot), HW Z e49.2 s H locs → lv_has ls 4 [(0, .ref (Z.2.2.1 136)), (1, .int x1), (2, .int x2), (3, .int e49.1)] → W p l e R s m args below meth c H locs 0 0 Q (F0 m 111 ls []) := by
      intro H locs ls hH hl
      exact J111 _ _ _ _ _ _ _ hf0 hH (lv_sub hl [0, 1, 2, 3] rfl)
    unfold f_Tape_readNumber_W49 at he49
    refine loop_W (fun t => ∀ (H : Heap) (locs : List Loc) (ls : Array Slot), HW Z t.2 s H locs → lv_has ls 4 [(0, .ref (Z.2.2.1 136)), (1, .int x1), (2, .int x2), (3, .int t.1)] → W p l e R s m args below meth c H locs 0 0 Q (F0 m 49 ls [])) ?_ he49 H locs ls hH hl
    rintro ⟨x3, M⟩ o1 hf1 hG1 hR1 H locs ls hH hl
    replace hH : HW Z M s H locs := hH
    replace hl : lv_has ls 4 [(0, .ref (Z.2.2.1 136)), (1, .int x1), (2, .int x2), (3, .int x3)] := hl
    replace hf1 : f_Tape_readNumber_L49 x3 M = some o1 := hf1
    unfold f_Tape_readNumber_L49 at hf1
    refine lv_aload_n hx hb d_Tape_readNumber_49 rfl (lv_at hl 0 rfl) ?_
    refine g_Tape_29 S hX hH hZ d_Tape_readNumber_50 ?_
    refine lv_aload_n hx hb d_Tape_readNumber_53 rfl (lv_at hl 0 rfl) ?_
    refine g_Tape_22 S hX hH hZ d_Tape_readNumber_54 ?_
    refine lv_icmp_ge (tgt := 111) hx hb d_Tape_readNumber_57 (by decide) (fun hc => ?_) (fun hc => ?_)
    · replace hf1 := o_t hc hf1
      obtain rfl := hR1 _ (o_v hf1).symm
      exact KX49 _ _ _ hH (lv_sub hl [0, 1, 2, 3] rfl)
    · replace hf1 := o_f hc hf1
      refine lv_aload_n hx hb d_Tape_readNumber_60 rfl (lv_at hl 0 rfl) ?_
      refine g_Tape_9 S hX hH hZ d_Tape_readNumber_61 ?_
      refine lv_aload_n hx hb d_Tape_readNumber_64 rfl (lv_at hl 0 rfl) ?_
      refine g_Tape_29 S hX hH hZ d_Tape_readNumber_65 ?_
      obtain ⟨hn3, hf1⟩ := o_in hf1
      refine q_cald (j := (M 136 4).toNatClampNeg) hx hb hX hH (aa_Tape hZ) hn3 rfl d_Tape_readNumber_68 ?_
      refine q_cSi (As := [.int (M 137 (M 136 4).toNatClampNeg)]) (rest := []) S hX hH (c_Tape_isDigit l hI M (M 137 (M 136 4).toNatClampNeg) rfl) (cw_Tape_168 S.2.2.2.2 (Nat.le_trans (Nat.le_of_ble_eq_true rfl) hR.1) (Nat.le_trans (Nat.le_of_ble_eq_true rfl) hR.2)) rfl hl.1 rfl (Nat.le_of_ble_eq_true rfl) d_Tape_readNumber_69 ⟨Nat.zero_le _, Nat.zero_le _⟩ (fun H locs hH => ?_)
      refine lv_if_eq (tgt := 111) hx hb d_Tape_readNumber_72 (by decide) (fun hc => ?_) (fun hc => ?_)
      · replace hf1 := o_t hc hf1
        obtain rfl := hR1 _ (o_v hf1).symm
        exact KX49 _ _ _ hH (lv_sub hl [0, 1, 2, 3] rfl)
      · replace hf1 := o_f hc hf1
        refine lv_iload_n hx hb d_Tape_readNumber_75 rfl (lv_at hl 3 rfl) ?_
        refine lv_bipush (v := (10 : Int32)) hx hb d_Tape_readNumber_76 (by decide) ?_
        refine lv_imul hx hb d_Tape_readNumber_78 ?_
        refine lv_aload_n hx hb d_Tape_readNumber_79 rfl (lv_at hl 0 rfl) ?_
        refine g_Tape_9 S hX hH hZ d_Tape_readNumber_80 ?_
        refine lv_aload_n hx hb d_Tape_readNumber_83 rfl (lv_at hl 0 rfl) ?_
        refine g_Tape_29 S hX hH hZ d_Tape_readNumber_84 ?_
        refine q_cald (j := (M 136 4).toNatClampNeg) hx hb hX hH (aa_Tape hZ) hn3 rfl d_Tape_readNumber_87 ?_
        refine lv_iadd hx hb d_Tape_readNumber_88 ?_
        refine lv_bipush (v := (48 : Int32)) hx hb d_Tape_readNumber_89 (by decide) ?_
        refine lv_isub hx hb d_Tape_readNumber_91 ?_
        refine lv_bipush (v := (100 : Int32)) hx hb d_Tape_readNumber_92 (by decide) ?_
        refine q_min S hl.1 w2_189 w2_61 w1_9 w2_62 (Nat.le_trans (Nat.le_of_ble_eq_true rfl) hR.1) (Nat.le_trans (Nat.le_of_ble_eq_true rfl) hR.2) d_Tape_readNumber_94 ?_
        obtain ⟨y4, hy4, hf1⟩ := o_l hf1
        refine lv_nm hy4 ?_
        refine lv_istore_n (lv' := [(3, .int y4), (0, .ref (Z.2.2.1 136)), (1, .int x1), (2, .int x2)]) hx hb d_Tape_readNumber_97 rfl hl (by decide) rfl (fun ls hl => ?_)
        refine lv_aload_n hx hb d_Tape_readNumber_98 rfl (lv_at hl 1 rfl) ?_
        refine lv_dup hx hb d_Tape_readNumber_99 rfl ?_
        refine g_Tape_29 S hX hH hZ d_Tape_readNumber_100 ?_
        refine lv_iconst (v := (1 : Int32)) hx hb d_Tape_readNumber_103 (by decide) ?_
        refine lv_iadd hx hb d_Tape_readNumber_104 ?_
        obtain ⟨M5, hM5, hf1⟩ := o_l hf1
        refine s_Tape_29 S hX hI hH hZ d_Tape_readNumber_105 (fun H locs hH => ?_)
        rw [hM5] at hH
        refine lv_goto (tgt := 49) hx hb d_Tape_readNumber_108 (by decide) ?_
        exact hG1 _ (o_v hf1).symm _ _ _ hH (lv_sub hl [1, 2, 3, 0] rfl)
  have J39 : ∀ (M : Mem) (x1 : Int32) (x2 : Int32) (H : Heap) (locs : List Loc) (ls : Array Slot), f_Tape_readNumber_J39 M x1 x2 = some (r, M') → HW Z M s H locs → lv_has ls 4 [(0, .ref (Z.2.2.1 136)), (1, .int x1), (2, .int x2)] → W p l e R s m args below meth c H locs 0 0 Q (F0 m 39 ls []) := by
    intro M x1 x2 H locs ls hf0 hH hl
    unfold f_Tape_readNumber_J39 at hf0
    refine lv_aload_n hx hb d_Tape_readNumber_39 rfl (lv_at hl 0 rfl) ?_
    refine lv_aload_n hx hb d_Tape_readNumber_40 rfl (lv_at hl 0 rfl) ?_
    refine g_Tape_29 S hX hH hZ d_Tape_readNumber_41 ?_
    obtain ⟨M6, hM6, hf0⟩ := o_l hf0
    refine s_Tape_32 S hX hI hH hZ d_Tape_readNumber_44 (fun H locs hH => ?_)
    rw [hM6] at hH
    refine lv_iconst (v := (0 : Int32)) hx hb d_Tape_readNumber_47 (by decide) ?_
    refine lv_istore_n (lv' := [(3, .int (0 : Int32)), (0, .ref (Z.2.2.1 136)), (1, .int x1), (2, .int x2)]) hx hb d_Tape_readNumber_48 rfl hl (by decide) rfl (fun ls hl => ?_)
    exact J49 _ _ _ _ _ _ _ hf0 hH (lv_sub hl [1, 2, 3, 0] rfl)
  have J30 : ∀ (M : Mem) (x1 : Int32) (x2 : Int32) (H : Heap) (locs : List Loc) (ls : Array Slot), f_Tape_readNumber_J30 M x1 x2 = some (r, M') → HW Z M s H locs → lv_has ls 4 [(0, .ref (Z.2.2.1 136)), (1, .int x1), (2, .int x2)] → W p l e R s m args below meth c H locs 0 0 Q (F0 m 30 ls []) := by
    intro M x1 x2 H locs ls hf0 hH hl
    unfold f_Tape_readNumber_J30 at hf0
    refine lv_aload_n hx hb d_Tape_readNumber_30 rfl (lv_at hl 0 rfl) ?_
    refine lv_aload_n hx hb d_Tape_readNumber_31 rfl (lv_at hl 0 rfl) ?_
    refine g_Tape_29 S hX hH hZ d_Tape_readNumber_32 ?_
    refine lv_iconst (v := (1 : Int32)) hx hb d_Tape_readNumber_35 (by decide) ?_
    obtain ⟨M8, hc7, hf0⟩ := o_b hf0
    refine q_cVv (As := [.int (M 136 4), .int (1 : Int32)]) (rest := []) S hX hH (c_Tape_blame l hI hZ M (M 136 4) (1 : Int32) hc7) (cw_Tape_47 S.2.2.2.2 (Nat.le_trans (Nat.le_of_ble_eq_true rfl) hR.1) (Nat.le_trans (Nat.le_of_ble_eq_true rfl) hR.2)) (rc_Tape hX hH hZ) rfl hl.1 rfl (Nat.le_of_ble_eq_true rfl) d_Tape_readNumber_36 ⟨Nat.zero_le _, Nat.zero_le _⟩ (fun H locs hH => ?_)
    exact J39 _ _ _ _ _ _ hf0 hH (lv_sub hl [0, 1, 2] rfl)
  refine lv_aload_n hx hb d_Tape_readNumber_0 rfl (lv_at hl 0 rfl) ?_
  obtain ⟨M10, hc9, hf0⟩ := o_b hf0
  refine q_cVv (As := []) (rest := []) S hX hH (c_Tape_skipBlanks l hI hZ M hc9) (cw_Tape_58 S.2.2.2.2 (Nat.le_trans (Nat.le_of_ble_eq_true rfl) hR.1) (Nat.le_trans (Nat.le_of_ble_eq_true rfl) hR.2)) (rc_Tape hX hH hZ) rfl hl.1 rfl (Nat.le_of_ble_eq_true rfl) d_Tape_readNumber_1 ⟨Nat.zero_le _, Nat.zero_le _⟩ (fun H locs hH => ?_)
  refine lv_aload_n hx hb d_Tape_readNumber_4 rfl (lv_at hl 0 rfl) ?_
  refine g_Tape_29 S hX hH hZ d_Tape_readNumber_5 ?_
  refine lv_aload_n hx hb d_Tape_readNumber_8 rfl (lv_at hl 0 rfl) ?_
  refine g_Tape_22 S hX hH hZ d_Tape_readNumber_9 ?_
  refine lv_icmp_ge (tgt := 30) hx hb d_Tape_readNumber_12 (by decide) (fun hc => ?_) (fun hc => ?_)
  · replace hf0 := o_t hc hf0
    exact J30 _ _ _ _ _ _ hf0 hH (lv_sub hl [0, 1, 2] rfl)
  · replace hf0 := o_f hc hf0
    refine lv_aload_n hx hb d_Tape_readNumber_15 rfl (lv_at hl 0 rfl) ?_
    refine g_Tape_9 S hX hH hZ d_Tape_readNumber_16 ?_
    refine lv_aload_n hx hb d_Tape_readNumber_19 rfl (lv_at hl 0 rfl) ?_
    refine g_Tape_29 S hX hH hZ d_Tape_readNumber_20 ?_
    obtain ⟨hn11, hf0⟩ := o_in hf0
    refine q_cald (j := (M10 136 4).toNatClampNeg) hx hb hX hH (aa_Tape hZ) hn11 rfl d_Tape_readNumber_23 ?_
    refine q_cSi (As := [.int (M10 137 (M10 136 4).toNatClampNeg)]) (rest := []) S hX hH (c_Tape_isDigit l hI M10 (M10 137 (M10 136 4).toNatClampNeg) rfl) (cw_Tape_168 S.2.2.2.2 (Nat.le_trans (Nat.le_of_ble_eq_true rfl) hR.1) (Nat.le_trans (Nat.le_of_ble_eq_true rfl) hR.2)) rfl hl.1 rfl (Nat.le_of_ble_eq_true rfl) d_Tape_readNumber_24 ⟨Nat.zero_le _, Nat.zero_le _⟩ (fun H locs hH => ?_)
    refine lv_if_ne (tgt := 39) hx hb d_Tape_readNumber_27 (by decide) (fun hc => ?_) (fun hc => ?_)
    · replace hf0 := o_f hc hf0
      exact J39 _ _ _ _ _ _ hf0 hH (lv_sub hl [0, 1, 2] rfl)
    · replace hf0 := o_t hc hf0
      exact J30 _ _ _ _ _ _ hf0 hH (lv_sub hl [0, 1, 2] rfl)
theorem c_Tape_readNumber (l : Launch) {Z : WD} (hI : wI Z) (hZ : IsC Z) (M : Mem) (x1 : Int32) (x2 : Int32) {r : Int32} {M' : Mem} (hf : f_Tape_readNumber M x1 x2 = some (r, M')) : Ci l Z y_Tape_readNumber b_Tape_readNumber 4 (some .int) 1 22 [.ref (Z.2.2.1 136), .int x1, .int x2] M M' r := by
  refine Met.ofW (cc := b_Tape_readNumber) (maxL := 4) (ret := (some .int)) (by decide) rfl ?_
  intro p e s m args below meth c s₁ B hml hv
  obtain ⟨rfl, hP, hX⟩ := hv
  have S : CallFix p m c b_Tape_readNumber 4 s ([.ref (Z.2.2.1 136), .int x1, .int x2] : List Value).toArray gtb R_Tape := ⟨B.exec, B.bytes, hml, findClass_of_methodNamed B.named, fun w hw => atoms_spec (ws := .code y_Tape_readNumber b_Tape_readNumber 4 (some .int) :: gtb) B.pre w (List.mem_cons_of_mem _ hw)⟩
  have hl := lv_entry ([.ref (Z.2.2.1 136), .int x1, .int x2]) (n := 4) (Nat.le_of_ble_eq_true rfl)
  rw [lg_entry_eq]
  exact wk_Tape_readNumber hI hZ M x1 x2 S hX ⟨Nat.le_refl _, Nat.le_refl _⟩ (fun pc H locs ls hH d => q_ri S.1 S.2.1 B.returns B.notSynchronized hH rfl rfl d) hf ⟨hP, va_S.rf⟩ hl
noncomputable def f_Tape_readSign_J41 (M : Mem) : Option (Mem) := bnd (f_Tape_blame M (M 136 4) (1 : Int32)) (fun M2 => some M2)
noncomputable def f_Tape_readSign (M : Mem) (x1 : Int32) : Option Mem := 
    bnd (f_Tape_skipBlanks M) (fun M4 => 
    if (M4 136 2) ≤ (M4 136 4) then f_Tape_readSign_J41 M4 else 
    gIn (M4 136 4) 400 (if (M4 137 (M4 136 4).toNatClampNeg) = x1 then lt1 (upM M4 136 4 ((M4 136 4) + (1 : Int32))) (fun M6 => some M6) else f_Tape_readSign_J41 M4))
set_option maxHeartbeats 4000000 in
theorem wk_Tape_readSign {l : Launch} {Z : WD} (hI : wI Z) (hZ : IsC Z) (M : Mem) (x1 : Int32) {M' : Mem} {p : Program} {e : Env} {R : Room} {s : State} {m : MethodId} {args : Array Value} {below : List Frame} {meth : Method} {c : Code} {H : Heap} {locs : List Loc} {ls : Array Slot} {Q : State → Prop} (S : CallFix p m c b_Tape_readSign 2 s args gtb R_Tape) (hX : wX Z s) (hR : 1 ≤ R.frames ∧ 22 ≤ R.locals) (hQ : ∀ (pc : Nat) (H : Heap) (locs : List Loc) (ls : Array Slot), HW Z M' s H locs → decode b_Tape_readSign pc = .ok (.return_, 1) → W p l e R s m args below meth c H locs 0 0 Q (F0 m pc ls [])) (hf0 : f_Tape_readSign M x1 = some M') (hH : HW Z M s H locs) (hl : lv_has ls 2 [(0, .ref (Z.2.2.1 136)), (1, .int x1)]) : W p l e R s m args below meth c H locs 0 0 Q (F0 m 0 ls []) := by
  have hx := S.1
  have hb := S.2.1
  have hown := S.2.2.2.1
  have ht := S.2.2.2.2
  unfold f_Tape_readSign at hf0
  have J41 : ∀ (M : Mem) (H : Heap) (locs : List Loc) (ls : Array Slot), f_Tape_readSign_J41 M = some M' → HW Z M s H locs → lv_has ls 2 [(0, .ref (Z.2.2.1 136))] → W p l e R s m args below meth c H locs 0 0 Q (F0 m 41 ls []) := by
    intro M H locs ls hf0 hH hl
    unfold f_Tape_readSign_J41 at hf0
    refine lv_aload_n hx hb d_Tape_readSign_41 rfl (lv_at hl 0 rfl) ?_
    refine lv_aload_n hx hb d_Tape_readSign_42 rfl (lv_at hl 0 rfl) ?_
    refine g_Tape_29 S hX hH hZ d_Tape_readSign_43 ?_
    refine lv_iconst (v := (1 : Int32)) hx hb d_Tape_readSign_46 (by decide) ?_
    obtain ⟨M2, hc1, hf0⟩ := o_b hf0
    refine q_cVv (As := [.int (M 136 4), .int (1 : Int32)]) (rest := []) S hX hH (c_Tape_blame l hI hZ M (M 136 4) (1 : Int32) hc1) (cw_Tape_47 S.2.2.2.2 (Nat.le_trans (Nat.le_of_ble_eq_true rfl) hR.1) (Nat.le_trans (Nat.le_of_ble_eq_true rfl) hR.2)) (rc_Tape hX hH hZ) rfl hl.1 rfl (Nat.le_of_ble_eq_true rfl) d_Tape_readSign_47 ⟨Nat.zero_le _, Nat.zero_le _⟩ (fun H locs hH => ?_)
    obtain rfl := o_v hf0
    exact hQ _ _ _ _ hH d_Tape_readSign_50
  refine lv_aload_n hx hb d_Tape_readSign_0 rfl (lv_at hl 0 rfl) ?_
  obtain ⟨M4, hc3, hf0⟩ := o_b hf0
  refine q_cVv (As := []) (rest := []) S hX hH (c_Tape_skipBlanks l hI hZ M hc3) (cw_Tape_58 S.2.2.2.2 (Nat.le_trans (Nat.le_of_ble_eq_true rfl) hR.1) (Nat.le_trans (Nat.le_of_ble_eq_true rfl) hR.2)) (rc_Tape hX hH hZ) rfl hl.1 rfl (Nat.le_of_ble_eq_true rfl) d_Tape_readSign_1 ⟨Nat.zero_le _, Nat.zero_le _⟩ (fun H locs hH => ?_)
  refine lv_aload_n hx hb d_Tape_readSign_4 rfl (lv_at hl 0 rfl) ?_
  refine g_Tape_29 S hX hH hZ d_Tape_readSign_5 ?_
  refine lv_aload_n hx hb d_Tape_readSign_8 rfl (lv_at hl 0 rfl) ?_
  refine g_Tape_22 S hX hH hZ d_Tape_readSign_9 ?_
  refine lv_icmp_ge (tgt := 41) hx hb d_Tape_readSign_12 (by decide) (fun hc => ?_) (fun hc => ?_)
  · replace hf0 := o_t hc hf0
    exact J41 _ _ _ _ hf0 hH (lv_sub hl [0] rfl)
  · replace hf0 := o_f hc hf0
    refine lv_aload_n hx hb d_Tape_readSign_15 rfl (lv_at hl 0 rfl) ?_
    refine g_Tape_9 S hX hH hZ d_Tape_readSign_16 ?_
    refine lv_aload_n hx hb d_Tape_readSign_19 rfl (lv_at hl 0 rfl) ?_
    refine g_Tape_29 S hX hH hZ d_Tape_readSign_20 ?_
    obtain ⟨hn5, hf0⟩ := o_in hf0
    refine q_cald (j := (M4 136 4).toNatClampNeg) hx hb hX hH (aa_Tape hZ) hn5 rfl d_Tape_readSign_23 ?_
    refine lv_iload_n hx hb d_Tape_readSign_24 rfl (lv_at hl 1 rfl) ?_
    refine lv_icmp_ne (tgt := 41) hx hb d_Tape_readSign_25 (by decide) (fun hc => ?_) (fun hc => ?_)
    · replace hf0 := o_f hc hf0
      exact J41 _ _ _ _ hf0 hH (lv_sub hl [0] rfl)
    · replace hf0 := o_t hc hf0
      refine lv_aload_n hx hb d_Tape_readSign_28 rfl (lv_at hl 0 rfl) ?_
      refine lv_dup hx hb d_Tape_readSign_29 rfl ?_
      refine g_Tape_29 S hX hH hZ d_Tape_readSign_30 ?_
      refine lv_iconst (v := (1 : Int32)) hx hb d_Tape_readSign_33 (by decide) ?_
      refine lv_iadd hx hb d_Tape_readSign_34 ?_
      obtain ⟨M6, hM6, hf0⟩ := o_l hf0
      refine s_Tape_29 S hX hI hH hZ d_Tape_readSign_35 (fun H locs hH => ?_)
      rw [hM6] at hH
      refine lv_goto (tgt := 50) hx hb d_Tape_readSign_38 (by decide) ?_
      obtain rfl := o_v hf0
      exact hQ _ _ _ _ hH d_Tape_readSign_50
theorem c_Tape_readSign (l : Launch) {Z : WD} (hI : wI Z) (hZ : IsC Z) (M : Mem) (x1 : Int32) {M' : Mem} (hf : f_Tape_readSign M x1 = some M') : Cv l Z y_Tape_readSign b_Tape_readSign 2 none 1 22 [.ref (Z.2.2.1 136), .int x1] M M' := by
  refine Met.ofW (cc := b_Tape_readSign) (maxL := 2) (ret := none) (by decide) rfl ?_
  intro p e s m args below meth c s₁ B hml hv
  obtain ⟨rfl, hP, hX⟩ := hv
  have S : CallFix p m c b_Tape_readSign 2 s ([.ref (Z.2.2.1 136), .int x1] : List Value).toArray gtb R_Tape := ⟨B.exec, B.bytes, hml, findClass_of_methodNamed B.named, fun w hw => atoms_spec (ws := .code y_Tape_readSign b_Tape_readSign 2 none :: gtb) B.pre w (List.mem_cons_of_mem _ hw)⟩
  have hl := lv_entry ([.ref (Z.2.2.1 136), .int x1]) (n := 2) (Nat.le_of_ble_eq_true rfl)
  rw [lg_entry_eq]
  exact wk_Tape_readSign hI hZ M x1 S hX ⟨Nat.le_refl _, Nat.le_refl _⟩ (fun pc H locs ls hH d => q_rv S.1 S.2.1 B.returns B.notSynchronized hH rfl d) hf ⟨hP, va_S.rf⟩ hl
theorem cw_Tape_43 {R : Room} {s : State} {args : Array Value} (ht : ∀ w ∈ gtb, w.before args s = true) (h1 : 4 + 1 ≤ R.frames) (h2 : 8 + (3 + 11) + 85 ≤ R.locals) : CallW R s args R_Tape R_Tape 43 y_Tape_isWord b_Tape_isWord 3 (some .boolean) (.code y_Tape_isWord b_Tape_isWord 3 (some .boolean) :: gtb) { frames := 4, cells := 0, slots := 0, locals := 85 } 0 0 1 := cwV 1 ht (gV w2_126 w2_128 ws_Tape_isWord w1_3 w2_129) rfl rfl rfl ⟨rfl, by decide, by decide, by decide +kernel⟩ ⟨h1, h2⟩
noncomputable def f_Tape_partOf (M : Mem) : Option Int32 := 
    bnd (f_Tape_isWord 1 M) (fun y2 => 
    if (bI y2) = 0 then 
    bnd (f_Tape_isWord 2 M) (fun y4 => 
    if (bI y4) = 0 then 
    bnd (f_Tape_isWord 3 M) (fun y6 => 
    if (bI y6) = 0 then 
    bnd (f_Tape_isWord 4 M) (fun y8 => 
    if (bI y8) = 0 then 
    bnd (f_Tape_isWord 5 M) (fun y10 => 
    if (bI y10) = 0 then 
    bnd (f_Tape_isWord 6 M) (fun y12 => 
    if (bI y12) = 0 then 
    bnd (f_Tape_isWord 7 M) (fun y14 => 
    if (bI y14) = 0 then 
    bnd (f_Tape_isWord 8 M) (fun y16 => 
    if (bI y16) = 0 then bnd (f_Tape_isWord 9 M) (fun y18 => if (bI y18) = 0 then some (-1 : Int32) else some (8 : Int32)) else some (7 : Int32)) else some (6 : Int32)) else some (5 : Int32)) else some (4 : Int32)) else some (3 : Int32)) else some (2 : Int32)) else some (1 : Int32)) else some (0 : Int32))
set_option maxHeartbeats 4000000 in
theorem wk_Tape_partOf {l : Launch} {Z : WD} (hI : wI Z) (hZ : IsC Z) (M : Mem) {r : Int32} {p : Program} {e : Env} {R : Room} {s : State} {m : MethodId} {args : Array Value} {below : List Frame} {meth : Method} {c : Code} {H : Heap} {locs : List Loc} {ls : Array Slot} {Q : State → Prop} (S : CallFix p m c b_Tape_partOf 1 s args gtb R_Tape) (hX : wX Z s) (hR : 5 ≤ R.frames ∧ 107 ≤ R.locals) (hQ : ∀ (pc : Nat) (H : Heap) (locs : List Loc) (ls : Array Slot), HW Z M s H locs → decode b_Tape_partOf pc = .ok (.ireturn, 1) → W p l e R s m args below meth c H locs 0 0 Q (F0 m pc ls [.int r])) (hf0 : f_Tape_partOf M = some r) (hH : HW Z M s H locs) (hl : lv_has ls 1 [(0, .ref (Z.2.2.1 136))]) : W p l e R s m args below meth c H locs 0 0 Q (F0 m 0 ls []) := by
  have hx := S.1
  have hb := S.2.1
  have hown := S.2.2.2.1
  have ht := S.2.2.2.2
  unfold f_Tape_partOf at hf0
  refine lv_aload_n hx hb d_Tape_partOf_0 rfl (lv_at hl 0 rfl) ?_
  refine va_ldcS hx hb hown (hX.2.2.1 ("MarkedChains$Tape", 95, "sender", 1) (by decide)) d_Tape_partOf_1 ?_
  obtain ⟨y2, hc1, hf0⟩ := o_b hf0
  refine q_cVi (As := [.ref (Z.2.2.2.2.2.1 1)]) (rest := []) S hX hH (c_Tape_isWord l hI hZ 1 M (by decide) hc1) (cw_Tape_43 S.2.2.2.2 (Nat.le_trans (Nat.le_of_ble_eq_true rfl) hR.1) (Nat.le_trans (Nat.le_of_ble_eq_true rfl) hR.2)) (rc_Tape hX hH hZ) rfl hl.1 rfl (Nat.le_of_ble_eq_true rfl) d_Tape_partOf_3 ⟨Nat.zero_le _, Nat.zero_le _⟩ (fun H locs hH => ?_)
  refine lv_if_eq (tgt := 11) hx hb d_Tape_partOf_6 (by decide) (fun hc => ?_) (fun hc => ?_)
  · replace hf0 := o_t hc hf0
    refine lv_aload_n hx hb d_Tape_partOf_11 rfl (lv_at hl 0 rfl) ?_
    refine va_ldcS hx hb hown (hX.2.2.1 ("MarkedChains$Tape", 97, "value", 2) (by decide)) d_Tape_partOf_12 ?_
    obtain ⟨y4, hc3, hf0⟩ := o_b hf0
    refine q_cVi (As := [.ref (Z.2.2.2.2.2.1 2)]) (rest := []) S hX hH (c_Tape_isWord l hI hZ 2 M (by decide) hc3) (cw_Tape_43 S.2.2.2.2 (Nat.le_trans (Nat.le_of_ble_eq_true rfl) hR.1) (Nat.le_trans (Nat.le_of_ble_eq_true rfl) hR.2)) (rc_Tape hX hH hZ) rfl hl.1 rfl (Nat.le_of_ble_eq_true rfl) d_Tape_partOf_14 ⟨Nat.zero_le _, Nat.zero_le _⟩ (fun H locs hH => ?_)
    refine lv_if_eq (tgt := 22) hx hb d_Tape_partOf_17 (by decide) (fun hc => ?_) (fun hc => ?_)
    · replace hf0 := o_t hc hf0
      refine lv_aload_n hx hb d_Tape_partOf_22 rfl (lv_at hl 0 rfl) ?_
      refine va_ldcS hx hb hown (hX.2.2.1 ("MarkedChains$Tape", 99, "rounds", 3) (by decide)) d_Tape_partOf_23 ?_
      obtain ⟨y6, hc5, hf0⟩ := o_b hf0
      refine q_cVi (As := [.ref (Z.2.2.2.2.2.1 3)]) (rest := []) S hX hH (c_Tape_isWord l hI hZ 3 M (by decide) hc5) (cw_Tape_43 S.2.2.2.2 (Nat.le_trans (Nat.le_of_ble_eq_true rfl) hR.1) (Nat.le_trans (Nat.le_of_ble_eq_true rfl) hR.2)) (rc_Tape hX hH hZ) rfl hl.1 rfl (Nat.le_of_ble_eq_true rfl) d_Tape_partOf_25 ⟨Nat.zero_le _, Nat.zero_le _⟩ (fun H locs hH => ?_)
      refine lv_if_eq (tgt := 33) hx hb d_Tape_partOf_28 (by decide) (fun hc => ?_) (fun hc => ?_)
      · replace hf0 := o_t hc hf0
        refine lv_aload_n hx hb d_Tape_partOf_33 rfl (lv_at hl 0 rfl) ?_
        refine va_ldcS hx hb hown (hX.2.2.1 ("MarkedChains$Tape", 101, "default", 4) (by decide)) d_Tape_partOf_34 ?_
        obtain ⟨y8, hc7, hf0⟩ := o_b hf0
        refine q_cVi (As := [.ref (Z.2.2.2.2.2.1 4)]) (rest := []) S hX hH (c_Tape_isWord l hI hZ 4 M (by decide) hc7) (cw_Tape_43 S.2.2.2.2 (Nat.le_trans (Nat.le_of_ble_eq_true rfl) hR.1) (Nat.le_trans (Nat.le_of_ble_eq_true rfl) hR.2)) (rc_Tape hX hH hZ) rfl hl.1 rfl (Nat.le_of_ble_eq_true rfl) d_Tape_partOf_36 ⟨Nat.zero_le _, Nat.zero_le _⟩ (fun H locs hH => ?_)
        refine lv_if_eq (tgt := 44) hx hb d_Tape_partOf_39 (by decide) (fun hc => ?_) (fun hc => ?_)
        · replace hf0 := o_t hc hf0
          refine lv_aload_n hx hb d_Tape_partOf_44 rfl (lv_at hl 0 rfl) ?_
          refine va_ldcS hx hb hown (hX.2.2.1 ("MarkedChains$Tape", 103, "cut", 5) (by decide)) d_Tape_partOf_45 ?_
          obtain ⟨y10, hc9, hf0⟩ := o_b hf0
          refine q_cVi (As := [.ref (Z.2.2.2.2.2.1 5)]) (rest := []) S hX hH (c_Tape_isWord l hI hZ 5 M (by decide) hc9) (cw_Tape_43 S.2.2.2.2 (Nat.le_trans (Nat.le_of_ble_eq_true rfl) hR.1) (Nat.le_trans (Nat.le_of_ble_eq_true rfl) hR.2)) (rc_Tape hX hH hZ) rfl hl.1 rfl (Nat.le_of_ble_eq_true rfl) d_Tape_partOf_47 ⟨Nat.zero_le _, Nat.zero_le _⟩ (fun H locs hH => ?_)
          refine lv_if_eq (tgt := 55) hx hb d_Tape_partOf_50 (by decide) (fun hc => ?_) (fun hc => ?_)
          · replace hf0 := o_t hc hf0
            refine lv_aload_n hx hb d_Tape_partOf_55 rfl (lv_at hl 0 rfl) ?_
            refine va_ldcS hx hb hown (hX.2.2.1 ("MarkedChains$Tape", 105, "liar", 6) (by decide)) d_Tape_partOf_56 ?_
            obtain ⟨y12, hc11, hf0⟩ := o_b hf0
            refine q_cVi (As := [.ref (Z.2.2.2.2.2.1 6)]) (rest := []) S hX hH (c_Tape_isWord l hI hZ 6 M (by decide) hc11) (cw_Tape_43 S.2.2.2.2 (Nat.le_trans (Nat.le_of_ble_eq_true rfl) hR.1) (Nat.le_trans (Nat.le_of_ble_eq_true rfl) hR.2)) (rc_Tape hX hH hZ) rfl hl.1 rfl (Nat.le_of_ble_eq_true rfl) d_Tape_partOf_58 ⟨Nat.zero_le _, Nat.zero_le _⟩ (fun H locs hH => ?_)
            refine lv_if_eq (tgt := 66) hx hb d_Tape_partOf_61 (by decide) (fun hc => ?_) (fun hc => ?_)
            · replace hf0 := o_t hc hf0
              refine lv_aload_n hx hb d_Tape_partOf_66 rfl (lv_at hl 0 rfl) ?_
              refine va_ldcS hx hb hown (hX.2.2.1 ("MarkedChains$Tape", 107, "letter", 7) (by decide)) d_Tape_partOf_67 ?_
              obtain ⟨y14, hc13, hf0⟩ := o_b hf0
              refine q_cVi (As := [.ref (Z.2.2.2.2.2.1 7)]) (rest := []) S hX hH (c_Tape_isWord l hI hZ 7 M (by decide) hc13) (cw_Tape_43 S.2.2.2.2 (Nat.le_trans (Nat.le_of_ble_eq_true rfl) hR.1) (Nat.le_trans (Nat.le_of_ble_eq_true rfl) hR.2)) (rc_Tape hX hH hZ) rfl hl.1 rfl (Nat.le_of_ble_eq_true rfl) d_Tape_partOf_69 ⟨Nat.zero_le _, Nat.zero_le _⟩ (fun H locs hH => ?_)
              refine lv_if_eq (tgt := 78) hx hb d_Tape_partOf_72 (by decide) (fun hc => ?_) (fun hc => ?_)
              · replace hf0 := o_t hc hf0
                refine lv_aload_n hx hb d_Tape_partOf_78 rfl (lv_at hl 0 rfl) ?_
                refine va_ldcS hx hb hown (hX.2.2.1 ("MarkedChains$Tape", 109, "omit", 8) (by decide)) d_Tape_partOf_79 ?_
                obtain ⟨y16, hc15, hf0⟩ := o_b hf0
                refine q_cVi (As := [.ref (Z.2.2.2.2.2.1 8)]) (rest := []) S hX hH (c_Tape_isWord l hI hZ 8 M (by decide) hc15) (cw_Tape_43 S.2.2.2.2 (Nat.le_trans (Nat.le_of_ble_eq_true rfl) hR.1) (Nat.le_trans (Nat.le_of_ble_eq_true rfl) hR.2)) (rc_Tape hX hH hZ) rfl hl.1 rfl (Nat.le_of_ble_eq_true rfl) d_Tape_partOf_81 ⟨Nat.zero_le _, Nat.zero_le _⟩ (fun H locs hH => ?_)
                refine lv_if_eq (tgt := 90) hx hb d_Tape_partOf_84 (by decide) (fun hc => ?_) (fun hc => ?_)
                · replace hf0 := o_t hc hf0
                  refine lv_aload_n hx hb d_Tape_partOf_90 rfl (lv_at hl 0 rfl) ?_
                  refine va_ldcS hx hb hown (hX.2.2.1 ("MarkedChains$Tape", 111, "late", 9) (by decide)) d_Tape_partOf_91 ?_
                  obtain ⟨y18, hc17, hf0⟩ := o_b hf0
                  refine q_cVi (As := [.ref (Z.2.2.2.2.2.1 9)]) (rest := []) S hX hH (c_Tape_isWord l hI hZ 9 M (by decide) hc17) (cw_Tape_43 S.2.2.2.2 (Nat.le_trans (Nat.le_of_ble_eq_true rfl) hR.1) (Nat.le_trans (Nat.le_of_ble_eq_true rfl) hR.2)) (rc_Tape hX hH hZ) rfl hl.1 rfl (Nat.le_of_ble_eq_true rfl) d_Tape_partOf_93 ⟨Nat.zero_le _, Nat.zero_le _⟩ (fun H locs hH => ?_)
                  refine lv_if_eq (tgt := 104) hx hb d_Tape_partOf_96 (by decide) (fun hc => ?_) (fun hc => ?_)
                  · replace hf0 := o_t hc hf0
                    refine lv_iconst (v := (-1 : Int32)) hx hb d_Tape_partOf_104 (by decide) ?_
                    obtain rfl := o_v hf0
                    exact hQ _ _ _ _ hH d_Tape_partOf_105
                  · replace hf0 := o_f hc hf0
                    refine lv_bipush (v := (8 : Int32)) hx hb d_Tape_partOf_99 (by decide) ?_
                    refine lv_goto (tgt := 105) hx hb d_Tape_partOf_101 (by decide) ?_
                    obtain rfl := o_v hf0
                    exact hQ _ _ _ _ hH d_Tape_partOf_105
                · replace hf0 := o_f hc hf0
                  refine lv_bipush (v := (7 : Int32)) hx hb d_Tape_partOf_87 (by decide) ?_
                  obtain rfl := o_v hf0
                  exact hQ _ _ _ _ hH d_Tape_partOf_89
              · replace hf0 := o_f hc hf0
                refine lv_bipush (v := (6 : Int32)) hx hb d_Tape_partOf_75 (by decide) ?_
                obtain rfl := o_v hf0
                exact hQ _ _ _ _ hH d_Tape_partOf_77
            · replace hf0 := o_f hc hf0
              refine lv_iconst (v := (5 : Int32)) hx hb d_Tape_partOf_64 (by decide) ?_
              obtain rfl := o_v hf0
              exact hQ _ _ _ _ hH d_Tape_partOf_65
          · replace hf0 := o_f hc hf0
            refine lv_iconst (v := (4 : Int32)) hx hb d_Tape_partOf_53 (by decide) ?_
            obtain rfl := o_v hf0
            exact hQ _ _ _ _ hH d_Tape_partOf_54
        · replace hf0 := o_f hc hf0
          refine lv_iconst (v := (3 : Int32)) hx hb d_Tape_partOf_42 (by decide) ?_
          obtain rfl := o_v hf0
          exact hQ _ _ _ _ hH d_Tape_partOf_43
      · replace hf0 := o_f hc hf0
        refine lv_iconst (v := (2 : Int32)) hx hb d_Tape_partOf_31 (by decide) ?_
        obtain rfl := o_v hf0
        exact hQ _ _ _ _ hH d_Tape_partOf_32
    · replace hf0 := o_f hc hf0
      refine lv_iconst (v := (1 : Int32)) hx hb d_Tape_partOf_20 (by decide) ?_
      obtain rfl := o_v hf0
      exact hQ _ _ _ _ hH d_Tape_partOf_21
  · replace hf0 := o_f hc hf0
    refine lv_iconst (v := (0 : Int32)) hx hb d_Tape_partOf_9 (by decide) ?_
    obtain rfl := o_v hf0
    exact hQ _ _ _ _ hH d_Tape_partOf_10
theorem c_Tape_partOf (l : Launch) {Z : WD} (hI : wI Z) (hZ : IsC Z) (M : Mem) {r : Int32} (hf : f_Tape_partOf M = some r) : Ci l Z y_Tape_partOf b_Tape_partOf 1 (some .int) 5 107 [.ref (Z.2.2.1 136)] M M r := by
  refine Met.ofW (cc := b_Tape_partOf) (maxL := 1) (ret := (some .int)) (by decide) rfl ?_
  intro p e s m args below meth c s₁ B hml hv
  obtain ⟨rfl, hP, hX⟩ := hv
  have S : CallFix p m c b_Tape_partOf 1 s ([.ref (Z.2.2.1 136)] : List Value).toArray gtb R_Tape := ⟨B.exec, B.bytes, hml, findClass_of_methodNamed B.named, fun w hw => atoms_spec (ws := .code y_Tape_partOf b_Tape_partOf 1 (some .int) :: gtb) B.pre w (List.mem_cons_of_mem _ hw)⟩
  have hl := lv_entry ([.ref (Z.2.2.1 136)]) (n := 1) (Nat.le_of_ble_eq_true rfl)
  rw [lg_entry_eq]
  exact wk_Tape_partOf hI hZ M S hX ⟨Nat.le_refl _, Nat.le_refl _⟩ (fun pc H locs ls hH d => q_ri S.1 S.2.1 B.returns B.notSynchronized hH rfl rfl d) hf ⟨hP, va_S.rf⟩ hl
theorem cw_Tape_51 {R : Room} {s : State} {args : Array Value} (ht : ∀ w ∈ gtb, w.before args s = true) (h1 : 1 + 1 ≤ R.frames) (h2 : 8 + (4 + 11) + 22 ≤ R.locals) : CallW R s args R_Tape R_Tape 51 y_Tape_readNumber b_Tape_readNumber 4 (some .int) (.code y_Tape_readNumber b_Tape_readNumber 4 (some .int) :: gtb) { frames := 1, cells := 0, slots := 0, locals := 22 } 0 0 2 := cwV 2 ht (gV w2_182 w2_184 ws_Tape_readNumber w1_3 w2_185) rfl rfl rfl ⟨rfl, by decide, by decide, by decide +kernel⟩ ⟨h1, h2⟩
noncomputable def f_Tape_readParty (M : Mem) : Option (Int32 × Mem) := bnd2 (f_Tape_readNumber M (0 : Int32) ((M 8 0) - (1 : Int32))) (fun y3 M2 => some (y3, M2))
set_option maxHeartbeats 4000000 in
theorem wk_Tape_readParty {l : Launch} {Z : WD} (hI : wI Z) (hZ : IsC Z) (M : Mem) {r : Int32} {M' : Mem} {p : Program} {e : Env} {R : Room} {s : State} {m : MethodId} {args : Array Value} {below : List Frame} {meth : Method} {c : Code} {H : Heap} {locs : List Loc} {ls : Array Slot} {Q : State → Prop} (S : CallFix p m c b_Tape_readParty 1 s args gtb R_Tape) (hX : wX Z s) (hR : 2 ≤ R.frames ∧ 45 ≤ R.locals) (hQ : ∀ (pc : Nat) (H : Heap) (locs : List Loc) (ls : Array Slot), HW Z M' s H locs → decode b_Tape_readParty pc = .ok (.ireturn, 1) → W p l e R s m args below meth c H locs 0 0 Q (F0 m pc ls [.int r])) (hf0 : f_Tape_readParty M = some (r, M')) (hH : HW Z M s H locs) (hl : lv_has ls 1 [(0, .ref (Z.2.2.1 136))]) : W p l e R s m args below meth c H locs 0 0 Q (F0 m 0 ls []) := by
  have hx := S.1
  have hb := S.2.1
  have hown := S.2.2.2.1
  have ht := S.2.2.2.2
  unfold f_Tape_readParty at hf0
  refine lv_aload_n hx hb d_Tape_readParty_0 rfl (lv_at hl 0 rfl) ?_
  refine lv_iconst (v := (0 : Int32)) hx hb d_Tape_readParty_1 (by decide) ?_
  refine lv_aload_n hx hb d_Tape_readParty_2 rfl (lv_at hl 0 rfl) ?_
  refine g_Tape_18 S hX hH hZ d_Tape_readParty_3 ?_
  refine g_Tape_55 S hX hH hZ isPlay_8 d_Tape_readParty_6 ?_
  refine lv_iconst (v := (1 : Int32)) hx hb d_Tape_readParty_9 (by decide) ?_
  refine lv_isub hx hb d_Tape_readParty_10 ?_
  obtain ⟨y3, M2, hc1, hf0⟩ := o_b2 hf0
  refine q_cVi (As := [.int (0 : Int32), .int ((M 8 0) - (1 : Int32))]) (rest := []) S hX hH (c_Tape_readNumber l hI hZ M (0 : Int32) ((M 8 0) - (1 : Int32)) hc1) (cw_Tape_51 S.2.2.2.2 (Nat.le_trans (Nat.le_of_ble_eq_true rfl) hR.1) (Nat.le_trans (Nat.le_of_ble_eq_true rfl) hR.2)) (rc_Tape hX hH hZ) rfl hl.1 rfl (Nat.le_of_ble_eq_true rfl) d_Tape_readParty_11 ⟨Nat.zero_le _, Nat.zero_le _⟩ (fun H locs hH => ?_)
  obtain ⟨rfl, rfl⟩ := o_p hf0
  exact hQ _ _ _ _ hH d_Tape_readParty_14
theorem c_Tape_readParty (l : Launch) {Z : WD} (hI : wI Z) (hZ : IsC Z) (M : Mem) {r : Int32} {M' : Mem} (hf : f_Tape_readParty M = some (r, M')) : Ci l Z y_Tape_readParty b_Tape_readParty 1 (some .int) 2 45 [.ref (Z.2.2.1 136)] M M' r := by
  refine Met.ofW (cc := b_Tape_readParty) (maxL := 1) (ret := (some .int)) (by decide) rfl ?_
  intro p e s m args below meth c s₁ B hml hv
  obtain ⟨rfl, hP, hX⟩ := hv
  have S : CallFix p m c b_Tape_readParty 1 s ([.ref (Z.2.2.1 136)] : List Value).toArray gtb R_Tape := ⟨B.exec, B.bytes, hml, findClass_of_methodNamed B.named, fun w hw => atoms_spec (ws := .code y_Tape_readParty b_Tape_readParty 1 (some .int) :: gtb) B.pre w (List.mem_cons_of_mem _ hw)⟩
  have hl := lv_entry ([.ref (Z.2.2.1 136)]) (n := 1) (Nat.le_of_ble_eq_true rfl)
  rw [lg_entry_eq]
  exact wk_Tape_readParty hI hZ M S hX ⟨Nat.le_refl _, Nat.le_refl _⟩ (fun pc H locs ls hH d => q_ri S.1 S.2.1 B.returns B.notSynchronized hH rfl rfl d) hf ⟨hP, va_S.rf⟩ hl
noncomputable def f_Tape_hasNumber_J34 (M : Mem) : Option (Bool × Mem) := some (false, M)
noncomputable def f_Tape_hasNumber (M : Mem) : Option (Bool × Mem) := 
    bnd (f_Tape_skipBlanks M) (fun M2 => 
    if (M2 136 2) ≤ (M2 136 4) then f_Tape_hasNumber_J34 M2 else 
    gIn (M2 136 4) 400 (if (bI (f_Tape_isDigit (M2 137 (M2 136 4).toNatClampNeg))) = 0 then f_Tape_hasNumber_J34 M2 else some (true, M2)))
set_option maxHeartbeats 4000000 in
theorem wk_Tape_hasNumber {l : Launch} {Z : WD} (hI : wI Z) (hZ : IsC Z) (M : Mem) {r : Bool} {M' : Mem} {p : Program} {e : Env} {R : Room} {s : State} {m : MethodId} {args : Array Value} {below : List Frame} {meth : Method} {c : Code} {H : Heap} {locs : List Loc} {ls : Array Slot} {Q : State → Prop} (S : CallFix p m c b_Tape_hasNumber 1 s args gtb R_Tape) (hX : wX Z s) (hR : 1 ≤ R.frames ∧ 20 ≤ R.locals) (hQ : ∀ (pc : Nat) (H : Heap) (locs : List Loc) (ls : Array Slot), HW Z M' s H locs → decode b_Tape_hasNumber pc = .ok (.ireturn, 1) → W p l e R s m args below meth c H locs 0 0 Q (F0 m pc ls [.int (bI r)])) (hf0 : f_Tape_hasNumber M = some (r, M')) (hH : HW Z M s H locs) (hl : lv_has ls 1 [(0, .ref (Z.2.2.1 136))]) : W p l e R s m args below meth c H locs 0 0 Q (F0 m 0 ls []) := by
  have hx := S.1
  have hb := S.2.1
  have hown := S.2.2.2.1
  have ht := S.2.2.2.2
  unfold f_Tape_hasNumber at hf0
  have J34 : ∀ (M : Mem) (H : Heap) (locs : List Loc) (ls : Array Slot), f_Tape_hasNumber_J34 M = some (r, M') → HW Z M s H locs → lv_has ls 1 [] → W p l e R s m args below meth c H locs 0 0 Q (F0 m 34 ls []) := by
    intro M H locs ls hf0 hH hl
    unfold f_Tape_hasNumber_J34 at hf0
    refine lv_iconst (v := (0 : Int32)) hx hb d_Tape_hasNumber_34 (by decide) ?_
    obtain ⟨rfl, rfl⟩ := o_p hf0
    exact hQ _ _ _ _ hH d_Tape_hasNumber_35
  refine lv_aload_n hx hb d_Tape_hasNumber_0 rfl (lv_at hl 0 rfl) ?_
  obtain ⟨M2, hc1, hf0⟩ := o_b hf0
  refine q_cVv (As := []) (rest := []) S hX hH (c_Tape_skipBlanks l hI hZ M hc1) (cw_Tape_58 S.2.2.2.2 (Nat.le_trans (Nat.le_of_ble_eq_true rfl) hR.1) (Nat.le_trans (Nat.le_of_ble_eq_true rfl) hR.2)) (rc_Tape hX hH hZ) rfl hl.1 rfl (Nat.le_of_ble_eq_true rfl) d_Tape_hasNumber_1 ⟨Nat.zero_le _, Nat.zero_le _⟩ (fun H locs hH => ?_)
  refine lv_aload_n hx hb d_Tape_hasNumber_4 rfl (lv_at hl 0 rfl) ?_
  refine g_Tape_29 S hX hH hZ d_Tape_hasNumber_5 ?_
  refine lv_aload_n hx hb d_Tape_hasNumber_8 rfl (lv_at hl 0 rfl) ?_
  refine g_Tape_22 S hX hH hZ d_Tape_hasNumber_9 ?_
  refine lv_icmp_ge (tgt := 34) hx hb d_Tape_hasNumber_12 (by decide) (fun hc => ?_) (fun hc => ?_)
  · replace hf0 := o_t hc hf0
    exact J34 _ _ _ _ hf0 hH (lv_sub hl [] rfl)
  · replace hf0 := o_f hc hf0
    refine lv_aload_n hx hb d_Tape_hasNumber_15 rfl (lv_at hl 0 rfl) ?_
    refine g_Tape_9 S hX hH hZ d_Tape_hasNumber_16 ?_
    refine lv_aload_n hx hb d_Tape_hasNumber_19 rfl (lv_at hl 0 rfl) ?_
    refine g_Tape_29 S hX hH hZ d_Tape_hasNumber_20 ?_
    obtain ⟨hn3, hf0⟩ := o_in hf0
    refine q_cald (j := (M2 136 4).toNatClampNeg) hx hb hX hH (aa_Tape hZ) hn3 rfl d_Tape_hasNumber_23 ?_
    refine q_cSi (As := [.int (M2 137 (M2 136 4).toNatClampNeg)]) (rest := []) S hX hH (c_Tape_isDigit l hI M2 (M2 137 (M2 136 4).toNatClampNeg) rfl) (cw_Tape_168 S.2.2.2.2 (Nat.le_trans (Nat.le_of_ble_eq_true rfl) hR.1) (Nat.le_trans (Nat.le_of_ble_eq_true rfl) hR.2)) rfl hl.1 rfl (Nat.le_of_ble_eq_true rfl) d_Tape_hasNumber_24 ⟨Nat.zero_le _, Nat.zero_le _⟩ (fun H locs hH => ?_)
    refine lv_if_eq (tgt := 34) hx hb d_Tape_hasNumber_27 (by decide) (fun hc => ?_) (fun hc => ?_)
    · replace hf0 := o_t hc hf0
      exact J34 _ _ _ _ hf0 hH (lv_sub hl [] rfl)
    · replace hf0 := o_f hc hf0
      refine lv_iconst (v := (1 : Int32)) hx hb d_Tape_hasNumber_30 (by decide) ?_
      refine lv_goto (tgt := 35) hx hb d_Tape_hasNumber_31 (by decide) ?_
      obtain ⟨rfl, rfl⟩ := o_p hf0
      exact hQ _ _ _ _ hH d_Tape_hasNumber_35
theorem c_Tape_hasNumber (l : Launch) {Z : WD} (hI : wI Z) (hZ : IsC Z) (M : Mem) {r : Bool} {M' : Mem} (hf : f_Tape_hasNumber M = some (r, M')) : Ci l Z y_Tape_hasNumber b_Tape_hasNumber 1 (some .boolean) 1 20 [.ref (Z.2.2.1 136)] M M' (bI r) := by
  refine Met.ofW (cc := b_Tape_hasNumber) (maxL := 1) (ret := (some .boolean)) (by decide) rfl ?_
  intro p e s m args below meth c s₁ B hml hv
  obtain ⟨rfl, hP, hX⟩ := hv
  have S : CallFix p m c b_Tape_hasNumber 1 s ([.ref (Z.2.2.1 136)] : List Value).toArray gtb R_Tape := ⟨B.exec, B.bytes, hml, findClass_of_methodNamed B.named, fun w hw => atoms_spec (ws := .code y_Tape_hasNumber b_Tape_hasNumber 1 (some .boolean) :: gtb) B.pre w (List.mem_cons_of_mem _ hw)⟩
  have hl := lv_entry ([.ref (Z.2.2.1 136)]) (n := 1) (Nat.le_of_ble_eq_true rfl)
  rw [lg_entry_eq]
  exact wk_Tape_hasNumber hI hZ M S hX ⟨Nat.le_refl _, Nat.le_refl _⟩ (fun pc H locs ls hH d => q_rz S.1 S.2.1 B.returns B.notSynchronized hH rfl rfl d) hf ⟨hP, va_S.rf⟩ hl
theorem cw_Tape_119 {R : Room} {s : State} {args : Array Value} (ht : ∀ w ∈ gtb, w.before args s = true) (h1 : 1 + 1 ≤ R.frames) (h2 : 8 + (1 + 11) + 20 ≤ R.locals) : CallW R s args R_Tape R_Tape 119 y_Tape_hasNumber b_Tape_hasNumber 1 (some .boolean) (.code y_Tape_hasNumber b_Tape_hasNumber 1 (some .boolean) :: gtb) { frames := 1, cells := 0, slots := 0, locals := 20 } 0 0 0 := cwV 0 ht (gV w2_219 w2_221 ws_Tape_hasNumber w1_3 w2_222) rfl rfl rfl ⟨rfl, by decide, by decide, by decide +kernel⟩ ⟨h1, h2⟩
theorem cw_Tape_116 {R : Room} {s : State} {args : Array Value} (ht : ∀ w ∈ gtb, w.before args s = true) (h1 : 2 + 1 ≤ R.frames) (h2 : 8 + (1 + 11) + 45 ≤ R.locals) : CallW R s args R_Tape R_Tape 116 y_Tape_readParty b_Tape_readParty 1 (some .int) (.code y_Tape_readParty b_Tape_readParty 1 (some .int) :: gtb) { frames := 2, cells := 0, slots := 0, locals := 45 } 0 0 0 := cwV 0 ht (gV w2_215 w2_217 ws_Tape_readParty w1_3 w2_218) rfl rfl rfl ⟨rfl, by decide, by decide, by decide +kernel⟩ ⟨h1, h2⟩
noncomputable def f_Tape_readLiars_L20 (x1 : Int32) (M : Mem) : Option ((Int32 × Mem) ⊕ Mem) := if (400 : Int32) ≤ x1 then some (.inr M) else 
    if (M 136 3) = 0 then 
    bnd2 (f_Tape_hasNumber M) (fun y3 M2 => 
    if (bI y3) = 0 then some (.inr M2) else 
    bnd2 (f_Tape_readParty M2) (fun y6 M5 => 
    lt1 (upM M5 8 1 ((M2 8 1) ||| ((1 : Int32) <<< (y6 &&& 31)))) (fun M7 => some (.inl (x1 + (1 : Int32), M7))))) else some (.inr M)
noncomputable def f_Tape_readLiars_W20  (u : (Int32 × Mem)) : Option Mem := loop (fun t => f_Tape_readLiars_L20 t.1 t.2) u
noncomputable def f_Tape_readLiars_J20 (M : Mem) (x1 : Int32) : Option (Mem) := bnd (f_Tape_readLiars_W20 (x1, M)) (fun e20 => some e20)
noncomputable def f_Tape_readLiars (M : Mem) : Option Mem := 
    bnd2 (f_Tape_readParty M) (fun y10 M9 => 
    lt1 (upM M9 8 1 ((M 8 1) ||| ((1 : Int32) <<< (y10 &&& 31)))) (fun M11 => f_Tape_readLiars_J20 M11 (0 : Int32)))
set_option maxHeartbeats 4000000 in
theorem wk_Tape_readLiars {l : Launch} {Z : WD} (hI : wI Z) (hZ : IsC Z) (M : Mem) {M' : Mem} {p : Program} {e : Env} {R : Room} {s : State} {m : MethodId} {args : Array Value} {below : List Frame} {meth : Method} {c : Code} {H : Heap} {locs : List Loc} {ls : Array Slot} {Q : State → Prop} (S : CallFix p m c b_Tape_readLiars 2 s args gtb R_Tape) (hX : wX Z s) (hR : 3 ≤ R.frames ∧ 65 ≤ R.locals) (hQ : ∀ (pc : Nat) (H : Heap) (locs : List Loc) (ls : Array Slot), HW Z M' s H locs → decode b_Tape_readLiars pc = .ok (.return_, 1) → W p l e R s m args below meth c H locs 0 0 Q (F0 m pc ls [])) (hf0 : f_Tape_readLiars M = some M') (hH : HW Z M s H locs) (hl : lv_has ls 2 [(0, .ref (Z.2.2.1 136))]) : W p l e R s m args below meth c H locs 0 0 Q (F0 m 0 ls []) := by
  have hx := S.1
  have hb := S.2.1
  have hown := S.2.2.2.1
  have ht := S.2.2.2.2
  unfold f_Tape_readLiars at hf0
  have J20 : ∀ (M : Mem) (x1 : Int32) (H : Heap) (locs : List Loc) (ls : Array Slot), f_Tape_readLiars_J20 M x1 = some M' → HW Z M s H locs → lv_has ls 2 [(0, .ref (Z.2.2.1 136)), (1, .int x1)] → W p l e R s m args below meth c H locs 0 0 Q (F0 m 20 ls []) := by
    intro M x1 H locs ls hf0 hH hl
    unfold f_Tape_readLiars_J20 at hf0
    obtain ⟨e20, he20, hf0⟩ := o_b hf0
    unfold f_Tape_readLiars_W20 at he20
    refine loop_W (fun t => ∀ (H : Heap) (locs : List Loc) (ls : Array Slot), HW Z t.2 s H locs → lv_has ls 2 [(0, .ref (Z.2.2.1 136)), (1, .int t.1)] → W p l e R s m args below meth c H locs 0 0 Q (F0 m 20 ls [])) ?_ he20 H locs ls hH hl
    rintro ⟨x1, M⟩ o1 hf1 hG1 hR1 H locs ls hH hl
    replace hH : HW Z M s H locs := hH
    replace hl : lv_has ls 2 [(0, .ref (Z.2.2.1 136)), (1, .int x1)] := hl
    replace hf1 : f_Tape_readLiars_L20 x1 M = some o1 := hf1
    unfold f_Tape_readLiars_L20 at hf1
    refine lv_iload_n hx hb d_Tape_readLiars_20 rfl (lv_at hl 1 rfl) ?_
    refine lv_sipush (v := (400 : Int32)) hx hb d_Tape_readLiars_21 (by decide) ?_
    refine lv_icmp_ge (tgt := 65) hx hb d_Tape_readLiars_24 (by decide) (fun hc => ?_) (fun hc => ?_)
    · replace hf1 := o_t hc hf1
      obtain rfl := hR1 _ (o_v hf1).symm
      obtain rfl := o_v hf0
      exact hQ _ _ _ _ hH d_Tape_readLiars_65
    · replace hf1 := o_f hc hf1
      refine lv_aload_n hx hb d_Tape_readLiars_27 rfl (lv_at hl 0 rfl) ?_
      refine g_Tape_26 S hX hH hZ d_Tape_readLiars_28 ?_
      refine lv_if_ne (tgt := 65) hx hb d_Tape_readLiars_31 (by decide) (fun hc => ?_) (fun hc => ?_)
      · replace hf1 := o_f hc hf1
        obtain rfl := hR1 _ (o_v hf1).symm
        obtain rfl := o_v hf0
        exact hQ _ _ _ _ hH d_Tape_readLiars_65
      · replace hf1 := o_t hc hf1
        refine lv_aload_n hx hb d_Tape_readLiars_34 rfl (lv_at hl 0 rfl) ?_
        obtain ⟨y3, M2, hc1, hf1⟩ := o_b2 hf1
        refine q_cVi (As := []) (rest := []) S hX hH (c_Tape_hasNumber l hI hZ M hc1) (cw_Tape_119 S.2.2.2.2 (Nat.le_trans (Nat.le_of_ble_eq_true rfl) hR.1) (Nat.le_trans (Nat.le_of_ble_eq_true rfl) hR.2)) (rc_Tape hX hH hZ) rfl hl.1 rfl (Nat.le_of_ble_eq_true rfl) d_Tape_readLiars_35 ⟨Nat.zero_le _, Nat.zero_le _⟩ (fun H locs hH => ?_)
        refine lv_if_eq (tgt := 65) hx hb d_Tape_readLiars_38 (by decide) (fun hc => ?_) (fun hc => ?_)
        · replace hf1 := o_t hc hf1
          obtain rfl := hR1 _ (o_v hf1).symm
          obtain rfl := o_v hf0
          exact hQ _ _ _ _ hH d_Tape_readLiars_65
        · replace hf1 := o_f hc hf1
          refine lv_aload_n hx hb d_Tape_readLiars_41 rfl (lv_at hl 0 rfl) ?_
          refine g_Tape_18 S hX hH hZ d_Tape_readLiars_42 ?_
          refine lv_dup hx hb d_Tape_readLiars_45 rfl ?_
          refine g_Tape_113 S hX hH hZ isPlay_8 d_Tape_readLiars_46 ?_
          refine lv_iconst (v := (1 : Int32)) hx hb d_Tape_readLiars_49 (by decide) ?_
          refine lv_aload_n hx hb d_Tape_readLiars_50 rfl (lv_at hl 0 rfl) ?_
          obtain ⟨y6, M5, hc4, hf1⟩ := o_b2 hf1
          refine q_cVi (As := []) (rest := [.int (1 : Int32), .int (M2 8 1), .ref (Z.2.2.1 8)]) S hX hH (c_Tape_readParty l hI hZ M2 hc4) (cw_Tape_116 S.2.2.2.2 (Nat.le_trans (Nat.le_of_ble_eq_true rfl) hR.1) (Nat.le_trans (Nat.le_of_ble_eq_true rfl) hR.2)) (rc_Tape hX hH hZ) rfl hl.1 rfl (Nat.le_of_ble_eq_true rfl) d_Tape_readLiars_51 ⟨Nat.zero_le _, Nat.zero_le _⟩ (fun H locs hH => ?_)
          refine lv_ishl hx hb d_Tape_readLiars_54 ?_
          refine lv_ior hx hb d_Tape_readLiars_55 ?_
          obtain ⟨M7, hM7, hf1⟩ := o_l hf1
          refine s_Tape_113 S hX hI hH hZ isPlay_8 d_Tape_readLiars_56 (fun H locs hH => ?_)
          rw [hM7] at hH
          refine lv_iinc (v := x1 + (1 : Int32)) (lv' := [(1, .int (x1 + (1 : Int32))), (0, .ref (Z.2.2.1 136))]) hx hb d_Tape_readLiars_59 hl (k := 1) rfl rfl (by decide) rfl (fun ls hl => ?_)
          refine lv_goto (tgt := 20) hx hb d_Tape_readLiars_62 (by decide) ?_
          exact hG1 _ (o_v hf1).symm _ _ _ hH (lv_sub hl [1, 0] rfl)
  refine lv_aload_n hx hb d_Tape_readLiars_0 rfl (lv_at hl 0 rfl) ?_
  refine g_Tape_18 S hX hH hZ d_Tape_readLiars_1 ?_
  refine lv_dup hx hb d_Tape_readLiars_4 rfl ?_
  refine g_Tape_113 S hX hH hZ isPlay_8 d_Tape_readLiars_5 ?_
  refine lv_iconst (v := (1 : Int32)) hx hb d_Tape_readLiars_8 (by decide) ?_
  refine lv_aload_n hx hb d_Tape_readLiars_9 rfl (lv_at hl 0 rfl) ?_
  obtain ⟨y10, M9, hc8, hf0⟩ := o_b2 hf0
  refine q_cVi (As := []) (rest := [.int (1 : Int32), .int (M 8 1), .ref (Z.2.2.1 8)]) S hX hH (c_Tape_readParty l hI hZ M hc8) (cw_Tape_116 S.2.2.2.2 (Nat.le_trans (Nat.le_of_ble_eq_true rfl) hR.1) (Nat.le_trans (Nat.le_of_ble_eq_true rfl) hR.2)) (rc_Tape hX hH hZ) rfl hl.1 rfl (Nat.le_of_ble_eq_true rfl) d_Tape_readLiars_10 ⟨Nat.zero_le _, Nat.zero_le _⟩ (fun H locs hH => ?_)
  refine lv_ishl hx hb d_Tape_readLiars_13 ?_
  refine lv_ior hx hb d_Tape_readLiars_14 ?_
  obtain ⟨M11, hM11, hf0⟩ := o_l hf0
  refine s_Tape_113 S hX hI hH hZ isPlay_8 d_Tape_readLiars_15 (fun H locs hH => ?_)
  rw [hM11] at hH
  refine lv_iconst (v := (0 : Int32)) hx hb d_Tape_readLiars_18 (by decide) ?_
  refine lv_istore_n (lv' := [(1, .int (0 : Int32)), (0, .ref (Z.2.2.1 136))]) hx hb d_Tape_readLiars_19 rfl hl (by decide) rfl (fun ls hl => ?_)
  exact J20 _ _ _ _ _ hf0 hH (lv_sub hl [1, 0] rfl)
theorem c_Tape_readLiars (l : Launch) {Z : WD} (hI : wI Z) (hZ : IsC Z) (M : Mem) {M' : Mem} (hf : f_Tape_readLiars M = some M') : Cv l Z y_Tape_readLiars b_Tape_readLiars 2 none 3 65 [.ref (Z.2.2.1 136)] M M' := by
  refine Met.ofW (cc := b_Tape_readLiars) (maxL := 2) (ret := none) (by decide) rfl ?_
  intro p e s m args below meth c s₁ B hml hv
  obtain ⟨rfl, hP, hX⟩ := hv
  have S : CallFix p m c b_Tape_readLiars 2 s ([.ref (Z.2.2.1 136)] : List Value).toArray gtb R_Tape := ⟨B.exec, B.bytes, hml, findClass_of_methodNamed B.named, fun w hw => atoms_spec (ws := .code y_Tape_readLiars b_Tape_readLiars 2 none :: gtb) B.pre w (List.mem_cons_of_mem _ hw)⟩
  have hl := lv_entry ([.ref (Z.2.2.1 136)]) (n := 2) (Nat.le_of_ble_eq_true rfl)
  rw [lg_entry_eq]
  exact wk_Tape_readLiars hI hZ M S hX ⟨Nat.le_refl _, Nat.le_refl _⟩ (fun pc H locs ls hH d => q_rv S.1 S.2.1 B.returns B.notSynchronized hH rfl d) hf ⟨hP, va_S.rf⟩ hl
theorem cw_Tape_162 {R : Room} {s : State} {args : Array Value} (ht : ∀ w ∈ gtb, w.before args s = true) (h1 : 0 + 1 ≤ R.frames) (h2 : 8 + (3 + 11) + 0 ≤ R.locals) : CallB R s args R_Tape 162 y_Route_of b_Route_of 3 (some .int) (.code y_Route_of b_Route_of 3 (some .int) :: gtb) { frames := 0, cells := 0, slots := 0, locals := 0 } 0 0 3 ∧ (Cond.static y_Route_of).before args s = true := va_cwS 3 ht (gS w2_231 w2_11 w1_7 w2_12) rfl rfl rfl ⟨by decide, by decide, by decide +kernel⟩ ⟨h1, h2⟩
noncomputable def f_Tape_readRoute_J32 (M : Mem) (x1 : Int32) (x2 : Int32) (x3 : Int32) : Option (Int32 × Mem) := some (f_Route_of x1 x2 x3, M)
noncomputable def f_Tape_readRoute (M : Mem) : Option (Int32 × Mem) := 
    bnd2 (f_Tape_readNumber M (1 : Int32) (8 : Int32)) (fun y3 M2 => 
    bnd2 (f_Tape_readParty M2) (fun y6 M5 => 
    bnd2 (f_Tape_readParty M5) (fun y9 M8 => 
    if y9 = y6 then bnd (f_Tape_blame M8 (M8 136 5) (2 : Int32)) (fun M11 => f_Tape_readRoute_J32 M11 y3 y6 y9) else f_Tape_readRoute_J32 M8 y3 y6 y9)))
set_option maxHeartbeats 4000000 in
theorem wk_Tape_readRoute {l : Launch} {Z : WD} (hI : wI Z) (hZ : IsC Z) (M : Mem) {r : Int32} {M' : Mem} {p : Program} {e : Env} {R : Room} {s : State} {m : MethodId} {args : Array Value} {below : List Frame} {meth : Method} {c : Code} {H : Heap} {locs : List Loc} {ls : Array Slot} {Q : State → Prop} (S : CallFix p m c b_Tape_readRoute 4 s args gtb R_Tape) (hX : wX Z s) (hR : 3 ≤ R.frames ∧ 65 ≤ R.locals) (hQ : ∀ (pc : Nat) (H : Heap) (locs : List Loc) (ls : Array Slot), HW Z M' s H locs → decode b_Tape_readRoute pc = .ok (.ireturn, 1) → W p l e R s m args below meth c H locs 0 0 Q (F0 m pc ls [.int r])) (hf0 : f_Tape_readRoute M = some (r, M')) (hH : HW Z M s H locs) (hl : lv_has ls 4 [(0, .ref (Z.2.2.1 136))]) : W p l e R s m args below meth c H locs 0 0 Q (F0 m 0 ls []) := by
  have hx := S.1
  have hb := S.2.1
  have hown := S.2.2.2.1
  have ht := S.2.2.2.2
  unfold f_Tape_readRoute at hf0
  have J32 : ∀ (M : Mem) (x1 : Int32) (x2 : Int32) (x3 : Int32) (H : Heap) (locs : List Loc) (ls : Array Slot), f_Tape_readRoute_J32 M x1 x2 x3 = some (r, M') → HW Z M s H locs → lv_has ls 4 [(1, .int x1), (2, .int x2), (3, .int x3)] → W p l e R s m args below meth c H locs 0 0 Q (F0 m 32 ls []) := by
    intro M x1 x2 x3 H locs ls hf0 hH hl
    unfold f_Tape_readRoute_J32 at hf0
    refine lv_iload_n hx hb d_Tape_readRoute_32 rfl (lv_at hl 0 rfl) ?_
    refine lv_iload_n hx hb d_Tape_readRoute_33 rfl (lv_at hl 1 rfl) ?_
    refine lv_iload_n hx hb d_Tape_readRoute_34 rfl (lv_at hl 2 rfl) ?_
    refine q_cSi (As := [.int x1, .int x2, .int x3]) (rest := []) S hX hH (c_Route_of l hI M x1 x2 x3 rfl) (cw_Tape_162 S.2.2.2.2 (Nat.le_trans (Nat.le_of_ble_eq_true rfl) hR.1) (Nat.le_trans (Nat.le_of_ble_eq_true rfl) hR.2)) rfl hl.1 rfl (Nat.le_of_ble_eq_true rfl) d_Tape_readRoute_35 ⟨Nat.zero_le _, Nat.zero_le _⟩ (fun H locs hH => ?_)
    obtain ⟨rfl, rfl⟩ := o_p hf0
    exact hQ _ _ _ _ hH d_Tape_readRoute_38
  refine lv_aload_n hx hb d_Tape_readRoute_0 rfl (lv_at hl 0 rfl) ?_
  refine lv_iconst (v := (1 : Int32)) hx hb d_Tape_readRoute_1 (by decide) ?_
  refine lv_bipush (v := (8 : Int32)) hx hb d_Tape_readRoute_2 (by decide) ?_
  obtain ⟨y3, M2, hc1, hf0⟩ := o_b2 hf0
  refine q_cVi (As := [.int (1 : Int32), .int (8 : Int32)]) (rest := []) S hX hH (c_Tape_readNumber l hI hZ M (1 : Int32) (8 : Int32) hc1) (cw_Tape_51 S.2.2.2.2 (Nat.le_trans (Nat.le_of_ble_eq_true rfl) hR.1) (Nat.le_trans (Nat.le_of_ble_eq_true rfl) hR.2)) (rc_Tape hX hH hZ) rfl hl.1 rfl (Nat.le_of_ble_eq_true rfl) d_Tape_readRoute_4 ⟨Nat.zero_le _, Nat.zero_le _⟩ (fun H locs hH => ?_)
  refine lv_istore_n (lv' := [(1, .int y3), (0, .ref (Z.2.2.1 136))]) hx hb d_Tape_readRoute_7 rfl hl (by decide) rfl (fun ls hl => ?_)
  refine lv_aload_n hx hb d_Tape_readRoute_8 rfl (lv_at hl 1 rfl) ?_
  obtain ⟨y6, M5, hc4, hf0⟩ := o_b2 hf0
  refine q_cVi (As := []) (rest := []) S hX hH (c_Tape_readParty l hI hZ M2 hc4) (cw_Tape_116 S.2.2.2.2 (Nat.le_trans (Nat.le_of_ble_eq_true rfl) hR.1) (Nat.le_trans (Nat.le_of_ble_eq_true rfl) hR.2)) (rc_Tape hX hH hZ) rfl hl.1 rfl (Nat.le_of_ble_eq_true rfl) d_Tape_readRoute_9 ⟨Nat.zero_le _, Nat.zero_le _⟩ (fun H locs hH => ?_)
  refine lv_istore_n (lv' := [(2, .int y6), (1, .int y3), (0, .ref (Z.2.2.1 136))]) hx hb d_Tape_readRoute_12 rfl hl (by decide) rfl (fun ls hl => ?_)
  refine lv_aload_n hx hb d_Tape_readRoute_13 rfl (lv_at hl 2 rfl) ?_
  obtain ⟨y9, M8, hc7, hf0⟩ := o_b2 hf0
  refine q_cVi (As := []) (rest := []) S hX hH (c_Tape_readParty l hI hZ M5 hc7) (cw_Tape_116 S.2.2.2.2 (Nat.le_trans (Nat.le_of_ble_eq_true rfl) hR.1) (Nat.le_trans (Nat.le_of_ble_eq_true rfl) hR.2)) (rc_Tape hX hH hZ) rfl hl.1 rfl (Nat.le_of_ble_eq_true rfl) d_Tape_readRoute_14 ⟨Nat.zero_le _, Nat.zero_le _⟩ (fun H locs hH => ?_)
  refine lv_istore_n (lv' := [(3, .int y9), (2, .int y6), (1, .int y3), (0, .ref (Z.2.2.1 136))]) hx hb d_Tape_readRoute_17 rfl hl (by decide) rfl (fun ls hl => ?_)
  refine lv_iload_n hx hb d_Tape_readRoute_18 rfl (lv_at hl 0 rfl) ?_
  refine lv_iload_n hx hb d_Tape_readRoute_19 rfl (lv_at hl 1 rfl) ?_
  refine lv_icmp_ne (tgt := 32) hx hb d_Tape_readRoute_20 (by decide) (fun hc => ?_) (fun hc => ?_)
  · replace hf0 := o_f hc hf0
    exact J32 _ _ _ _ _ _ _ hf0 hH (lv_sub hl [2, 1, 0] rfl)
  · replace hf0 := o_t hc hf0
    refine lv_aload_n hx hb d_Tape_readRoute_23 rfl (lv_at hl 3 rfl) ?_
    refine lv_aload_n hx hb d_Tape_readRoute_24 rfl (lv_at hl 3 rfl) ?_
    refine g_Tape_32 S hX hH hZ d_Tape_readRoute_25 ?_
    refine lv_iconst (v := (2 : Int32)) hx hb d_Tape_readRoute_28 (by decide) ?_
    obtain ⟨M11, hc10, hf0⟩ := o_b hf0
    refine q_cVv (As := [.int (M8 136 5), .int (2 : Int32)]) (rest := []) S hX hH (c_Tape_blame l hI hZ M8 (M8 136 5) (2 : Int32) hc10) (cw_Tape_47 S.2.2.2.2 (Nat.le_trans (Nat.le_of_ble_eq_true rfl) hR.1) (Nat.le_trans (Nat.le_of_ble_eq_true rfl) hR.2)) (rc_Tape hX hH hZ) rfl hl.1 rfl (Nat.le_of_ble_eq_true rfl) d_Tape_readRoute_29 ⟨Nat.zero_le _, Nat.zero_le _⟩ (fun H locs hH => ?_)
    exact J32 _ _ _ _ _ _ _ hf0 hH (lv_sub hl [2, 1, 0] rfl)
theorem c_Tape_readRoute (l : Launch) {Z : WD} (hI : wI Z) (hZ : IsC Z) (M : Mem) {r : Int32} {M' : Mem} (hf : f_Tape_readRoute M = some (r, M')) : Ci l Z y_Tape_readRoute b_Tape_readRoute 4 (some .int) 3 65 [.ref (Z.2.2.1 136)] M M' r := by
  refine Met.ofW (cc := b_Tape_readRoute) (maxL := 4) (ret := (some .int)) (by decide) rfl ?_
  intro p e s m args below meth c s₁ B hml hv
  obtain ⟨rfl, hP, hX⟩ := hv
  have S : CallFix p m c b_Tape_readRoute 4 s ([.ref (Z.2.2.1 136)] : List Value).toArray gtb R_Tape := ⟨B.exec, B.bytes, hml, findClass_of_methodNamed B.named, fun w hw => atoms_spec (ws := .code y_Tape_readRoute b_Tape_readRoute 4 (some .int) :: gtb) B.pre w (List.mem_cons_of_mem _ hw)⟩
  have hl := lv_entry ([.ref (Z.2.2.1 136)]) (n := 4) (Nat.le_of_ble_eq_true rfl)
  rw [lg_entry_eq]
  exact wk_Tape_readRoute hI hZ M S hX ⟨Nat.le_refl _, Nat.le_refl _⟩ (fun pc H locs ls hH d => q_ri S.1 S.2.1 B.returns B.notSynchronized hH rfl rfl d) hf ⟨hP, va_S.rf⟩ hl
theorem cw_Tape_138 {R : Room} {s : State} {args : Array Value} (ht : ∀ w ∈ gtb, w.before args s = true) (h1 : 0 + 1 ≤ R.frames) (h2 : 8 + (4 + 11) + 0 ≤ R.locals) : CallW R s args R_Tape R_Play 138 y_Play_addPlan b_Play_addPlan 4 none (.code y_Play_addPlan b_Play_addPlan 4 none :: gtb) { frames := 0, cells := 0, slots := 0, locals := 0 } 0 0 3 := cwV 3 ht (gV w3_0 w3_1 w3_2 w1_2 w3_3) rfl rfl rfl ⟨rfl, by decide, by decide, by decide +kernel⟩ ⟨h1, h2⟩
theorem cw_Tape_131 {R : Room} {s : State} {args : Array Value} (ht : ∀ w ∈ gtb, w.before args s = true) (h1 : 1 + 1 ≤ R.frames) (h2 : 8 + (3 + 11) + 20 ≤ R.locals) : CallB R s args R_Tape 131 y_Chain_with b_Chain_with 3 (some .int) (.code y_Chain_with b_Chain_with 3 (some .int) :: gtb) { frames := 1, cells := 0, slots := 0, locals := 20 } 0 0 2 ∧ (Cond.static y_Chain_with).before args s = true := va_cwS 2 ht (gS w2_232 w2_5 w1_6 w2_6) rfl rfl rfl ⟨by decide, by decide, by decide +kernel⟩ ⟨h1, h2⟩
theorem cw_Tape_134 {R : Room} {s : State} {args : Array Value} (ht : ∀ w ∈ gtb, w.before args s = true) (h1 : 2 + 1 ≤ R.frames) (h2 : 8 + (2 + 11) + 43 ≤ R.locals) : CallB R s args R_Tape 134 y_Chain_bears b_Chain_bears 2 (some .boolean) (.code y_Chain_bears b_Chain_bears 2 (some .boolean) :: gtb) { frames := 2, cells := 0, slots := 0, locals := 43 } 0 0 2 ∧ (Cond.static y_Chain_bears).before args s = true := va_cwS 2 ht (gS w2_233 w2_234 w1_6 w2_235) rfl rfl rfl ⟨by decide, by decide, by decide +kernel⟩ ⟨h1, h2⟩
theorem cw_Tape_126 {R : Room} {s : State} {args : Array Value} (ht : ∀ w ∈ gtb, w.before args s = true) (h1 : 3 + 1 ≤ R.frames) (h2 : 8 + (4 + 11) + 65 ≤ R.locals) : CallW R s args R_Tape R_Tape 126 y_Tape_readRoute b_Tape_readRoute 4 (some .int) (.code y_Tape_readRoute b_Tape_readRoute 4 (some .int) :: gtb) { frames := 3, cells := 0, slots := 0, locals := 65 } 0 0 0 := cwV 0 ht (gV w2_227 w2_229 ws_Tape_readRoute w1_3 w2_230) rfl rfl rfl ⟨rfl, by decide, by decide, by decide +kernel⟩ ⟨h1, h2⟩
theorem cw_Tape_61 {R : Room} {s : State} {args : Array Value} (ht : ∀ w ∈ gtb, w.before args s = true) (h1 : 1 + 1 ≤ R.frames) (h2 : 8 + (2 + 11) + 22 ≤ R.locals) : CallW R s args R_Tape R_Tape 61 y_Tape_readSign b_Tape_readSign 2 none (.code y_Tape_readSign b_Tape_readSign 2 none :: gtb) { frames := 1, cells := 0, slots := 0, locals := 22 } 0 0 1 := cwV 1 ht (gV w2_190 w2_192 ws_Tape_readSign w1_3 w2_193) rfl rfl rfl ⟨rfl, by decide, by decide, by decide +kernel⟩ ⟨h1, h2⟩
noncomputable def f_Tape_readLetter_J110 (M : Mem) (x1 : Int32) (x2 : Int32) (x3 : Int32) : Option (Mem) := bnd (f_Play_addPlan 8 M x1 x2 x3) (fun M2 => some M2)
noncomputable def f_Tape_readLetter_J97 (M : Mem) (x3 : Int32) (x4 : Int32) (x5 : Int32) : Option ((Int32 × Int32 × Mem) ⊕ (Int32 × Mem)) := some (.inl (f_Chain_with x3 x5, x4 + (1 : Int32), M))
noncomputable def f_Tape_readLetter_L51 (x3 : Int32) (x4 : Int32) (M : Mem) : Option ((Int32 × Int32 × Mem) ⊕ (Int32 × Mem)) := if (400 : Int32) ≤ x4 then some (.inr (x3, M)) else 
    if (M 136 3) = 0 then 
    bnd2 (f_Tape_hasNumber M) (fun y5 M4 => 
    if (bI y5) = 0 then some (.inr (x3, M4)) else 
    bnd2 (f_Tape_readParty M4) (fun y8 M7 => 
    bnd (f_Chain_bears x3 y8) (fun y10 => 
    if (bI y10) = 0 then f_Tape_readLetter_J97 M7 x3 x4 y8 else bnd (f_Tape_blame M7 (M7 136 5) (2 : Int32)) (fun M12 => f_Tape_readLetter_J97 M12 x3 x4 y8)))) else some (.inr (x3, M))
noncomputable def f_Tape_readLetter_W51  (u : (Int32 × Int32 × Mem)) : Option (Int32 × Mem) := loop (fun t => f_Tape_readLetter_L51 t.1 t.2.1 t.2.2) u
noncomputable def f_Tape_readLetter_J51 (M : Mem) (x1 : Int32) (x2 : Int32) (x3 : Int32) (x4 : Int32) : Option (Mem) := bnd (f_Tape_readLetter_W51 (x3, x4, M)) (fun e51 => f_Tape_readLetter_J110 e51.2 x1 x2 e51.1)
noncomputable def f_Tape_readLetter_J21 (M : Mem) : Option (Mem) := bnd2 (f_Tape_readRoute M) (fun y15 M14 => 
    bnd2 (f_Tape_readNumber M14 (0 : Int32) (3 : Int32)) (fun y18 M17 => 
    bnd (f_Tape_readSign M17 (58 : Int32)) (fun M20 => 
    bnd2 (f_Tape_readParty M20) (fun y23 M22 => f_Tape_readLetter_J51 M22 y15 y18 (f_Chain_with (0 : Int32) y23) (0 : Int32)))))
noncomputable def f_Tape_readLetter (M : Mem) : Option Mem := 
    if (M 8 2) < (16 : Int32) then f_Tape_readLetter_J21 M else bnd (f_Tape_blame M (M 136 5) (3 : Int32)) (fun M25 => f_Tape_readLetter_J21 M25)
set_option maxHeartbeats 4000000 in
theorem wk_Tape_readLetter {l : Launch} {Z : WD} (hI : wI Z) (hZ : IsC Z) (M : Mem) {M' : Mem} {p : Program} {e : Env} {R : Room} {s : State} {m : MethodId} {args : Array Value} {below : List Frame} {meth : Method} {c : Code} {H : Heap} {locs : List Loc} {ls : Array Slot} {Q : State → Prop} (S : CallFix p m c b_Tape_readLetter 6 s args gtb R_Tape) (hX : wX Z s) (hR : 4 ≤ R.frames ∧ 88 ≤ R.locals) (hQ : ∀ (pc : Nat) (H : Heap) (locs : List Loc) (ls : Array Slot), HW Z M' s H locs → decode b_Tape_readLetter pc = .ok (.return_, 1) → W p l e R s m args below meth c H locs 0 0 Q (F0 m pc ls [])) (hf0 : f_Tape_readLetter M = some M') (hH : HW Z M s H locs) (hl : lv_has ls 6 [(0, .ref (Z.2.2.1 136))]) : W p l e R s m args below meth c H locs 0 0 Q (F0 m 0 ls []) := by
  have hx := S.1
  have hb := S.2.1
  have hown := S.2.2.2.1
  have ht := S.2.2.2.2
  unfold f_Tape_readLetter at hf0
  have J110 : ∀ (M : Mem) (x1 : Int32) (x2 : Int32) (x3 : Int32) (H : Heap) (locs : List Loc) (ls : Array Slot), f_Tape_readLetter_J110 M x1 x2 x3 = some M' → HW Z M s H locs → lv_has ls 6 [(0, .ref (Z.2.2.1 136)), (1, .int x1), (2, .int x2), (3, .int x3)] → W p l e R s m args below meth c H locs 0 0 Q (F0 m 110 ls []) := by
    intro M x1 x2 x3 H locs ls hf0 hH hl
    unfold f_Tape_readLetter_J110 at hf0
    refine lv_aload_n hx hb d_Tape_readLetter_110 rfl (lv_at hl 0 rfl) ?_
    refine g_Tape_18 S hX hH hZ d_Tape_readLetter_111 ?_
    refine lv_iload_n hx hb d_Tape_readLetter_114 rfl (lv_at hl 1 rfl) ?_
    refine lv_iload_n hx hb d_Tape_readLetter_115 rfl (lv_at hl 2 rfl) ?_
    refine lv_iload_n hx hb d_Tape_readLetter_116 rfl (lv_at hl 3 rfl) ?_
    obtain ⟨M2, hc1, hf0⟩ := o_b hf0
    refine q_cVv (As := [.int x1, .int x2, .int x3]) (rest := []) S hX hH (c_Play_addPlan l hI hZ 8 M x1 x2 x3 isPlay_8 hc1) (cw_Tape_138 S.2.2.2.2 (Nat.le_trans (Nat.le_of_ble_eq_true rfl) hR.1) (Nat.le_trans (Nat.le_of_ble_eq_true rfl) hR.2)) (rc_Play hX hH hZ isPlay_8) rfl hl.1 rfl (Nat.le_of_ble_eq_true rfl) d_Tape_readLetter_117 ⟨Nat.zero_le _, Nat.zero_le _⟩ (fun H locs hH => ?_)
    obtain rfl := o_v hf0
    exact hQ _ _ _ _ hH d_Tape_readLetter_120
  have J51 : ∀ (M : Mem) (x1 : Int32) (x2 : Int32) (x3 : Int32) (x4 : Int32) (H : Heap) (locs : List Loc) (ls : Array Slot), f_Tape_readLetter_J51 M x1 x2 x3 x4 = some M' → HW Z M s H locs → lv_has ls 6 [(0, .ref (Z.2.2.1 136)), (1, .int x1), (2, .int x2), (3, .int x3), (4, .int x4)] → W p l e R s m args below meth c H locs 0 0 Q (F0 m 51 ls []) := by
    intro M x1 x2 x3 x4 H locs ls hf0 hH hl
    unfold f_Tape_readLetter_J51 at hf0
    obtain ⟨e51, he51, hf0⟩ := o_b hf0
    have KX51 : ∀ (H : Heap) (locs : List Loc) (ls : Array Slot), HW Z e51.2 s H locs → lv_has ls 6 [(0, .ref (Z.2.2.1 136)), (1, .int x1), (2, .int x2), (3, .int e51.1)] → W p l e R s m args below meth c H locs 0 0 Q (F0 m 110 ls []) := by
      intro H locs ls hH hl
      exact J110 _ _ _ _ _ _ _ hf0 hH (lv_sub hl [0, 1, 2, 3] rfl)
    unfold f_Tape_readLetter_W51 at he51
    refine loop_W (fun t => ∀ (H : Heap) (locs : List Loc) (ls : Array Slot), HW Z t.2.2 s H locs → lv_has ls 6 [(0, .ref (Z.2.2.1 136)), (1, .int x1), (2, .int x2), (3, .int t.1), (4, .int t.2.1)] → W p l e R s m args below meth c H locs 0 0 Q (F0 m 51 ls [])) ?_ he51 H locs ls hH hl
    rintro ⟨x3, x4, M⟩ o1 hf1 hG1 hR1 H locs ls hH hl
    replace hH : HW Z M s H locs := hH
    replace hl : lv_has ls 6 [(0, .ref (Z.2.2.1 136)), (1, .int x1), (2, .int x2), (3, .int x3), (4, .int x4)] := hl
    replace hf1 : f_Tape_readLetter_L51 x3 x4 M = some o1 := hf1
    unfold f_Tape_readLetter_L51 at hf1
    have J97 : ∀ (M : Mem) (x3 : Int32) (x4 : Int32) (x5 : Int32) (H : Heap) (locs : List Loc) (ls : Array Slot), f_Tape_readLetter_J97 M x3 x4 x5 = some o1 → HW Z M s H locs → lv_has ls 6 [(0, .ref (Z.2.2.1 136)), (1, .int x1), (2, .int x2), (3, .int x3), (4, .int x4), (5, .int x5)] → W p l e R s m args below meth c H locs 0 0 Q (F0 m 97 ls []) := by
      intro M x3 x4 x5 H locs ls hf1 hH hl
      unfold f_Tape_readLetter_J97 at hf1
      refine lv_iload_n hx hb d_Tape_readLetter_97 rfl (lv_at hl 3 rfl) ?_
      refine lv_iload hx hb d_Tape_readLetter_98 (lv_at hl 5 rfl) ?_
      refine q_cSi (As := [.int x3, .int x5]) (rest := []) S hX hH (c_Chain_with l hI M x3 x5 rfl) (cw_Tape_131 S.2.2.2.2 (Nat.le_trans (Nat.le_of_ble_eq_true rfl) hR.1) (Nat.le_trans (Nat.le_of_ble_eq_true rfl) hR.2)) rfl hl.1 rfl (Nat.le_of_ble_eq_true rfl) d_Tape_readLetter_100 ⟨Nat.zero_le _, Nat.zero_le _⟩ (fun H locs hH => ?_)
      refine lv_istore_n (lv' := [(3, .int (f_Chain_with x3 x5)), (0, .ref (Z.2.2.1 136)), (1, .int x1), (2, .int x2), (4, .int x4), (5, .int x5)]) hx hb d_Tape_readLetter_103 rfl hl (by decide) rfl (fun ls hl => ?_)
      refine lv_iinc (v := x4 + (1 : Int32)) (lv' := [(4, .int (x4 + (1 : Int32))), (3, .int (f_Chain_with x3 x5)), (0, .ref (Z.2.2.1 136)), (1, .int x1), (2, .int x2), (5, .int x5)]) hx hb d_Tape_readLetter_104 hl (k := 4) rfl rfl (by decide) rfl (fun ls hl => ?_)
      refine lv_goto (tgt := 51) hx hb d_Tape_readLetter_107 (by decide) ?_
      exact hG1 _ (o_v hf1).symm _ _ _ hH (lv_sub hl [2, 3, 4, 1, 0] rfl)
    refine lv_iload hx hb d_Tape_readLetter_51 (lv_at hl 4 rfl) ?_
    refine lv_sipush (v := (400 : Int32)) hx hb d_Tape_readLetter_53 (by decide) ?_
    refine lv_icmp_ge (tgt := 110) hx hb d_Tape_readLetter_56 (by decide) (fun hc => ?_) (fun hc => ?_)
    · replace hf1 := o_t hc hf1
      obtain rfl := hR1 _ (o_v hf1).symm
      exact KX51 _ _ _ hH (lv_sub hl [0, 1, 2, 3] rfl)
    · replace hf1 := o_f hc hf1
      refine lv_aload_n hx hb d_Tape_readLetter_59 rfl (lv_at hl 0 rfl) ?_
      refine g_Tape_26 S hX hH hZ d_Tape_readLetter_60 ?_
      refine lv_if_ne (tgt := 110) hx hb d_Tape_readLetter_63 (by decide) (fun hc => ?_) (fun hc => ?_)
      · replace hf1 := o_f hc hf1
        obtain rfl := hR1 _ (o_v hf1).symm
        exact KX51 _ _ _ hH (lv_sub hl [0, 1, 2, 3] rfl)
      · replace hf1 := o_t hc hf1
        refine lv_aload_n hx hb d_Tape_readLetter_66 rfl (lv_at hl 0 rfl) ?_
        obtain ⟨y5, M4, hc3, hf1⟩ := o_b2 hf1
        refine q_cVi (As := []) (rest := []) S hX hH (c_Tape_hasNumber l hI hZ M hc3) (cw_Tape_119 S.2.2.2.2 (Nat.le_trans (Nat.le_of_ble_eq_true rfl) hR.1) (Nat.le_trans (Nat.le_of_ble_eq_true rfl) hR.2)) (rc_Tape hX hH hZ) rfl hl.1 rfl (Nat.le_of_ble_eq_true rfl) d_Tape_readLetter_67 ⟨Nat.zero_le _, Nat.zero_le _⟩ (fun H locs hH => ?_)
        refine lv_if_eq (tgt := 110) hx hb d_Tape_readLetter_70 (by decide) (fun hc => ?_) (fun hc => ?_)
        · replace hf1 := o_t hc hf1
          obtain rfl := hR1 _ (o_v hf1).symm
          exact KX51 _ _ _ hH (lv_sub hl [0, 1, 2, 3] rfl)
        · replace hf1 := o_f hc hf1
          refine lv_aload_n hx hb d_Tape_readLetter_73 rfl (lv_at hl 0 rfl) ?_
          obtain ⟨y8, M7, hc6, hf1⟩ := o_b2 hf1
          refine q_cVi (As := []) (rest := []) S hX hH (c_Tape_readParty l hI hZ M4 hc6) (cw_Tape_116 S.2.2.2.2 (Nat.le_trans (Nat.le_of_ble_eq_true rfl) hR.1) (Nat.le_trans (Nat.le_of_ble_eq_true rfl) hR.2)) (rc_Tape hX hH hZ) rfl hl.1 rfl (Nat.le_of_ble_eq_true rfl) d_Tape_readLetter_74 ⟨Nat.zero_le _, Nat.zero_le _⟩ (fun H locs hH => ?_)
          refine lv_istore (lv' := [(5, .int y8), (0, .ref (Z.2.2.1 136)), (1, .int x1), (2, .int x2), (3, .int x3), (4, .int x4)]) hx hb d_Tape_readLetter_77 hl (by decide) rfl (fun ls hl => ?_)
          refine lv_iload_n hx hb d_Tape_readLetter_79 rfl (lv_at hl 4 rfl) ?_
          refine lv_iload hx hb d_Tape_readLetter_80 (lv_at hl 0 rfl) ?_
          obtain ⟨y10, hc9, hf1⟩ := o_b hf1
          refine q_cSi (As := [.int x3, .int y8]) (rest := []) S hX hH (c_Chain_bears l hI M7 x3 y8 hc9) (cw_Tape_134 S.2.2.2.2 (Nat.le_trans (Nat.le_of_ble_eq_true rfl) hR.1) (Nat.le_trans (Nat.le_of_ble_eq_true rfl) hR.2)) rfl hl.1 rfl (Nat.le_of_ble_eq_true rfl) d_Tape_readLetter_82 ⟨Nat.zero_le _, Nat.zero_le _⟩ (fun H locs hH => ?_)
          refine lv_if_eq (tgt := 97) hx hb d_Tape_readLetter_85 (by decide) (fun hc => ?_) (fun hc => ?_)
          · replace hf1 := o_t hc hf1
            exact J97 _ _ _ _ _ _ _ hf1 hH (lv_sub hl [1, 2, 3, 4, 5, 0] rfl)
          · replace hf1 := o_f hc hf1
            refine lv_aload_n hx hb d_Tape_readLetter_88 rfl (lv_at hl 1 rfl) ?_
            refine lv_aload_n hx hb d_Tape_readLetter_89 rfl (lv_at hl 1 rfl) ?_
            refine g_Tape_32 S hX hH hZ d_Tape_readLetter_90 ?_
            refine lv_iconst (v := (2 : Int32)) hx hb d_Tape_readLetter_93 (by decide) ?_
            obtain ⟨M12, hc11, hf1⟩ := o_b hf1
            refine q_cVv (As := [.int (M7 136 5), .int (2 : Int32)]) (rest := []) S hX hH (c_Tape_blame l hI hZ M7 (M7 136 5) (2 : Int32) hc11) (cw_Tape_47 S.2.2.2.2 (Nat.le_trans (Nat.le_of_ble_eq_true rfl) hR.1) (Nat.le_trans (Nat.le_of_ble_eq_true rfl) hR.2)) (rc_Tape hX hH hZ) rfl hl.1 rfl (Nat.le_of_ble_eq_true rfl) d_Tape_readLetter_94 ⟨Nat.zero_le _, Nat.zero_le _⟩ (fun H locs hH => ?_)
            exact J97 _ _ _ _ _ _ _ hf1 hH (lv_sub hl [1, 2, 3, 4, 5, 0] rfl)
  have J21 : ∀ (M : Mem) (H : Heap) (locs : List Loc) (ls : Array Slot), f_Tape_readLetter_J21 M = some M' → HW Z M s H locs → lv_has ls 6 [(0, .ref (Z.2.2.1 136))] → W p l e R s m args below meth c H locs 0 0 Q (F0 m 21 ls []) := by
    intro M H locs ls hf0 hH hl
    unfold f_Tape_readLetter_J21 at hf0
    refine lv_aload_n hx hb d_Tape_readLetter_21 rfl (lv_at hl 0 rfl) ?_
    obtain ⟨y15, M14, hc13, hf0⟩ := o_b2 hf0
    refine q_cVi (As := []) (rest := []) S hX hH (c_Tape_readRoute l hI hZ M hc13) (cw_Tape_126 S.2.2.2.2 (Nat.le_trans (Nat.le_of_ble_eq_true rfl) hR.1) (Nat.le_trans (Nat.le_of_ble_eq_true rfl) hR.2)) (rc_Tape hX hH hZ) rfl hl.1 rfl (Nat.le_of_ble_eq_true rfl) d_Tape_readLetter_22 ⟨Nat.zero_le _, Nat.zero_le _⟩ (fun H locs hH => ?_)
    refine lv_istore_n (lv' := [(1, .int y15), (0, .ref (Z.2.2.1 136))]) hx hb d_Tape_readLetter_25 rfl hl (by decide) rfl (fun ls hl => ?_)
    refine lv_aload_n hx hb d_Tape_readLetter_26 rfl (lv_at hl 1 rfl) ?_
    refine lv_iconst (v := (0 : Int32)) hx hb d_Tape_readLetter_27 (by decide) ?_
    refine lv_iconst (v := (3 : Int32)) hx hb d_Tape_readLetter_28 (by decide) ?_
    obtain ⟨y18, M17, hc16, hf0⟩ := o_b2 hf0
    refine q_cVi (As := [.int (0 : Int32), .int (3 : Int32)]) (rest := []) S hX hH (c_Tape_readNumber l hI hZ M14 (0 : Int32) (3 : Int32) hc16) (cw_Tape_51 S.2.2.2.2 (Nat.le_trans (Nat.le_of_ble_eq_true rfl) hR.1) (Nat.le_trans (Nat.le_of_ble_eq_true rfl) hR.2)) (rc_Tape hX hH hZ) rfl hl.1 rfl (Nat.le_of_ble_eq_true rfl) d_Tape_readLetter_29 ⟨Nat.zero_le _, Nat.zero_le _⟩ (fun H locs hH => ?_)
    refine lv_istore_n (lv' := [(2, .int y18), (1, .int y15), (0, .ref (Z.2.2.1 136))]) hx hb d_Tape_readLetter_32 rfl hl (by decide) rfl (fun ls hl => ?_)
    refine lv_aload_n hx hb d_Tape_readLetter_33 rfl (lv_at hl 2 rfl) ?_
    refine lv_bipush (v := (58 : Int32)) hx hb d_Tape_readLetter_34 (by decide) ?_
    obtain ⟨M20, hc19, hf0⟩ := o_b hf0
    refine q_cVv (As := [.int (58 : Int32)]) (rest := []) S hX hH (c_Tape_readSign l hI hZ M17 (58 : Int32) hc19) (cw_Tape_61 S.2.2.2.2 (Nat.le_trans (Nat.le_of_ble_eq_true rfl) hR.1) (Nat.le_trans (Nat.le_of_ble_eq_true rfl) hR.2)) (rc_Tape hX hH hZ) rfl hl.1 rfl (Nat.le_of_ble_eq_true rfl) d_Tape_readLetter_36 ⟨Nat.zero_le _, Nat.zero_le _⟩ (fun H locs hH => ?_)
    refine lv_iconst (v := (0 : Int32)) hx hb d_Tape_readLetter_39 (by decide) ?_
    refine lv_aload_n hx hb d_Tape_readLetter_40 rfl (lv_at hl 2 rfl) ?_
    obtain ⟨y23, M22, hc21, hf0⟩ := o_b2 hf0
    refine q_cVi (As := []) (rest := [.int (0 : Int32)]) S hX hH (c_Tape_readParty l hI hZ M20 hc21) (cw_Tape_116 S.2.2.2.2 (Nat.le_trans (Nat.le_of_ble_eq_true rfl) hR.1) (Nat.le_trans (Nat.le_of_ble_eq_true rfl) hR.2)) (rc_Tape hX hH hZ) rfl hl.1 rfl (Nat.le_of_ble_eq_true rfl) d_Tape_readLetter_41 ⟨Nat.zero_le _, Nat.zero_le _⟩ (fun H locs hH => ?_)
    refine q_cSi (As := [.int (0 : Int32), .int y23]) (rest := []) S hX hH (c_Chain_with l hI M22 (0 : Int32) y23 rfl) (cw_Tape_131 S.2.2.2.2 (Nat.le_trans (Nat.le_of_ble_eq_true rfl) hR.1) (Nat.le_trans (Nat.le_of_ble_eq_true rfl) hR.2)) rfl hl.1 rfl (Nat.le_of_ble_eq_true rfl) d_Tape_readLetter_44 ⟨Nat.zero_le _, Nat.zero_le _⟩ (fun H locs hH => ?_)
    refine lv_istore_n (lv' := [(3, .int (f_Chain_with (0 : Int32) y23)), (2, .int y18), (1, .int y15), (0, .ref (Z.2.2.1 136))]) hx hb d_Tape_readLetter_47 rfl hl (by decide) rfl (fun ls hl => ?_)
    refine lv_iconst (v := (0 : Int32)) hx hb d_Tape_readLetter_48 (by decide) ?_
    refine lv_istore (lv' := [(4, .int (0 : Int32)), (3, .int (f_Chain_with (0 : Int32) y23)), (2, .int y18), (1, .int y15), (0, .ref (Z.2.2.1 136))]) hx hb d_Tape_readLetter_49 hl (by decide) rfl (fun ls hl => ?_)
    exact J51 _ _ _ _ _ _ _ _ hf0 hH (lv_sub hl [4, 3, 2, 1, 0] rfl)
  refine lv_aload_n hx hb d_Tape_readLetter_0 rfl (lv_at hl 0 rfl) ?_
  refine g_Tape_18 S hX hH hZ d_Tape_readLetter_1 ?_
  refine g_Tape_123 S hX hH hZ isPlay_8 d_Tape_readLetter_4 ?_
  refine lv_bipush (v := (16 : Int32)) hx hb d_Tape_readLetter_7 (by decide) ?_
  refine lv_icmp_lt (tgt := 21) hx hb d_Tape_readLetter_9 (by decide) (fun hc => ?_) (fun hc => ?_)
  · replace hf0 := o_t hc hf0
    exact J21 _ _ _ _ hf0 hH (lv_sub hl [0] rfl)
  · replace hf0 := o_f hc hf0
    refine lv_aload_n hx hb d_Tape_readLetter_12 rfl (lv_at hl 0 rfl) ?_
    refine lv_aload_n hx hb d_Tape_readLetter_13 rfl (lv_at hl 0 rfl) ?_
    refine g_Tape_32 S hX hH hZ d_Tape_readLetter_14 ?_
    refine lv_iconst (v := (3 : Int32)) hx hb d_Tape_readLetter_17 (by decide) ?_
    obtain ⟨M25, hc24, hf0⟩ := o_b hf0
    refine q_cVv (As := [.int (M 136 5), .int (3 : Int32)]) (rest := []) S hX hH (c_Tape_blame l hI hZ M (M 136 5) (3 : Int32) hc24) (cw_Tape_47 S.2.2.2.2 (Nat.le_trans (Nat.le_of_ble_eq_true rfl) hR.1) (Nat.le_trans (Nat.le_of_ble_eq_true rfl) hR.2)) (rc_Tape hX hH hZ) rfl hl.1 rfl (Nat.le_of_ble_eq_true rfl) d_Tape_readLetter_18 ⟨Nat.zero_le _, Nat.zero_le _⟩ (fun H locs hH => ?_)
    exact J21 _ _ _ _ hf0 hH (lv_sub hl [0] rfl)
theorem c_Tape_readLetter (l : Launch) {Z : WD} (hI : wI Z) (hZ : IsC Z) (M : Mem) {M' : Mem} (hf : f_Tape_readLetter M = some M') : Cv l Z y_Tape_readLetter b_Tape_readLetter 6 none 4 88 [.ref (Z.2.2.1 136)] M M' := by
  refine Met.ofW (cc := b_Tape_readLetter) (maxL := 6) (ret := none) (by decide) rfl ?_
  intro p e s m args below meth c s₁ B hml hv
  obtain ⟨rfl, hP, hX⟩ := hv
  have S : CallFix p m c b_Tape_readLetter 6 s ([.ref (Z.2.2.1 136)] : List Value).toArray gtb R_Tape := ⟨B.exec, B.bytes, hml, findClass_of_methodNamed B.named, fun w hw => atoms_spec (ws := .code y_Tape_readLetter b_Tape_readLetter 6 none :: gtb) B.pre w (List.mem_cons_of_mem _ hw)⟩
  have hl := lv_entry ([.ref (Z.2.2.1 136)]) (n := 6) (Nat.le_of_ble_eq_true rfl)
  rw [lg_entry_eq]
  exact wk_Tape_readLetter hI hZ M S hX ⟨Nat.le_refl _, Nat.le_refl _⟩ (fun pc H locs ls hH d => q_rv S.1 S.2.1 B.returns B.notSynchronized hH rfl d) hf ⟨hP, va_S.rf⟩ hl
theorem cw_Tape_149 {R : Room} {s : State} {args : Array Value} (ht : ∀ w ∈ gtb, w.before args s = true) (h1 : 0 + 1 ≤ R.frames) (h2 : 8 + (2 + 11) + 0 ≤ R.locals) : CallW R s args R_Tape R_Play 149 y_Play_addOmit b_Play_addOmit 2 none (.code y_Play_addOmit b_Play_addOmit 2 none :: gtb) { frames := 0, cells := 0, slots := 0, locals := 0 } 0 0 1 := cwV 1 ht (gV w3_15 w3_16 w3_17 w1_2 w3_18) rfl rfl rfl ⟨rfl, by decide, by decide, by decide +kernel⟩ ⟨h1, h2⟩
theorem cw_Tape_145 {R : Room} {s : State} {args : Array Value} (ht : ∀ w ∈ gtb, w.before args s = true) (h1 : 1 + 1 ≤ R.frames) (h2 : 8 + (2 + 11) + 23 ≤ R.locals) : CallW R s args R_Tape R_Play 145 y_Play_isOmitted b_Play_isOmitted 2 (some .boolean) (.code y_Play_isOmitted b_Play_isOmitted 2 (some .boolean) :: gtb) { frames := 1, cells := 0, slots := 0, locals := 23 } 0 0 1 := cwV 1 ht (gV w3_8 w3_9 w3_10 w1_2 w3_11) rfl rfl rfl ⟨rfl, by decide, by decide, by decide +kernel⟩ ⟨h1, h2⟩
noncomputable def f_Tape_readOmit_J46 (M : Mem) (x1 : Int32) : Option (Mem) := bnd (f_Play_addOmit 8 M x1) (fun M2 => some M2)
noncomputable def f_Tape_readOmit_J21 (M : Mem) : Option (Mem) := bnd2 (f_Tape_readRoute M) (fun y5 M4 => 
    bnd (f_Play_isOmitted 8 M4 y5) (fun y7 => 
    if (bI y7) = 0 then f_Tape_readOmit_J46 M4 y5 else bnd (f_Tape_blame M4 (M4 136 5) (4 : Int32)) (fun M9 => f_Tape_readOmit_J46 M9 y5)))
noncomputable def f_Tape_readOmit (M : Mem) : Option Mem := 
    if (M 8 3) < (12 : Int32) then f_Tape_readOmit_J21 M else bnd (f_Tape_blame M (M 136 5) (3 : Int32)) (fun M11 => f_Tape_readOmit_J21 M11)
set_option maxHeartbeats 4000000 in
theorem wk_Tape_readOmit {l : Launch} {Z : WD} (hI : wI Z) (hZ : IsC Z) (M : Mem) {M' : Mem} {p : Program} {e : Env} {R : Room} {s : State} {m : MethodId} {args : Array Value} {below : List Frame} {meth : Method} {c : Code} {H : Heap} {locs : List Loc} {ls : Array Slot} {Q : State → Prop} (S : CallFix p m c b_Tape_readOmit 2 s args gtb R_Tape) (hX : wX Z s) (hR : 4 ≤ R.frames ∧ 88 ≤ R.locals) (hQ : ∀ (pc : Nat) (H : Heap) (locs : List Loc) (ls : Array Slot), HW Z M' s H locs → decode b_Tape_readOmit pc = .ok (.return_, 1) → W p l e R s m args below meth c H locs 0 0 Q (F0 m pc ls [])) (hf0 : f_Tape_readOmit M = some M') (hH : HW Z M s H locs) (hl : lv_has ls 2 [(0, .ref (Z.2.2.1 136))]) : W p l e R s m args below meth c H locs 0 0 Q (F0 m 0 ls []) := by
  have hx := S.1
  have hb := S.2.1
  have hown := S.2.2.2.1
  have ht := S.2.2.2.2
  unfold f_Tape_readOmit at hf0
  have J46 : ∀ (M : Mem) (x1 : Int32) (H : Heap) (locs : List Loc) (ls : Array Slot), f_Tape_readOmit_J46 M x1 = some M' → HW Z M s H locs → lv_has ls 2 [(0, .ref (Z.2.2.1 136)), (1, .int x1)] → W p l e R s m args below meth c H locs 0 0 Q (F0 m 46 ls []) := by
    intro M x1 H locs ls hf0 hH hl
    unfold f_Tape_readOmit_J46 at hf0
    refine lv_aload_n hx hb d_Tape_readOmit_46 rfl (lv_at hl 0 rfl) ?_
    refine g_Tape_18 S hX hH hZ d_Tape_readOmit_47 ?_
    refine lv_iload_n hx hb d_Tape_readOmit_50 rfl (lv_at hl 1 rfl) ?_
    obtain ⟨M2, hc1, hf0⟩ := o_b hf0
    refine q_cVv (As := [.int x1]) (rest := []) S hX hH (c_Play_addOmit l hI hZ 8 M x1 isPlay_8 hc1) (cw_Tape_149 S.2.2.2.2 (Nat.le_trans (Nat.le_of_ble_eq_true rfl) hR.1) (Nat.le_trans (Nat.le_of_ble_eq_true rfl) hR.2)) (rc_Play hX hH hZ isPlay_8) rfl hl.1 rfl (Nat.le_of_ble_eq_true rfl) d_Tape_readOmit_51 ⟨Nat.zero_le _, Nat.zero_le _⟩ (fun H locs hH => ?_)
    obtain rfl := o_v hf0
    exact hQ _ _ _ _ hH d_Tape_readOmit_54
  have J21 : ∀ (M : Mem) (H : Heap) (locs : List Loc) (ls : Array Slot), f_Tape_readOmit_J21 M = some M' → HW Z M s H locs → lv_has ls 2 [(0, .ref (Z.2.2.1 136))] → W p l e R s m args below meth c H locs 0 0 Q (F0 m 21 ls []) := by
    intro M H locs ls hf0 hH hl
    unfold f_Tape_readOmit_J21 at hf0
    refine lv_aload_n hx hb d_Tape_readOmit_21 rfl (lv_at hl 0 rfl) ?_
    obtain ⟨y5, M4, hc3, hf0⟩ := o_b2 hf0
    refine q_cVi (As := []) (rest := []) S hX hH (c_Tape_readRoute l hI hZ M hc3) (cw_Tape_126 S.2.2.2.2 (Nat.le_trans (Nat.le_of_ble_eq_true rfl) hR.1) (Nat.le_trans (Nat.le_of_ble_eq_true rfl) hR.2)) (rc_Tape hX hH hZ) rfl hl.1 rfl (Nat.le_of_ble_eq_true rfl) d_Tape_readOmit_22 ⟨Nat.zero_le _, Nat.zero_le _⟩ (fun H locs hH => ?_)
    refine lv_istore_n (lv' := [(1, .int y5), (0, .ref (Z.2.2.1 136))]) hx hb d_Tape_readOmit_25 rfl hl (by decide) rfl (fun ls hl => ?_)
    refine lv_aload_n hx hb d_Tape_readOmit_26 rfl (lv_at hl 1 rfl) ?_
    refine g_Tape_18 S hX hH hZ d_Tape_readOmit_27 ?_
    refine lv_iload_n hx hb d_Tape_readOmit_30 rfl (lv_at hl 0 rfl) ?_
    obtain ⟨y7, hc6, hf0⟩ := o_b hf0
    refine q_cVi (As := [.int y5]) (rest := []) S hX hH (c_Play_isOmitted l hI hZ 8 M4 y5 isPlay_8 hc6) (cw_Tape_145 S.2.2.2.2 (Nat.le_trans (Nat.le_of_ble_eq_true rfl) hR.1) (Nat.le_trans (Nat.le_of_ble_eq_true rfl) hR.2)) (rc_Play hX hH hZ isPlay_8) rfl hl.1 rfl (Nat.le_of_ble_eq_true rfl) d_Tape_readOmit_31 ⟨Nat.zero_le _, Nat.zero_le _⟩ (fun H locs hH => ?_)
    refine lv_if_eq (tgt := 46) hx hb d_Tape_readOmit_34 (by decide) (fun hc => ?_) (fun hc => ?_)
    · replace hf0 := o_t hc hf0
      exact J46 _ _ _ _ _ hf0 hH (lv_sub hl [1, 0] rfl)
    · replace hf0 := o_f hc hf0
      refine lv_aload_n hx hb d_Tape_readOmit_37 rfl (lv_at hl 1 rfl) ?_
      refine lv_aload_n hx hb d_Tape_readOmit_38 rfl (lv_at hl 1 rfl) ?_
      refine g_Tape_32 S hX hH hZ d_Tape_readOmit_39 ?_
      refine lv_iconst (v := (4 : Int32)) hx hb d_Tape_readOmit_42 (by decide) ?_
      obtain ⟨M9, hc8, hf0⟩ := o_b hf0
      refine q_cVv (As := [.int (M4 136 5), .int (4 : Int32)]) (rest := []) S hX hH (c_Tape_blame l hI hZ M4 (M4 136 5) (4 : Int32) hc8) (cw_Tape_47 S.2.2.2.2 (Nat.le_trans (Nat.le_of_ble_eq_true rfl) hR.1) (Nat.le_trans (Nat.le_of_ble_eq_true rfl) hR.2)) (rc_Tape hX hH hZ) rfl hl.1 rfl (Nat.le_of_ble_eq_true rfl) d_Tape_readOmit_43 ⟨Nat.zero_le _, Nat.zero_le _⟩ (fun H locs hH => ?_)
      exact J46 _ _ _ _ _ hf0 hH (lv_sub hl [1, 0] rfl)
  refine lv_aload_n hx hb d_Tape_readOmit_0 rfl (lv_at hl 0 rfl) ?_
  refine g_Tape_18 S hX hH hZ d_Tape_readOmit_1 ?_
  refine g_Tape_142 S hX hH hZ isPlay_8 d_Tape_readOmit_4 ?_
  refine lv_bipush (v := (12 : Int32)) hx hb d_Tape_readOmit_7 (by decide) ?_
  refine lv_icmp_lt (tgt := 21) hx hb d_Tape_readOmit_9 (by decide) (fun hc => ?_) (fun hc => ?_)
  · replace hf0 := o_t hc hf0
    exact J21 _ _ _ _ hf0 hH (lv_sub hl [0] rfl)
  · replace hf0 := o_f hc hf0
    refine lv_aload_n hx hb d_Tape_readOmit_12 rfl (lv_at hl 0 rfl) ?_
    refine lv_aload_n hx hb d_Tape_readOmit_13 rfl (lv_at hl 0 rfl) ?_
    refine g_Tape_32 S hX hH hZ d_Tape_readOmit_14 ?_
    refine lv_iconst (v := (3 : Int32)) hx hb d_Tape_readOmit_17 (by decide) ?_
    obtain ⟨M11, hc10, hf0⟩ := o_b hf0
    refine q_cVv (As := [.int (M 136 5), .int (3 : Int32)]) (rest := []) S hX hH (c_Tape_blame l hI hZ M (M 136 5) (3 : Int32) hc10) (cw_Tape_47 S.2.2.2.2 (Nat.le_trans (Nat.le_of_ble_eq_true rfl) hR.1) (Nat.le_trans (Nat.le_of_ble_eq_true rfl) hR.2)) (rc_Tape hX hH hZ) rfl hl.1 rfl (Nat.le_of_ble_eq_true rfl) d_Tape_readOmit_18 ⟨Nat.zero_le _, Nat.zero_le _⟩ (fun H locs hH => ?_)
    exact J21 _ _ _ _ hf0 hH (lv_sub hl [0] rfl)
theorem c_Tape_readOmit (l : Launch) {Z : WD} (hI : wI Z) (hZ : IsC Z) (M : Mem) {M' : Mem} (hf : f_Tape_readOmit M = some M') : Cv l Z y_Tape_readOmit b_Tape_readOmit 2 none 4 88 [.ref (Z.2.2.1 136)] M M' := by
  refine Met.ofW (cc := b_Tape_readOmit) (maxL := 2) (ret := none) (by decide) rfl ?_
  intro p e s m args below meth c s₁ B hml hv
  obtain ⟨rfl, hP, hX⟩ := hv
  have S : CallFix p m c b_Tape_readOmit 2 s ([.ref (Z.2.2.1 136)] : List Value).toArray gtb R_Tape := ⟨B.exec, B.bytes, hml, findClass_of_methodNamed B.named, fun w hw => atoms_spec (ws := .code y_Tape_readOmit b_Tape_readOmit 2 none :: gtb) B.pre w (List.mem_cons_of_mem _ hw)⟩
  have hl := lv_entry ([.ref (Z.2.2.1 136)]) (n := 2) (Nat.le_of_ble_eq_true rfl)
  rw [lg_entry_eq]
  exact wk_Tape_readOmit hI hZ M S hX ⟨Nat.le_refl _, Nat.le_refl _⟩ (fun pc H locs ls hH d => q_rv S.1 S.2.1 B.returns B.notSynchronized hH rfl d) hf ⟨hP, va_S.rf⟩ hl
theorem cw_Tape_159 {R : Room} {s : State} {args : Array Value} (ht : ∀ w ∈ gtb, w.before args s = true) (h1 : 0 + 1 ≤ R.frames) (h2 : 8 + (3 + 11) + 0 ≤ R.locals) : CallW R s args R_Tape R_Play 159 y_Play_addLate b_Play_addLate 3 none (.code y_Play_addLate b_Play_addLate 3 none :: gtb) { frames := 0, cells := 0, slots := 0, locals := 0 } 0 0 2 := cwV 2 ht (gV w3_27 w3_28 w3_29 w1_2 w3_30) rfl rfl rfl ⟨rfl, by decide, by decide, by decide +kernel⟩ ⟨h1, h2⟩
theorem cw_Tape_156 {R : Room} {s : State} {args : Array Value} (ht : ∀ w ∈ gtb, w.before args s = true) (h1 : 1 + 1 ≤ R.frames) (h2 : 8 + (2 + 11) + 23 ≤ R.locals) : CallW R s args R_Tape R_Play 156 y_Play_isLate b_Play_isLate 2 (some .boolean) (.code y_Play_isLate b_Play_isLate 2 (some .boolean) :: gtb) { frames := 1, cells := 0, slots := 0, locals := 23 } 0 0 1 := cwV 1 ht (gV w3_23 w3_24 w3_25 w1_2 w3_26) rfl rfl rfl ⟨rfl, by decide, by decide, by decide +kernel⟩ ⟨h1, h2⟩
noncomputable def f_Tape_readLate_J46 (M : Mem) (x1 : Int32) : Option (Mem) := bnd2 (f_Tape_readNumber M (1 : Int32) (7 : Int32)) (fun y3 M2 => bnd (f_Play_addLate 8 M2 x1 y3) (fun M5 => some M5))
noncomputable def f_Tape_readLate_J21 (M : Mem) : Option (Mem) := bnd2 (f_Tape_readRoute M) (fun y8 M7 => 
    bnd (f_Play_isLate 8 M7 y8) (fun y10 => 
    if (bI y10) = 0 then f_Tape_readLate_J46 M7 y8 else bnd (f_Tape_blame M7 (M7 136 5) (4 : Int32)) (fun M12 => f_Tape_readLate_J46 M12 y8)))
noncomputable def f_Tape_readLate (M : Mem) : Option Mem := 
    if (M 8 4) < (12 : Int32) then f_Tape_readLate_J21 M else bnd (f_Tape_blame M (M 136 5) (3 : Int32)) (fun M14 => f_Tape_readLate_J21 M14)
set_option maxHeartbeats 4000000 in
theorem wk_Tape_readLate {l : Launch} {Z : WD} (hI : wI Z) (hZ : IsC Z) (M : Mem) {M' : Mem} {p : Program} {e : Env} {R : Room} {s : State} {m : MethodId} {args : Array Value} {below : List Frame} {meth : Method} {c : Code} {H : Heap} {locs : List Loc} {ls : Array Slot} {Q : State → Prop} (S : CallFix p m c b_Tape_readLate 2 s args gtb R_Tape) (hX : wX Z s) (hR : 4 ≤ R.frames ∧ 88 ≤ R.locals) (hQ : ∀ (pc : Nat) (H : Heap) (locs : List Loc) (ls : Array Slot), HW Z M' s H locs → decode b_Tape_readLate pc = .ok (.return_, 1) → W p l e R s m args below meth c H locs 0 0 Q (F0 m pc ls [])) (hf0 : f_Tape_readLate M = some M') (hH : HW Z M s H locs) (hl : lv_has ls 2 [(0, .ref (Z.2.2.1 136))]) : W p l e R s m args below meth c H locs 0 0 Q (F0 m 0 ls []) := by
  have hx := S.1
  have hb := S.2.1
  have hown := S.2.2.2.1
  have ht := S.2.2.2.2
  unfold f_Tape_readLate at hf0
  have J46 : ∀ (M : Mem) (x1 : Int32) (H : Heap) (locs : List Loc) (ls : Array Slot), f_Tape_readLate_J46 M x1 = some M' → HW Z M s H locs → lv_has ls 2 [(0, .ref (Z.2.2.1 136)), (1, .int x1)] → W p l e R s m args below meth c H locs 0 0 Q (F0 m 46 ls []) := by
    intro M x1 H locs ls hf0 hH hl
    unfold f_Tape_readLate_J46 at hf0
    refine lv_aload_n hx hb d_Tape_readLate_46 rfl (lv_at hl 0 rfl) ?_
    refine g_Tape_18 S hX hH hZ d_Tape_readLate_47 ?_
    refine lv_iload_n hx hb d_Tape_readLate_50 rfl (lv_at hl 1 rfl) ?_
    refine lv_aload_n hx hb d_Tape_readLate_51 rfl (lv_at hl 0 rfl) ?_
    refine lv_iconst (v := (1 : Int32)) hx hb d_Tape_readLate_52 (by decide) ?_
    refine lv_bipush (v := (7 : Int32)) hx hb d_Tape_readLate_53 (by decide) ?_
    obtain ⟨y3, M2, hc1, hf0⟩ := o_b2 hf0
    refine q_cVi (As := [.int (1 : Int32), .int (7 : Int32)]) (rest := [.int x1, .ref (Z.2.2.1 8)]) S hX hH (c_Tape_readNumber l hI hZ M (1 : Int32) (7 : Int32) hc1) (cw_Tape_51 S.2.2.2.2 (Nat.le_trans (Nat.le_of_ble_eq_true rfl) hR.1) (Nat.le_trans (Nat.le_of_ble_eq_true rfl) hR.2)) (rc_Tape hX hH hZ) rfl hl.1 rfl (Nat.le_of_ble_eq_true rfl) d_Tape_readLate_55 ⟨Nat.zero_le _, Nat.zero_le _⟩ (fun H locs hH => ?_)
    obtain ⟨M5, hc4, hf0⟩ := o_b hf0
    refine q_cVv (As := [.int x1, .int y3]) (rest := []) S hX hH (c_Play_addLate l hI hZ 8 M2 x1 y3 isPlay_8 hc4) (cw_Tape_159 S.2.2.2.2 (Nat.le_trans (Nat.le_of_ble_eq_true rfl) hR.1) (Nat.le_trans (Nat.le_of_ble_eq_true rfl) hR.2)) (rc_Play hX hH hZ isPlay_8) rfl hl.1 rfl (Nat.le_of_ble_eq_true rfl) d_Tape_readLate_58 ⟨Nat.zero_le _, Nat.zero_le _⟩ (fun H locs hH => ?_)
    obtain rfl := o_v hf0
    exact hQ _ _ _ _ hH d_Tape_readLate_61
  have J21 : ∀ (M : Mem) (H : Heap) (locs : List Loc) (ls : Array Slot), f_Tape_readLate_J21 M = some M' → HW Z M s H locs → lv_has ls 2 [(0, .ref (Z.2.2.1 136))] → W p l e R s m args below meth c H locs 0 0 Q (F0 m 21 ls []) := by
    intro M H locs ls hf0 hH hl
    unfold f_Tape_readLate_J21 at hf0
    refine lv_aload_n hx hb d_Tape_readLate_21 rfl (lv_at hl 0 rfl) ?_
    obtain ⟨y8, M7, hc6, hf0⟩ := o_b2 hf0
    refine q_cVi (As := []) (rest := []) S hX hH (c_Tape_readRoute l hI hZ M hc6) (cw_Tape_126 S.2.2.2.2 (Nat.le_trans (Nat.le_of_ble_eq_true rfl) hR.1) (Nat.le_trans (Nat.le_of_ble_eq_true rfl) hR.2)) (rc_Tape hX hH hZ) rfl hl.1 rfl (Nat.le_of_ble_eq_true rfl) d_Tape_readLate_22 ⟨Nat.zero_le _, Nat.zero_le _⟩ (fun H locs hH => ?_)
    refine lv_istore_n (lv' := [(1, .int y8), (0, .ref (Z.2.2.1 136))]) hx hb d_Tape_readLate_25 rfl hl (by decide) rfl (fun ls hl => ?_)
    refine lv_aload_n hx hb d_Tape_readLate_26 rfl (lv_at hl 1 rfl) ?_
    refine g_Tape_18 S hX hH hZ d_Tape_readLate_27 ?_
    refine lv_iload_n hx hb d_Tape_readLate_30 rfl (lv_at hl 0 rfl) ?_
    obtain ⟨y10, hc9, hf0⟩ := o_b hf0
    refine q_cVi (As := [.int y8]) (rest := []) S hX hH (c_Play_isLate l hI hZ 8 M7 y8 isPlay_8 hc9) (cw_Tape_156 S.2.2.2.2 (Nat.le_trans (Nat.le_of_ble_eq_true rfl) hR.1) (Nat.le_trans (Nat.le_of_ble_eq_true rfl) hR.2)) (rc_Play hX hH hZ isPlay_8) rfl hl.1 rfl (Nat.le_of_ble_eq_true rfl) d_Tape_readLate_31 ⟨Nat.zero_le _, Nat.zero_le _⟩ (fun H locs hH => ?_)
    refine lv_if_eq (tgt := 46) hx hb d_Tape_readLate_34 (by decide) (fun hc => ?_) (fun hc => ?_)
    · replace hf0 := o_t hc hf0
      exact J46 _ _ _ _ _ hf0 hH (lv_sub hl [1, 0] rfl)
    · replace hf0 := o_f hc hf0
      refine lv_aload_n hx hb d_Tape_readLate_37 rfl (lv_at hl 1 rfl) ?_
      refine lv_aload_n hx hb d_Tape_readLate_38 rfl (lv_at hl 1 rfl) ?_
      refine g_Tape_32 S hX hH hZ d_Tape_readLate_39 ?_
      refine lv_iconst (v := (4 : Int32)) hx hb d_Tape_readLate_42 (by decide) ?_
      obtain ⟨M12, hc11, hf0⟩ := o_b hf0
      refine q_cVv (As := [.int (M7 136 5), .int (4 : Int32)]) (rest := []) S hX hH (c_Tape_blame l hI hZ M7 (M7 136 5) (4 : Int32) hc11) (cw_Tape_47 S.2.2.2.2 (Nat.le_trans (Nat.le_of_ble_eq_true rfl) hR.1) (Nat.le_trans (Nat.le_of_ble_eq_true rfl) hR.2)) (rc_Tape hX hH hZ) rfl hl.1 rfl (Nat.le_of_ble_eq_true rfl) d_Tape_readLate_43 ⟨Nat.zero_le _, Nat.zero_le _⟩ (fun H locs hH => ?_)
      exact J46 _ _ _ _ _ hf0 hH (lv_sub hl [1, 0] rfl)
  refine lv_aload_n hx hb d_Tape_readLate_0 rfl (lv_at hl 0 rfl) ?_
  refine g_Tape_18 S hX hH hZ d_Tape_readLate_1 ?_
  refine g_Tape_153 S hX hH hZ isPlay_8 d_Tape_readLate_4 ?_
  refine lv_bipush (v := (12 : Int32)) hx hb d_Tape_readLate_7 (by decide) ?_
  refine lv_icmp_lt (tgt := 21) hx hb d_Tape_readLate_9 (by decide) (fun hc => ?_) (fun hc => ?_)
  · replace hf0 := o_t hc hf0
    exact J21 _ _ _ _ hf0 hH (lv_sub hl [0] rfl)
  · replace hf0 := o_f hc hf0
    refine lv_aload_n hx hb d_Tape_readLate_12 rfl (lv_at hl 0 rfl) ?_
    refine lv_aload_n hx hb d_Tape_readLate_13 rfl (lv_at hl 0 rfl) ?_
    refine g_Tape_32 S hX hH hZ d_Tape_readLate_14 ?_
    refine lv_iconst (v := (3 : Int32)) hx hb d_Tape_readLate_17 (by decide) ?_
    obtain ⟨M14, hc13, hf0⟩ := o_b hf0
    refine q_cVv (As := [.int (M 136 5), .int (3 : Int32)]) (rest := []) S hX hH (c_Tape_blame l hI hZ M (M 136 5) (3 : Int32) hc13) (cw_Tape_47 S.2.2.2.2 (Nat.le_trans (Nat.le_of_ble_eq_true rfl) hR.1) (Nat.le_trans (Nat.le_of_ble_eq_true rfl) hR.2)) (rc_Tape hX hH hZ) rfl hl.1 rfl (Nat.le_of_ble_eq_true rfl) d_Tape_readLate_18 ⟨Nat.zero_le _, Nat.zero_le _⟩ (fun H locs hH => ?_)
    exact J21 _ _ _ _ hf0 hH (lv_sub hl [0] rfl)
theorem c_Tape_readLate (l : Launch) {Z : WD} (hI : wI Z) (hZ : IsC Z) (M : Mem) {M' : Mem} (hf : f_Tape_readLate M = some M') : Cv l Z y_Tape_readLate b_Tape_readLate 2 none 4 88 [.ref (Z.2.2.1 136)] M M' := by
  refine Met.ofW (cc := b_Tape_readLate) (maxL := 2) (ret := none) (by decide) rfl ?_
  intro p e s m args below meth c s₁ B hml hv
  obtain ⟨rfl, hP, hX⟩ := hv
  have S : CallFix p m c b_Tape_readLate 2 s ([.ref (Z.2.2.1 136)] : List Value).toArray gtb R_Tape := ⟨B.exec, B.bytes, hml, findClass_of_methodNamed B.named, fun w hw => atoms_spec (ws := .code y_Tape_readLate b_Tape_readLate 2 none :: gtb) B.pre w (List.mem_cons_of_mem _ hw)⟩
  have hl := lv_entry ([.ref (Z.2.2.1 136)]) (n := 2) (Nat.le_of_ble_eq_true rfl)
  rw [lg_entry_eq]
  exact wk_Tape_readLate hI hZ M S hX ⟨Nat.le_refl _, Nat.le_refl _⟩ (fun pc H locs ls hH d => q_rv S.1 S.2.1 B.returns B.notSynchronized hH rfl d) hf ⟨hP, va_S.rf⟩ hl
theorem cw_Tape_38 {R : Room} {s : State} {args : Array Value} (ht : ∀ w ∈ gtb, w.before args s = true) (h1 : 1 + 1 ≤ R.frames) (h2 : 8 + (1 + 11) + 20 ≤ R.locals) : CallW R s args R_Tape R_Tape 38 y_Tape_readWord b_Tape_readWord 1 none (.code y_Tape_readWord b_Tape_readWord 1 none :: gtb) { frames := 1, cells := 0, slots := 0, locals := 20 } 0 0 0 := cwV 0 ht (gV w2_117 w2_119 ws_Tape_readWord w1_3 w2_120) rfl rfl rfl ⟨rfl, by decide, by decide, by decide +kernel⟩ ⟨h1, h2⟩
theorem cw_Tape_68 {R : Room} {s : State} {args : Array Value} (ht : ∀ w ∈ gtb, w.before args s = true) (h1 : 5 + 1 ≤ R.frames) (h2 : 8 + (1 + 11) + 107 ≤ R.locals) : CallW R s args R_Tape R_Tape 68 y_Tape_partOf b_Tape_partOf 1 (some .int) (.code y_Tape_partOf b_Tape_partOf 1 (some .int) :: gtb) { frames := 5, cells := 0, slots := 0, locals := 107 } 0 0 0 := cwV 0 ht (gV w2_198 w2_200 ws_Tape_partOf w1_3 w2_201) rfl rfl rfl ⟨rfl, by decide, by decide, by decide +kernel⟩ ⟨h1, h2⟩
theorem cw_Tape_88 {R : Room} {s : State} {args : Array Value} (ht : ∀ w ∈ gtb, w.before args s = true) (h1 : 0 + 1 ≤ R.frames) (h2 : 8 + (2 + 11) + 0 ≤ R.locals) : CallW R s args R_Tape R_Play 88 y_Play_leastSetting b_Play_leastSetting 2 (some .int) (.code y_Play_leastSetting b_Play_leastSetting 2 (some .int) :: gtb) { frames := 0, cells := 0, slots := 0, locals := 0 } 0 0 1 := cwV 1 ht (gV w3_31 w3_32 w3_33 w1_2 w3_34) rfl rfl rfl ⟨rfl, by decide, by decide, by decide +kernel⟩ ⟨h1, h2⟩
theorem cw_Tape_92 {R : Room} {s : State} {args : Array Value} (ht : ∀ w ∈ gtb, w.before args s = true) (h1 : 0 + 1 ≤ R.frames) (h2 : 8 + (2 + 11) + 0 ≤ R.locals) : CallW R s args R_Tape R_Play 92 y_Play_mostSetting b_Play_mostSetting 2 (some .int) (.code y_Play_mostSetting b_Play_mostSetting 2 (some .int) :: gtb) { frames := 0, cells := 0, slots := 0, locals := 0 } 0 0 1 := cwV 1 ht (gV w3_35 w3_36 w3_37 w1_2 w3_38) rfl rfl rfl ⟨rfl, by decide, by decide, by decide +kernel⟩ ⟨h1, h2⟩
theorem cw_Tape_72 {R : Room} {s : State} {args : Array Value} (ht : ∀ w ∈ gtb, w.before args s = true) (h1 : 3 + 1 ≤ R.frames) (h2 : 8 + (2 + 11) + 65 ≤ R.locals) : CallW R s args R_Tape R_Tape 72 y_Tape_readLiars b_Tape_readLiars 2 none (.code y_Tape_readLiars b_Tape_readLiars 2 none :: gtb) { frames := 3, cells := 0, slots := 0, locals := 65 } 0 0 0 := cwV 0 ht (gV w2_211 w2_213 ws_Tape_readLiars w1_3 w2_214) rfl rfl rfl ⟨rfl, by decide, by decide, by decide +kernel⟩ ⟨h1, h2⟩
theorem cw_Tape_75 {R : Room} {s : State} {args : Array Value} (ht : ∀ w ∈ gtb, w.before args s = true) (h1 : 4 + 1 ≤ R.frames) (h2 : 8 + (6 + 11) + 88 ≤ R.locals) : CallW R s args R_Tape R_Tape 75 y_Tape_readLetter b_Tape_readLetter 6 none (.code y_Tape_readLetter b_Tape_readLetter 6 none :: gtb) { frames := 4, cells := 0, slots := 0, locals := 88 } 0 0 0 := cwV 0 ht (gV w2_223 w2_225 ws_Tape_readLetter w1_3 w2_226) rfl rfl rfl ⟨rfl, by decide, by decide, by decide +kernel⟩ ⟨h1, h2⟩
theorem cw_Tape_78 {R : Room} {s : State} {args : Array Value} (ht : ∀ w ∈ gtb, w.before args s = true) (h1 : 4 + 1 ≤ R.frames) (h2 : 8 + (2 + 11) + 88 ≤ R.locals) : CallW R s args R_Tape R_Tape 78 y_Tape_readOmit b_Tape_readOmit 2 none (.code y_Tape_readOmit b_Tape_readOmit 2 none :: gtb) { frames := 4, cells := 0, slots := 0, locals := 88 } 0 0 0 := cwV 0 ht (gV w3_4 w3_6 ws_Tape_readOmit w1_3 w3_7) rfl rfl rfl ⟨rfl, by decide, by decide, by decide +kernel⟩ ⟨h1, h2⟩
theorem cw_Tape_81 {R : Room} {s : State} {args : Array Value} (ht : ∀ w ∈ gtb, w.before args s = true) (h1 : 4 + 1 ≤ R.frames) (h2 : 8 + (2 + 11) + 88 ≤ R.locals) : CallW R s args R_Tape R_Tape 81 y_Tape_readLate b_Tape_readLate 2 none (.code y_Tape_readLate b_Tape_readLate 2 none :: gtb) { frames := 4, cells := 0, slots := 0, locals := 88 } 0 0 0 := cwV 0 ht (gV w3_19 w3_21 ws_Tape_readLate w1_3 w3_22) rfl rfl rfl ⟨rfl, by decide, by decide, by decide +kernel⟩ ⟨h1, h2⟩
noncomputable def f_Tape_readPart (M : Mem) : Option Mem := 
    bnd (f_Tape_readWord M) (fun M2 => 
    bnd (f_Tape_partOf M2) (fun y4 => 
    if y4 = (-1 : Int32) then bnd (f_Tape_blame M2 (M2 136 5) (1 : Int32)) (fun M6 => some M6) else 
    if y4 = (0 : Int32) then 
    bnd2 (f_Tape_readNumber M2 (f_Play_leastSetting 8 y4) (f_Play_mostSetting 8 M2 y4)) (fun y9 M8 => gIn y4 5 (lt1 (upM M8 9 y4.toNatClampNeg y9) (fun M11 => some M11))) else 
    if y4 = (1 : Int32) then 
    bnd2 (f_Tape_readNumber M2 (f_Play_leastSetting 8 y4) (f_Play_mostSetting 8 M2 y4)) (fun y14 M13 => gIn y4 5 (lt1 (upM M13 9 y4.toNatClampNeg y14) (fun M16 => some M16))) else 
    if y4 = (2 : Int32) then 
    bnd2 (f_Tape_readNumber M2 (f_Play_leastSetting 8 y4) (f_Play_mostSetting 8 M2 y4)) (fun y19 M18 => gIn y4 5 (lt1 (upM M18 9 y4.toNatClampNeg y19) (fun M21 => some M21))) else 
    if y4 = (3 : Int32) then 
    bnd2 (f_Tape_readNumber M2 (f_Play_leastSetting 8 y4) (f_Play_mostSetting 8 M2 y4)) (fun y24 M23 => gIn y4 5 (lt1 (upM M23 9 y4.toNatClampNeg y24) (fun M26 => some M26))) else 
    if y4 = (4 : Int32) then 
    bnd2 (f_Tape_readNumber M2 (f_Play_leastSetting 8 y4) (f_Play_mostSetting 8 M2 y4)) (fun y29 M28 => gIn y4 5 (lt1 (upM M28 9 y4.toNatClampNeg y29) (fun M31 => some M31))) else 
    if y4 = (5 : Int32) then bnd (f_Tape_readLiars M2) (fun M33 => some M33) else 
    if y4 = (6 : Int32) then bnd (f_Tape_readLetter M2) (fun M35 => some M35) else 
    if y4 = (7 : Int32) then bnd (f_Tape_readOmit M2) (fun M37 => some M37) else 
    if y4 = (8 : Int32) then bnd (f_Tape_readLate M2) (fun M39 => some M39) else 
    bnd2 (f_Tape_readNumber M2 (f_Play_leastSetting 8 y4) (f_Play_mostSetting 8 M2 y4)) (fun y42 M41 => gIn y4 5 (lt1 (upM M41 9 y4.toNatClampNeg y42) (fun M44 => some M44)))))
set_option maxHeartbeats 4000000 in
theorem wk_Tape_readPart {l : Launch} {Z : WD} (hI : wI Z) (hZ : IsC Z) (M : Mem) {M' : Mem} {p : Program} {e : Env} {R : Room} {s : State} {m : MethodId} {args : Array Value} {below : List Frame} {meth : Method} {c : Code} {H : Heap} {locs : List Loc} {ls : Array Slot} {Q : State → Prop} (S : CallFix p m c b_Tape_readPart 2 s args gtb R_Tape) (hX : wX Z s) (hR : 6 ≤ R.frames ∧ 127 ≤ R.locals) (hQ : ∀ (pc : Nat) (H : Heap) (locs : List Loc) (ls : Array Slot), HW Z M' s H locs → decode b_Tape_readPart pc = .ok (.return_, 1) → W p l e R s m args below meth c H locs 0 0 Q (F0 m pc ls [])) (hf0 : f_Tape_readPart M = some M') (hH : HW Z M s H locs) (hl : lv_has ls 2 [(0, .ref (Z.2.2.1 136))]) : W p l e R s m args below meth c H locs 0 0 Q (F0 m 0 ls []) := by
  have hx := S.1
  have hb := S.2.1
  have hown := S.2.2.2.1
  have ht := S.2.2.2.2
  unfold f_Tape_readPart at hf0
  refine lv_aload_n hx hb d_Tape_readPart_0 rfl (lv_at hl 0 rfl) ?_
  obtain ⟨M2, hc1, hf0⟩ := o_b hf0
  refine q_cVv (As := []) (rest := []) S hX hH (c_Tape_readWord l hI hZ M hc1) (cw_Tape_38 S.2.2.2.2 (Nat.le_trans (Nat.le_of_ble_eq_true rfl) hR.1) (Nat.le_trans (Nat.le_of_ble_eq_true rfl) hR.2)) (rc_Tape hX hH hZ) rfl hl.1 rfl (Nat.le_of_ble_eq_true rfl) d_Tape_readPart_1 ⟨Nat.zero_le _, Nat.zero_le _⟩ (fun H locs hH => ?_)
  refine lv_aload_n hx hb d_Tape_readPart_4 rfl (lv_at hl 0 rfl) ?_
  obtain ⟨y4, hc3, hf0⟩ := o_b hf0
  refine q_cVi (As := []) (rest := []) S hX hH (c_Tape_partOf l hI hZ M2 hc3) (cw_Tape_68 S.2.2.2.2 (Nat.le_trans (Nat.le_of_ble_eq_true rfl) hR.1) (Nat.le_trans (Nat.le_of_ble_eq_true rfl) hR.2)) (rc_Tape hX hH hZ) rfl hl.1 rfl (Nat.le_of_ble_eq_true rfl) d_Tape_readPart_5 ⟨Nat.zero_le _, Nat.zero_le _⟩ (fun H locs hH => ?_)
  refine lv_istore_n (lv' := [(1, .int y4), (0, .ref (Z.2.2.1 136))]) hx hb d_Tape_readPart_8 rfl hl (by decide) rfl (fun ls hl => ?_)
  refine lv_iload_n hx hb d_Tape_readPart_9 rfl (lv_at hl 0 rfl) ?_
  by_cases hcvm1 : y4 = (-1 : Int32)
  · replace hf0 := o_t hcvm1 hf0
    refine lv_tableIn (tgt := 64) hx hb d_Tape_readPart_10 (by rw [hcvm1]; decide) (by rw [hcvm1]; decide) (by rw [hcvm1]; rfl) (by decide) ?_
    refine lv_aload_n hx hb d_Tape_readPart_64 rfl (lv_at hl 1 rfl) ?_
    refine lv_aload_n hx hb d_Tape_readPart_65 rfl (lv_at hl 1 rfl) ?_
    refine g_Tape_32 S hX hH hZ d_Tape_readPart_66 ?_
    refine lv_iconst (v := (1 : Int32)) hx hb d_Tape_readPart_69 (by decide) ?_
    obtain ⟨M6, hc5, hf0⟩ := o_b hf0
    refine q_cVv (As := [.int (M2 136 5), .int (1 : Int32)]) (rest := []) S hX hH (c_Tape_blame l hI hZ M2 (M2 136 5) (1 : Int32) hc5) (cw_Tape_47 S.2.2.2.2 (Nat.le_trans (Nat.le_of_ble_eq_true rfl) hR.1) (Nat.le_trans (Nat.le_of_ble_eq_true rfl) hR.2)) (rc_Tape hX hH hZ) rfl hl.1 rfl (Nat.le_of_ble_eq_true rfl) d_Tape_readPart_70 ⟨Nat.zero_le _, Nat.zero_le _⟩ (fun H locs hH => ?_)
    refine lv_goto (tgt := 133) hx hb d_Tape_readPart_73 (by decide) ?_
    obtain rfl := o_v hf0
    exact hQ _ _ _ _ hH d_Tape_readPart_133
  replace hf0 := o_f hcvm1 hf0
  by_cases hcv0 : y4 = (0 : Int32)
  · replace hf0 := o_t hcv0 hf0
    refine lv_tableIn (tgt := 104) hx hb d_Tape_readPart_10 (by rw [hcv0]; decide) (by rw [hcv0]; decide) (by rw [hcv0]; rfl) (by decide) ?_
    refine lv_aload_n hx hb d_Tape_readPart_104 rfl (lv_at hl 1 rfl) ?_
    refine g_Tape_18 S hX hH hZ d_Tape_readPart_105 ?_
    refine g_Tape_84 S hX hH hZ isPlay_8 d_Tape_readPart_108 ?_
    refine lv_iload_n hx hb d_Tape_readPart_111 rfl (lv_at hl 0 rfl) ?_
    refine lv_aload_n hx hb d_Tape_readPart_112 rfl (lv_at hl 1 rfl) ?_
    refine lv_aload_n hx hb d_Tape_readPart_113 rfl (lv_at hl 1 rfl) ?_
    refine g_Tape_18 S hX hH hZ d_Tape_readPart_114 ?_
    refine lv_iload_n hx hb d_Tape_readPart_117 rfl (lv_at hl 0 rfl) ?_
    refine q_cVi (As := [.int y4]) (rest := [.ref (Z.2.2.1 136), .int y4, .ref (Z.2.2.1 9)]) S hX hH (c_Play_leastSetting l hI hZ 8 M2 y4 isPlay_8 rfl) (cw_Tape_88 S.2.2.2.2 (Nat.le_trans (Nat.le_of_ble_eq_true rfl) hR.1) (Nat.le_trans (Nat.le_of_ble_eq_true rfl) hR.2)) (rc_Play hX hH hZ isPlay_8) rfl hl.1 rfl (Nat.le_of_ble_eq_true rfl) d_Tape_readPart_118 ⟨Nat.zero_le _, Nat.zero_le _⟩ (fun H locs hH => ?_)
    refine lv_aload_n hx hb d_Tape_readPart_121 rfl (lv_at hl 1 rfl) ?_
    refine g_Tape_18 S hX hH hZ d_Tape_readPart_122 ?_
    refine lv_iload_n hx hb d_Tape_readPart_125 rfl (lv_at hl 0 rfl) ?_
    refine q_cVi (As := [.int y4]) (rest := [.int (f_Play_leastSetting 8 y4), .ref (Z.2.2.1 136), .int y4, .ref (Z.2.2.1 9)]) S hX hH (c_Play_mostSetting l hI hZ 8 M2 y4 isPlay_8 rfl) (cw_Tape_92 S.2.2.2.2 (Nat.le_trans (Nat.le_of_ble_eq_true rfl) hR.1) (Nat.le_trans (Nat.le_of_ble_eq_true rfl) hR.2)) (rc_Play hX hH hZ isPlay_8) rfl hl.1 rfl (Nat.le_of_ble_eq_true rfl) d_Tape_readPart_126 ⟨Nat.zero_le _, Nat.zero_le _⟩ (fun H locs hH => ?_)
    obtain ⟨y9, M8, hc7, hf0⟩ := o_b2 hf0
    refine q_cVi (As := [.int (f_Play_leastSetting 8 y4), .int (f_Play_mostSetting 8 M2 y4)]) (rest := [.int y4, .ref (Z.2.2.1 9)]) S hX hH (c_Tape_readNumber l hI hZ M2 (f_Play_leastSetting 8 y4) (f_Play_mostSetting 8 M2 y4) hc7) (cw_Tape_51 S.2.2.2.2 (Nat.le_trans (Nat.le_of_ble_eq_true rfl) hR.1) (Nat.le_trans (Nat.le_of_ble_eq_true rfl) hR.2)) (rc_Tape hX hH hZ) rfl hl.1 rfl (Nat.le_of_ble_eq_true rfl) d_Tape_readPart_129 ⟨Nat.zero_le _, Nat.zero_le _⟩ (fun H locs hH => ?_)
    obtain ⟨hn10, hf0⟩ := o_in hf0
    obtain ⟨M11, hM11, hf0⟩ := o_l hf0
    refine q_iast (j := y4.toNatClampNeg) hx hb hX hI hH (aa_Play_1 hZ isPlay_8) hn10 rfl d_Tape_readPart_132 (fun H locs hH => ?_)
    rw [hM11] at hH
    obtain rfl := o_v hf0
    exact hQ _ _ _ _ hH d_Tape_readPart_133
  replace hf0 := o_f hcv0 hf0
  by_cases hcv1 : y4 = (1 : Int32)
  · replace hf0 := o_t hcv1 hf0
    refine lv_tableIn (tgt := 104) hx hb d_Tape_readPart_10 (by rw [hcv1]; decide) (by rw [hcv1]; decide) (by rw [hcv1]; rfl) (by decide) ?_
    refine lv_aload_n hx hb d_Tape_readPart_104 rfl (lv_at hl 1 rfl) ?_
    refine g_Tape_18 S hX hH hZ d_Tape_readPart_105 ?_
    refine g_Tape_84 S hX hH hZ isPlay_8 d_Tape_readPart_108 ?_
    refine lv_iload_n hx hb d_Tape_readPart_111 rfl (lv_at hl 0 rfl) ?_
    refine lv_aload_n hx hb d_Tape_readPart_112 rfl (lv_at hl 1 rfl) ?_
    refine lv_aload_n hx hb d_Tape_readPart_113 rfl (lv_at hl 1 rfl) ?_
    refine g_Tape_18 S hX hH hZ d_Tape_readPart_114 ?_
    refine lv_iload_n hx hb d_Tape_readPart_117 rfl (lv_at hl 0 rfl) ?_
    refine q_cVi (As := [.int y4]) (rest := [.ref (Z.2.2.1 136), .int y4, .ref (Z.2.2.1 9)]) S hX hH (c_Play_leastSetting l hI hZ 8 M2 y4 isPlay_8 rfl) (cw_Tape_88 S.2.2.2.2 (Nat.le_trans (Nat.le_of_ble_eq_true rfl) hR.1) (Nat.le_trans (Nat.le_of_ble_eq_true rfl) hR.2)) (rc_Play hX hH hZ isPlay_8) rfl hl.1 rfl (Nat.le_of_ble_eq_true rfl) d_Tape_readPart_118 ⟨Nat.zero_le _, Nat.zero_le _⟩ (fun H locs hH => ?_)
    refine lv_aload_n hx hb d_Tape_readPart_121 rfl (lv_at hl 1 rfl) ?_
    refine g_Tape_18 S hX hH hZ d_Tape_readPart_122 ?_
    refine lv_iload_n hx hb d_Tape_readPart_125 rfl (lv_at hl 0 rfl) ?_
    refine q_cVi (As := [.int y4]) (rest := [.int (f_Play_leastSetting 8 y4), .ref (Z.2.2.1 136), .int y4, .ref (Z.2.2.1 9)]) S hX hH (c_Play_mostSetting l hI hZ 8 M2 y4 isPlay_8 rfl) (cw_Tape_92 S.2.2.2.2 (Nat.le_trans (Nat.le_of_ble_eq_true rfl) hR.1) (Nat.le_trans (Nat.le_of_ble_eq_true rfl) hR.2)) (rc_Play hX hH hZ isPlay_8) rfl hl.1 rfl (Nat.le_of_ble_eq_true rfl) d_Tape_readPart_126 ⟨Nat.zero_le _, Nat.zero_le _⟩ (fun H locs hH => ?_)
    obtain ⟨y14, M13, hc12, hf0⟩ := o_b2 hf0
    refine q_cVi (As := [.int (f_Play_leastSetting 8 y4), .int (f_Play_mostSetting 8 M2 y4)]) (rest := [.int y4, .ref (Z.2.2.1 9)]) S hX hH (c_Tape_readNumber l hI hZ M2 (f_Play_leastSetting 8 y4) (f_Play_mostSetting 8 M2 y4) hc12) (cw_Tape_51 S.2.2.2.2 (Nat.le_trans (Nat.le_of_ble_eq_true rfl) hR.1) (Nat.le_trans (Nat.le_of_ble_eq_true rfl) hR.2)) (rc_Tape hX hH hZ) rfl hl.1 rfl (Nat.le_of_ble_eq_true rfl) d_Tape_readPart_129 ⟨Nat.zero_le _, Nat.zero_le _⟩ (fun H locs hH => ?_)
    obtain ⟨hn15, hf0⟩ := o_in hf0
    obtain ⟨M16, hM16, hf0⟩ := o_l hf0
    refine q_iast (j := y4.toNatClampNeg) hx hb hX hI hH (aa_Play_1 hZ isPlay_8) hn15 rfl d_Tape_readPart_132 (fun H locs hH => ?_)
    rw [hM16] at hH
    obtain rfl := o_v hf0
    exact hQ _ _ _ _ hH d_Tape_readPart_133
  replace hf0 := o_f hcv1 hf0
  by_cases hcv2 : y4 = (2 : Int32)
  · replace hf0 := o_t hcv2 hf0
    refine lv_tableIn (tgt := 104) hx hb d_Tape_readPart_10 (by rw [hcv2]; decide) (by rw [hcv2]; decide) (by rw [hcv2]; rfl) (by decide) ?_
    refine lv_aload_n hx hb d_Tape_readPart_104 rfl (lv_at hl 1 rfl) ?_
    refine g_Tape_18 S hX hH hZ d_Tape_readPart_105 ?_
    refine g_Tape_84 S hX hH hZ isPlay_8 d_Tape_readPart_108 ?_
    refine lv_iload_n hx hb d_Tape_readPart_111 rfl (lv_at hl 0 rfl) ?_
    refine lv_aload_n hx hb d_Tape_readPart_112 rfl (lv_at hl 1 rfl) ?_
    refine lv_aload_n hx hb d_Tape_readPart_113 rfl (lv_at hl 1 rfl) ?_
    refine g_Tape_18 S hX hH hZ d_Tape_readPart_114 ?_
    refine lv_iload_n hx hb d_Tape_readPart_117 rfl (lv_at hl 0 rfl) ?_
    refine q_cVi (As := [.int y4]) (rest := [.ref (Z.2.2.1 136), .int y4, .ref (Z.2.2.1 9)]) S hX hH (c_Play_leastSetting l hI hZ 8 M2 y4 isPlay_8 rfl) (cw_Tape_88 S.2.2.2.2 (Nat.le_trans (Nat.le_of_ble_eq_true rfl) hR.1) (Nat.le_trans (Nat.le_of_ble_eq_true rfl) hR.2)) (rc_Play hX hH hZ isPlay_8) rfl hl.1 rfl (Nat.le_of_ble_eq_true rfl) d_Tape_readPart_118 ⟨Nat.zero_le _, Nat.zero_le _⟩ (fun H locs hH => ?_)
    refine lv_aload_n hx hb d_Tape_readPart_121 rfl (lv_at hl 1 rfl) ?_
    refine g_Tape_18 S hX hH hZ d_Tape_readPart_122 ?_
    refine lv_iload_n hx hb d_Tape_readPart_125 rfl (lv_at hl 0 rfl) ?_
    refine q_cVi (As := [.int y4]) (rest := [.int (f_Play_leastSetting 8 y4), .ref (Z.2.2.1 136), .int y4, .ref (Z.2.2.1 9)]) S hX hH (c_Play_mostSetting l hI hZ 8 M2 y4 isPlay_8 rfl) (cw_Tape_92 S.2.2.2.2 (Nat.le_trans (Nat.le_of_ble_eq_true rfl) hR.1) (Nat.le_trans (Nat.le_of_ble_eq_true rfl) hR.2)) (rc_Play hX hH hZ isPlay_8) rfl hl.1 rfl (Nat.le_of_ble_eq_true rfl) d_Tape_readPart_126 ⟨Nat.zero_le _, Nat.zero_le _⟩ (fun H locs hH => ?_)
    obtain ⟨y19, M18, hc17, hf0⟩ := o_b2 hf0
    refine q_cVi (As := [.int (f_Play_leastSetting 8 y4), .int (f_Play_mostSetting 8 M2 y4)]) (rest := [.int y4, .ref (Z.2.2.1 9)]) S hX hH (c_Tape_readNumber l hI hZ M2 (f_Play_leastSetting 8 y4) (f_Play_mostSetting 8 M2 y4) hc17) (cw_Tape_51 S.2.2.2.2 (Nat.le_trans (Nat.le_of_ble_eq_true rfl) hR.1) (Nat.le_trans (Nat.le_of_ble_eq_true rfl) hR.2)) (rc_Tape hX hH hZ) rfl hl.1 rfl (Nat.le_of_ble_eq_true rfl) d_Tape_readPart_129 ⟨Nat.zero_le _, Nat.zero_le _⟩ (fun H locs hH => ?_)
    obtain ⟨hn20, hf0⟩ := o_in hf0
    obtain ⟨M21, hM21, hf0⟩ := o_l hf0
    refine q_iast (j := y4.toNatClampNeg) hx hb hX hI hH (aa_Play_1 hZ isPlay_8) hn20 rfl d_Tape_readPart_132 (fun H locs hH => ?_)
    rw [hM21] at hH
    obtain rfl := o_v hf0
    exact hQ _ _ _ _ hH d_Tape_readPart_133
  replace hf0 := o_f hcv2 hf0
  by_cases hcv3 : y4 = (3 : Int32)
  · replace hf0 := o_t hcv3 hf0
    refine lv_tableIn (tgt := 104) hx hb d_Tape_readPart_10 (by rw [hcv3]; decide) (by rw [hcv3]; decide) (by rw [hcv3]; rfl) (by decide) ?_
    refine lv_aload_n hx hb d_Tape_readPart_104 rfl (lv_at hl 1 rfl) ?_
    refine g_Tape_18 S hX hH hZ d_Tape_readPart_105 ?_
    refine g_Tape_84 S hX hH hZ isPlay_8 d_Tape_readPart_108 ?_
    refine lv_iload_n hx hb d_Tape_readPart_111 rfl (lv_at hl 0 rfl) ?_
    refine lv_aload_n hx hb d_Tape_readPart_112 rfl (lv_at hl 1 rfl) ?_
    refine lv_aload_n hx hb d_Tape_readPart_113 rfl (lv_at hl 1 rfl) ?_
    refine g_Tape_18 S hX hH hZ d_Tape_readPart_114 ?_
    refine lv_iload_n hx hb d_Tape_readPart_117 rfl (lv_at hl 0 rfl) ?_
    refine q_cVi (As := [.int y4]) (rest := [.ref (Z.2.2.1 136), .int y4, .ref (Z.2.2.1 9)]) S hX hH (c_Play_leastSetting l hI hZ 8 M2 y4 isPlay_8 rfl) (cw_Tape_88 S.2.2.2.2 (Nat.le_trans (Nat.le_of_ble_eq_true rfl) hR.1) (Nat.le_trans (Nat.le_of_ble_eq_true rfl) hR.2)) (rc_Play hX hH hZ isPlay_8) rfl hl.1 rfl (Nat.le_of_ble_eq_true rfl) d_Tape_readPart_118 ⟨Nat.zero_le _, Nat.zero_le _⟩ (fun H locs hH => ?_)
    refine lv_aload_n hx hb d_Tape_readPart_121 rfl (lv_at hl 1 rfl) ?_
    refine g_Tape_18 S hX hH hZ d_Tape_readPart_122 ?_
    refine lv_iload_n hx hb d_Tape_readPart_125 rfl (lv_at hl 0 rfl) ?_
    refine q_cVi (As := [.int y4]) (rest := [.int (f_Play_leastSetting 8 y4), .ref (Z.2.2.1 136), .int y4, .ref (Z.2.2.1 9)]) S hX hH (c_Play_mostSetting l hI hZ 8 M2 y4 isPlay_8 rfl) (cw_Tape_92 S.2.2.2.2 (Nat.le_trans (Nat.le_of_ble_eq_true rfl) hR.1) (Nat.le_trans (Nat.le_of_ble_eq_true rfl) hR.2)) (rc_Play hX hH hZ isPlay_8) rfl hl.1 rfl (Nat.le_of_ble_eq_true rfl) d_Tape_readPart_126 ⟨Nat.zero_le _, Nat.zero_le _⟩ (fun H locs hH => ?_)
    obtain ⟨y24, M23, hc22, hf0⟩ := o_b2 hf0
    refine q_cVi (As := [.int (f_Play_leastSetting 8 y4), .int (f_Play_mostSetting 8 M2 y4)]) (rest := [.int y4, .ref (Z.2.2.1 9)]) S hX hH (c_Tape_readNumber l hI hZ M2 (f_Play_leastSetting 8 y4) (f_Play_mostSetting 8 M2 y4) hc22) (cw_Tape_51 S.2.2.2.2 (Nat.le_trans (Nat.le_of_ble_eq_true rfl) hR.1) (Nat.le_trans (Nat.le_of_ble_eq_true rfl) hR.2)) (rc_Tape hX hH hZ) rfl hl.1 rfl (Nat.le_of_ble_eq_true rfl) d_Tape_readPart_129 ⟨Nat.zero_le _, Nat.zero_le _⟩ (fun H locs hH => ?_)
    obtain ⟨hn25, hf0⟩ := o_in hf0
    obtain ⟨M26, hM26, hf0⟩ := o_l hf0
    refine q_iast (j := y4.toNatClampNeg) hx hb hX hI hH (aa_Play_1 hZ isPlay_8) hn25 rfl d_Tape_readPart_132 (fun H locs hH => ?_)
    rw [hM26] at hH
    obtain rfl := o_v hf0
    exact hQ _ _ _ _ hH d_Tape_readPart_133
  replace hf0 := o_f hcv3 hf0
  by_cases hcv4 : y4 = (4 : Int32)
  · replace hf0 := o_t hcv4 hf0
    refine lv_tableIn (tgt := 104) hx hb d_Tape_readPart_10 (by rw [hcv4]; decide) (by rw [hcv4]; decide) (by rw [hcv4]; rfl) (by decide) ?_
    refine lv_aload_n hx hb d_Tape_readPart_104 rfl (lv_at hl 1 rfl) ?_
    refine g_Tape_18 S hX hH hZ d_Tape_readPart_105 ?_
    refine g_Tape_84 S hX hH hZ isPlay_8 d_Tape_readPart_108 ?_
    refine lv_iload_n hx hb d_Tape_readPart_111 rfl (lv_at hl 0 rfl) ?_
    refine lv_aload_n hx hb d_Tape_readPart_112 rfl (lv_at hl 1 rfl) ?_
    refine lv_aload_n hx hb d_Tape_readPart_113 rfl (lv_at hl 1 rfl) ?_
    refine g_Tape_18 S hX hH hZ d_Tape_readPart_114 ?_
    refine lv_iload_n hx hb d_Tape_readPart_117 rfl (lv_at hl 0 rfl) ?_
    refine q_cVi (As := [.int y4]) (rest := [.ref (Z.2.2.1 136), .int y4, .ref (Z.2.2.1 9)]) S hX hH (c_Play_leastSetting l hI hZ 8 M2 y4 isPlay_8 rfl) (cw_Tape_88 S.2.2.2.2 (Nat.le_trans (Nat.le_of_ble_eq_true rfl) hR.1) (Nat.le_trans (Nat.le_of_ble_eq_true rfl) hR.2)) (rc_Play hX hH hZ isPlay_8) rfl hl.1 rfl (Nat.le_of_ble_eq_true rfl) d_Tape_readPart_118 ⟨Nat.zero_le _, Nat.zero_le _⟩ (fun H locs hH => ?_)
    refine lv_aload_n hx hb d_Tape_readPart_121 rfl (lv_at hl 1 rfl) ?_
    refine g_Tape_18 S hX hH hZ d_Tape_readPart_122 ?_
    refine lv_iload_n hx hb d_Tape_readPart_125 rfl (lv_at hl 0 rfl) ?_
    refine q_cVi (As := [.int y4]) (rest := [.int (f_Play_leastSetting 8 y4), .ref (Z.2.2.1 136), .int y4, .ref (Z.2.2.1 9)]) S hX hH (c_Play_mostSetting l hI hZ 8 M2 y4 isPlay_8 rfl) (cw_Tape_92 S.2.2.2.2 (Nat.le_trans (Nat.le_of_ble_eq_true rfl) hR.1) (Nat.le_trans (Nat.le_of_ble_eq_true rfl) hR.2)) (rc_Play hX hH hZ isPlay_8) rfl hl.1 rfl (Nat.le_of_ble_eq_true rfl) d_Tape_readPart_126 ⟨Nat.zero_le _, Nat.zero_le _⟩ (fun H locs hH => ?_)
    obtain ⟨y29, M28, hc27, hf0⟩ := o_b2 hf0
    refine q_cVi (As := [.int (f_Play_leastSetting 8 y4), .int (f_Play_mostSetting 8 M2 y4)]) (rest := [.int y4, .ref (Z.2.2.1 9)]) S hX hH (c_Tape_readNumber l hI hZ M2 (f_Play_leastSetting 8 y4) (f_Play_mostSetting 8 M2 y4) hc27) (cw_Tape_51 S.2.2.2.2 (Nat.le_trans (Nat.le_of_ble_eq_true rfl) hR.1) (Nat.le_trans (Nat.le_of_ble_eq_true rfl) hR.2)) (rc_Tape hX hH hZ) rfl hl.1 rfl (Nat.le_of_ble_eq_true rfl) d_Tape_readPart_129 ⟨Nat.zero_le _, Nat.zero_le _⟩ (fun H locs hH => ?_)
    obtain ⟨hn30, hf0⟩ := o_in hf0
    obtain ⟨M31, hM31, hf0⟩ := o_l hf0
    refine q_iast (j := y4.toNatClampNeg) hx hb hX hI hH (aa_Play_1 hZ isPlay_8) hn30 rfl d_Tape_readPart_132 (fun H locs hH => ?_)
    rw [hM31] at hH
    obtain rfl := o_v hf0
    exact hQ _ _ _ _ hH d_Tape_readPart_133
  replace hf0 := o_f hcv4 hf0
  by_cases hcv5 : y4 = (5 : Int32)
  · replace hf0 := o_t hcv5 hf0
    refine lv_tableIn (tgt := 76) hx hb d_Tape_readPart_10 (by rw [hcv5]; decide) (by rw [hcv5]; decide) (by rw [hcv5]; rfl) (by decide) ?_
    refine lv_aload_n hx hb d_Tape_readPart_76 rfl (lv_at hl 1 rfl) ?_
    obtain ⟨M33, hc32, hf0⟩ := o_b hf0
    refine q_cVv (As := []) (rest := []) S hX hH (c_Tape_readLiars l hI hZ M2 hc32) (cw_Tape_72 S.2.2.2.2 (Nat.le_trans (Nat.le_of_ble_eq_true rfl) hR.1) (Nat.le_trans (Nat.le_of_ble_eq_true rfl) hR.2)) (rc_Tape hX hH hZ) rfl hl.1 rfl (Nat.le_of_ble_eq_true rfl) d_Tape_readPart_77 ⟨Nat.zero_le _, Nat.zero_le _⟩ (fun H locs hH => ?_)
    refine lv_goto (tgt := 133) hx hb d_Tape_readPart_80 (by decide) ?_
    obtain rfl := o_v hf0
    exact hQ _ _ _ _ hH d_Tape_readPart_133
  replace hf0 := o_f hcv5 hf0
  by_cases hcv6 : y4 = (6 : Int32)
  · replace hf0 := o_t hcv6 hf0
    refine lv_tableIn (tgt := 83) hx hb d_Tape_readPart_10 (by rw [hcv6]; decide) (by rw [hcv6]; decide) (by rw [hcv6]; rfl) (by decide) ?_
    refine lv_aload_n hx hb d_Tape_readPart_83 rfl (lv_at hl 1 rfl) ?_
    obtain ⟨M35, hc34, hf0⟩ := o_b hf0
    refine q_cVv (As := []) (rest := []) S hX hH (c_Tape_readLetter l hI hZ M2 hc34) (cw_Tape_75 S.2.2.2.2 (Nat.le_trans (Nat.le_of_ble_eq_true rfl) hR.1) (Nat.le_trans (Nat.le_of_ble_eq_true rfl) hR.2)) (rc_Tape hX hH hZ) rfl hl.1 rfl (Nat.le_of_ble_eq_true rfl) d_Tape_readPart_84 ⟨Nat.zero_le _, Nat.zero_le _⟩ (fun H locs hH => ?_)
    refine lv_goto (tgt := 133) hx hb d_Tape_readPart_87 (by decide) ?_
    obtain rfl := o_v hf0
    exact hQ _ _ _ _ hH d_Tape_readPart_133
  replace hf0 := o_f hcv6 hf0
  by_cases hcv7 : y4 = (7 : Int32)
  · replace hf0 := o_t hcv7 hf0
    refine lv_tableIn (tgt := 90) hx hb d_Tape_readPart_10 (by rw [hcv7]; decide) (by rw [hcv7]; decide) (by rw [hcv7]; rfl) (by decide) ?_
    refine lv_aload_n hx hb d_Tape_readPart_90 rfl (lv_at hl 1 rfl) ?_
    obtain ⟨M37, hc36, hf0⟩ := o_b hf0
    refine q_cVv (As := []) (rest := []) S hX hH (c_Tape_readOmit l hI hZ M2 hc36) (cw_Tape_78 S.2.2.2.2 (Nat.le_trans (Nat.le_of_ble_eq_true rfl) hR.1) (Nat.le_trans (Nat.le_of_ble_eq_true rfl) hR.2)) (rc_Tape hX hH hZ) rfl hl.1 rfl (Nat.le_of_ble_eq_true rfl) d_Tape_readPart_91 ⟨Nat.zero_le _, Nat.zero_le _⟩ (fun H locs hH => ?_)
    refine lv_goto (tgt := 133) hx hb d_Tape_readPart_94 (by decide) ?_
    obtain rfl := o_v hf0
    exact hQ _ _ _ _ hH d_Tape_readPart_133
  replace hf0 := o_f hcv7 hf0
  by_cases hcv8 : y4 = (8 : Int32)
  · replace hf0 := o_t hcv8 hf0
    refine lv_tableIn (tgt := 97) hx hb d_Tape_readPart_10 (by rw [hcv8]; decide) (by rw [hcv8]; decide) (by rw [hcv8]; rfl) (by decide) ?_
    refine lv_aload_n hx hb d_Tape_readPart_97 rfl (lv_at hl 1 rfl) ?_
    obtain ⟨M39, hc38, hf0⟩ := o_b hf0
    refine q_cVv (As := []) (rest := []) S hX hH (c_Tape_readLate l hI hZ M2 hc38) (cw_Tape_81 S.2.2.2.2 (Nat.le_trans (Nat.le_of_ble_eq_true rfl) hR.1) (Nat.le_trans (Nat.le_of_ble_eq_true rfl) hR.2)) (rc_Tape hX hH hZ) rfl hl.1 rfl (Nat.le_of_ble_eq_true rfl) d_Tape_readPart_98 ⟨Nat.zero_le _, Nat.zero_le _⟩ (fun H locs hH => ?_)
    refine lv_goto (tgt := 133) hx hb d_Tape_readPart_101 (by decide) ?_
    obtain rfl := o_v hf0
    exact hQ _ _ _ _ hH d_Tape_readPart_133
  replace hf0 := o_f hcv8 hf0
  refine lv_tableOut (tgt := 104) hx hb d_Tape_readPart_10 (sw_out (fun v h1 h2 => by rcases (show v = -1 ∨ v = 0 ∨ v = 1 ∨ v = 2 ∨ v = 3 ∨ v = 4 ∨ v = 5 ∨ v = 6 ∨ v = 7 ∨ v = 8 by omega) with rfl | rfl | rfl | rfl | rfl | rfl | rfl | rfl | rfl | rfl <;> assumption)) (by decide) ?_
  refine lv_aload_n hx hb d_Tape_readPart_104 rfl (lv_at hl 1 rfl) ?_
  refine g_Tape_18 S hX hH hZ d_Tape_readPart_105 ?_
  refine g_Tape_84 S hX hH hZ isPlay_8 d_Tape_readPart_108 ?_
  refine lv_iload_n hx hb d_Tape_readPart_111 rfl (lv_at hl 0 rfl) ?_
  refine lv_aload_n hx hb d_Tape_readPart_112 rfl (lv_at hl 1 rfl) ?_
  refine lv_aload_n hx hb d_Tape_readPart_113 rfl (lv_at hl 1 rfl) ?_
  refine g_Tape_18 S hX hH hZ d_Tape_readPart_114 ?_
  refine lv_iload_n hx hb d_Tape_readPart_117 rfl (lv_at hl 0 rfl) ?_
  refine q_cVi (As := [.int y4]) (rest := [.ref (Z.2.2.1 136), .int y4, .ref (Z.2.2.1 9)]) S hX hH (c_Play_leastSetting l hI hZ 8 M2 y4 isPlay_8 rfl) (cw_Tape_88 S.2.2.2.2 (Nat.le_trans (Nat.le_of_ble_eq_true rfl) hR.1) (Nat.le_trans (Nat.le_of_ble_eq_true rfl) hR.2)) (rc_Play hX hH hZ isPlay_8) rfl hl.1 rfl (Nat.le_of_ble_eq_true rfl) d_Tape_readPart_118 ⟨Nat.zero_le _, Nat.zero_le _⟩ (fun H locs hH => ?_)
  refine lv_aload_n hx hb d_Tape_readPart_121 rfl (lv_at hl 1 rfl) ?_
  refine g_Tape_18 S hX hH hZ d_Tape_readPart_122 ?_
  refine lv_iload_n hx hb d_Tape_readPart_125 rfl (lv_at hl 0 rfl) ?_
  refine q_cVi (As := [.int y4]) (rest := [.int (f_Play_leastSetting 8 y4), .ref (Z.2.2.1 136), .int y4, .ref (Z.2.2.1 9)]) S hX hH (c_Play_mostSetting l hI hZ 8 M2 y4 isPlay_8 rfl) (cw_Tape_92 S.2.2.2.2 (Nat.le_trans (Nat.le_of_ble_eq_true rfl) hR.1) (Nat.le_trans (Nat.le_of_ble_eq_true rfl) hR.2)) (rc_Play hX hH hZ isPlay_8) rfl hl.1 rfl (Nat.le_of_ble_eq_true rfl) d_Tape_readPart_126 ⟨Nat.zero_le _, Nat.zero_le _⟩ (fun H locs hH => ?_)
  obtain ⟨y42, M41, hc40, hf0⟩ := o_b2 hf0
  refine q_cVi (As := [.int (f_Play_leastSetting 8 y4), .int (f_Play_mostSetting 8 M2 y4)]) (rest := [.int y4, .ref (Z.2.2.1 9)]) S hX hH (c_Tape_readNumber l hI hZ M2 (f_Play_leastSetting 8 y4) (f_Play_mostSetting 8 M2 y4) hc40) (cw_Tape_51 S.2.2.2.2 (Nat.le_trans (Nat.le_of_ble_eq_true rfl) hR.1) (Nat.le_trans (Nat.le_of_ble_eq_true rfl) hR.2)) (rc_Tape hX hH hZ) rfl hl.1 rfl (Nat.le_of_ble_eq_true rfl) d_Tape_readPart_129 ⟨Nat.zero_le _, Nat.zero_le _⟩ (fun H locs hH => ?_)
  obtain ⟨hn43, hf0⟩ := o_in hf0
  obtain ⟨M44, hM44, hf0⟩ := o_l hf0
  refine q_iast (j := y4.toNatClampNeg) hx hb hX hI hH (aa_Play_1 hZ isPlay_8) hn43 rfl d_Tape_readPart_132 (fun H locs hH => ?_)
  rw [hM44] at hH
  obtain rfl := o_v hf0
  exact hQ _ _ _ _ hH d_Tape_readPart_133
theorem c_Tape_readPart (l : Launch) {Z : WD} (hI : wI Z) (hZ : IsC Z) (M : Mem) {M' : Mem} (hf : f_Tape_readPart M = some M') : Cv l Z y_Tape_readPart b_Tape_readPart 2 none 6 127 [.ref (Z.2.2.1 136)] M M' := by
  refine Met.ofW (cc := b_Tape_readPart) (maxL := 2) (ret := none) (by decide) rfl ?_
  intro p e s m args below meth c s₁ B hml hv
  obtain ⟨rfl, hP, hX⟩ := hv
  have S : CallFix p m c b_Tape_readPart 2 s ([.ref (Z.2.2.1 136)] : List Value).toArray gtb R_Tape := ⟨B.exec, B.bytes, hml, findClass_of_methodNamed B.named, fun w hw => atoms_spec (ws := .code y_Tape_readPart b_Tape_readPart 2 none :: gtb) B.pre w (List.mem_cons_of_mem _ hw)⟩
  have hl := lv_entry ([.ref (Z.2.2.1 136)]) (n := 2) (Nat.le_of_ble_eq_true rfl)
  rw [lg_entry_eq]
  exact wk_Tape_readPart hI hZ M S hX ⟨Nat.le_refl _, Nat.le_refl _⟩ (fun pc H locs ls hH d => q_rv S.1 S.2.1 B.returns B.notSynchronized hH rfl d) hf ⟨hP, va_S.rf⟩ hl
theorem cw_Tape_65 {R : Room} {s : State} {args : Array Value} (ht : ∀ w ∈ gtb, w.before args s = true) (h1 : 6 + 1 ≤ R.frames) (h2 : 8 + (2 + 11) + 127 ≤ R.locals) : CallW R s args R_Tape R_Tape 65 y_Tape_readPart b_Tape_readPart 2 none (.code y_Tape_readPart b_Tape_readPart 2 none :: gtb) { frames := 6, cells := 0, slots := 0, locals := 127 } 0 0 0 := cwV 0 ht (gV w2_194 w2_196 ws_Tape_readPart w1_3 w2_197) rfl rfl rfl ⟨rfl, by decide, by decide, by decide +kernel⟩ ⟨h1, h2⟩
theorem cw_Tape_35 {R : Room} {s : State} {args : Array Value} (ht : ∀ w ∈ gtb, w.before args s = true) (h1 : 0 + 1 ≤ R.frames) (h2 : 8 + (1 + 11) + 0 ≤ R.locals) : CallW R s args R_Tape R_Play 35 y_Play_clear b_Play_clear 1 none (.code y_Play_clear b_Play_clear 1 none :: gtb) { frames := 0, cells := 0, slots := 0, locals := 0 } 0 0 0 := cwV 0 ht (gV w2_116 w1_31 w1_32 w1_2 w1_33) rfl rfl rfl ⟨rfl, by decide, by decide, by decide +kernel⟩ ⟨h1, h2⟩
noncomputable def f_Tape_read_L59 (x1 : Int32) (M : Mem) : Option ((Int32 × Mem) ⊕ Mem) := if (400 : Int32) ≤ x1 then some (.inr M) else 
    if (M 136 3) = 0 then 
    if (M 136 2) ≤ (M 136 4) then some (.inr M) else 
    bnd (f_Tape_readSign M (59 : Int32)) (fun M2 => 
    bnd (f_Tape_readPart M2) (fun M4 => bnd (f_Tape_skipBlanks M4) (fun M6 => some (.inl (x1 + (1 : Int32), M6))))) else some (.inr M)
noncomputable def f_Tape_read_W59  (u : (Int32 × Mem)) : Option Mem := loop (fun t => f_Tape_read_L59 t.1 t.2) u
noncomputable def f_Tape_read_J59 (M : Mem) (x1 : Int32) : Option (Mem) := bnd (f_Tape_read_W59 (x1, M)) (fun e59 => some e59)
noncomputable def f_Tape_read_J39 (M : Mem) : Option (Mem) := bnd2 (f_Tape_readNumber M (3 : Int32) (8 : Int32)) (fun y9 M8 => 
    lt1 (upM M8 8 0 y9) (fun M10 => bnd (f_Tape_skipBlanks M10) (fun M12 => f_Tape_read_J59 M12 (0 : Int32))))
noncomputable def f_Tape_read (M : Mem) : Option Mem := 
    bnd (f_Play_clear 8 M) (fun M14 => 
    lt1 (upM M14 136 3 (0 : Int32)) (fun M15 => 
    lt1 (upM M15 136 4 (0 : Int32)) (fun M16 => 
    bnd (f_Tape_readWord M16) (fun M18 => 
    bnd (f_Tape_isWord 0 M18) (fun y20 => 
    if (bI y20) = 0 then bnd (f_Tape_blame M18 (M18 136 5) (1 : Int32)) (fun M22 => f_Tape_read_J39 M22) else f_Tape_read_J39 M18)))))
set_option maxHeartbeats 4000000 in
theorem wk_Tape_read {l : Launch} {Z : WD} (hI : wI Z) (hZ : IsC Z) (M : Mem) {M' : Mem} {p : Program} {e : Env} {R : Room} {s : State} {m : MethodId} {args : Array Value} {below : List Frame} {meth : Method} {c : Code} {H : Heap} {locs : List Loc} {ls : Array Slot} {Q : State → Prop} (S : CallFix p m c b_Tape_read 2 s args gtb R_Tape) (hX : wX Z s) (hR : 7 ≤ R.frames ∧ 148 ≤ R.locals) (hQ : ∀ (pc : Nat) (H : Heap) (locs : List Loc) (ls : Array Slot), HW Z M' s H locs → decode b_Tape_read pc = .ok (.return_, 1) → W p l e R s m args below meth c H locs 0 0 Q (F0 m pc ls [])) (hf0 : f_Tape_read M = some M') (hH : HW Z M s H locs) (hl : lv_has ls 2 [(0, .ref (Z.2.2.1 136))]) : W p l e R s m args below meth c H locs 0 0 Q (F0 m 0 ls []) := by
  have hx := S.1
  have hb := S.2.1
  have hown := S.2.2.2.1
  have ht := S.2.2.2.2
  unfold f_Tape_read at hf0
  have J59 : ∀ (M : Mem) (x1 : Int32) (H : Heap) (locs : List Loc) (ls : Array Slot), f_Tape_read_J59 M x1 = some M' → HW Z M s H locs → lv_has ls 2 [(0, .ref (Z.2.2.1 136)), (1, .int x1)] → W p l e R s m args below meth c H locs 0 0 Q (F0 m 59 ls []) := by
    intro M x1 H locs ls hf0 hH hl
    unfold f_Tape_read_J59 at hf0
    obtain ⟨e59, he59, hf0⟩ := o_b hf0
    unfold f_Tape_read_W59 at he59
    refine loop_W (fun t => ∀ (H : Heap) (locs : List Loc) (ls : Array Slot), HW Z t.2 s H locs → lv_has ls 2 [(0, .ref (Z.2.2.1 136)), (1, .int t.1)] → W p l e R s m args below meth c H locs 0 0 Q (F0 m 59 ls [])) ?_ he59 H locs ls hH hl
    rintro ⟨x1, M⟩ o1 hf1 hG1 hR1 H locs ls hH hl
    replace hH : HW Z M s H locs := hH
    replace hl : lv_has ls 2 [(0, .ref (Z.2.2.1 136)), (1, .int x1)] := hl
    replace hf1 : f_Tape_read_L59 x1 M = some o1 := hf1
    unfold f_Tape_read_L59 at hf1
    refine lv_iload_n hx hb d_Tape_read_59 rfl (lv_at hl 1 rfl) ?_
    refine lv_sipush (v := (400 : Int32)) hx hb d_Tape_read_60 (by decide) ?_
    refine lv_icmp_ge (tgt := 104) hx hb d_Tape_read_63 (by decide) (fun hc => ?_) (fun hc => ?_)
    · replace hf1 := o_t hc hf1
      obtain rfl := hR1 _ (o_v hf1).symm
      obtain rfl := o_v hf0
      exact hQ _ _ _ _ hH d_Tape_read_104
    · replace hf1 := o_f hc hf1
      refine lv_aload_n hx hb d_Tape_read_66 rfl (lv_at hl 0 rfl) ?_
      refine g_Tape_26 S hX hH hZ d_Tape_read_67 ?_
      refine lv_if_ne (tgt := 104) hx hb d_Tape_read_70 (by decide) (fun hc => ?_) (fun hc => ?_)
      · replace hf1 := o_f hc hf1
        obtain rfl := hR1 _ (o_v hf1).symm
        obtain rfl := o_v hf0
        exact hQ _ _ _ _ hH d_Tape_read_104
      · replace hf1 := o_t hc hf1
        refine lv_aload_n hx hb d_Tape_read_73 rfl (lv_at hl 0 rfl) ?_
        refine g_Tape_29 S hX hH hZ d_Tape_read_74 ?_
        refine lv_aload_n hx hb d_Tape_read_77 rfl (lv_at hl 0 rfl) ?_
        refine g_Tape_22 S hX hH hZ d_Tape_read_78 ?_
        refine lv_icmp_ge (tgt := 104) hx hb d_Tape_read_81 (by decide) (fun hc => ?_) (fun hc => ?_)
        · replace hf1 := o_t hc hf1
          obtain rfl := hR1 _ (o_v hf1).symm
          obtain rfl := o_v hf0
          exact hQ _ _ _ _ hH d_Tape_read_104
        · replace hf1 := o_f hc hf1
          refine lv_aload_n hx hb d_Tape_read_84 rfl (lv_at hl 0 rfl) ?_
          refine lv_bipush (v := (59 : Int32)) hx hb d_Tape_read_85 (by decide) ?_
          obtain ⟨M2, hc1, hf1⟩ := o_b hf1
          refine q_cVv (As := [.int (59 : Int32)]) (rest := []) S hX hH (c_Tape_readSign l hI hZ M (59 : Int32) hc1) (cw_Tape_61 S.2.2.2.2 (Nat.le_trans (Nat.le_of_ble_eq_true rfl) hR.1) (Nat.le_trans (Nat.le_of_ble_eq_true rfl) hR.2)) (rc_Tape hX hH hZ) rfl hl.1 rfl (Nat.le_of_ble_eq_true rfl) d_Tape_read_87 ⟨Nat.zero_le _, Nat.zero_le _⟩ (fun H locs hH => ?_)
          refine lv_aload_n hx hb d_Tape_read_90 rfl (lv_at hl 0 rfl) ?_
          obtain ⟨M4, hc3, hf1⟩ := o_b hf1
          refine q_cVv (As := []) (rest := []) S hX hH (c_Tape_readPart l hI hZ M2 hc3) (cw_Tape_65 S.2.2.2.2 (Nat.le_trans (Nat.le_of_ble_eq_true rfl) hR.1) (Nat.le_trans (Nat.le_of_ble_eq_true rfl) hR.2)) (rc_Tape hX hH hZ) rfl hl.1 rfl (Nat.le_of_ble_eq_true rfl) d_Tape_read_91 ⟨Nat.zero_le _, Nat.zero_le _⟩ (fun H locs hH => ?_)
          refine lv_aload_n hx hb d_Tape_read_94 rfl (lv_at hl 0 rfl) ?_
          obtain ⟨M6, hc5, hf1⟩ := o_b hf1
          refine q_cVv (As := []) (rest := []) S hX hH (c_Tape_skipBlanks l hI hZ M4 hc5) (cw_Tape_58 S.2.2.2.2 (Nat.le_trans (Nat.le_of_ble_eq_true rfl) hR.1) (Nat.le_trans (Nat.le_of_ble_eq_true rfl) hR.2)) (rc_Tape hX hH hZ) rfl hl.1 rfl (Nat.le_of_ble_eq_true rfl) d_Tape_read_95 ⟨Nat.zero_le _, Nat.zero_le _⟩ (fun H locs hH => ?_)
          refine lv_iinc (v := x1 + (1 : Int32)) (lv' := [(1, .int (x1 + (1 : Int32))), (0, .ref (Z.2.2.1 136))]) hx hb d_Tape_read_98 hl (k := 1) rfl rfl (by decide) rfl (fun ls hl => ?_)
          refine lv_goto (tgt := 59) hx hb d_Tape_read_101 (by decide) ?_
          exact hG1 _ (o_v hf1).symm _ _ _ hH (lv_sub hl [1, 0] rfl)
  have J39 : ∀ (M : Mem) (H : Heap) (locs : List Loc) (ls : Array Slot), f_Tape_read_J39 M = some M' → HW Z M s H locs → lv_has ls 2 [(0, .ref (Z.2.2.1 136))] → W p l e R s m args below meth c H locs 0 0 Q (F0 m 39 ls []) := by
    intro M H locs ls hf0 hH hl
    unfold f_Tape_read_J39 at hf0
    refine lv_aload_n hx hb d_Tape_read_39 rfl (lv_at hl 0 rfl) ?_
    refine g_Tape_18 S hX hH hZ d_Tape_read_40 ?_
    refine lv_aload_n hx hb d_Tape_read_43 rfl (lv_at hl 0 rfl) ?_
    refine lv_iconst (v := (3 : Int32)) hx hb d_Tape_read_44 (by decide) ?_
    refine lv_bipush (v := (8 : Int32)) hx hb d_Tape_read_45 (by decide) ?_
    obtain ⟨y9, M8, hc7, hf0⟩ := o_b2 hf0
    refine q_cVi (As := [.int (3 : Int32), .int (8 : Int32)]) (rest := [.ref (Z.2.2.1 8)]) S hX hH (c_Tape_readNumber l hI hZ M (3 : Int32) (8 : Int32) hc7) (cw_Tape_51 S.2.2.2.2 (Nat.le_trans (Nat.le_of_ble_eq_true rfl) hR.1) (Nat.le_trans (Nat.le_of_ble_eq_true rfl) hR.2)) (rc_Tape hX hH hZ) rfl hl.1 rfl (Nat.le_of_ble_eq_true rfl) d_Tape_read_47 ⟨Nat.zero_le _, Nat.zero_le _⟩ (fun H locs hH => ?_)
    obtain ⟨M10, hM10, hf0⟩ := o_l hf0
    refine s_Tape_55 S hX hI hH hZ isPlay_8 d_Tape_read_50 (fun H locs hH => ?_)
    rw [hM10] at hH
    refine lv_aload_n hx hb d_Tape_read_53 rfl (lv_at hl 0 rfl) ?_
    obtain ⟨M12, hc11, hf0⟩ := o_b hf0
    refine q_cVv (As := []) (rest := []) S hX hH (c_Tape_skipBlanks l hI hZ M10 hc11) (cw_Tape_58 S.2.2.2.2 (Nat.le_trans (Nat.le_of_ble_eq_true rfl) hR.1) (Nat.le_trans (Nat.le_of_ble_eq_true rfl) hR.2)) (rc_Tape hX hH hZ) rfl hl.1 rfl (Nat.le_of_ble_eq_true rfl) d_Tape_read_54 ⟨Nat.zero_le _, Nat.zero_le _⟩ (fun H locs hH => ?_)
    refine lv_iconst (v := (0 : Int32)) hx hb d_Tape_read_57 (by decide) ?_
    refine lv_istore_n (lv' := [(1, .int (0 : Int32)), (0, .ref (Z.2.2.1 136))]) hx hb d_Tape_read_58 rfl hl (by decide) rfl (fun ls hl => ?_)
    exact J59 _ _ _ _ _ hf0 hH (lv_sub hl [1, 0] rfl)
  refine lv_aload_n hx hb d_Tape_read_0 rfl (lv_at hl 0 rfl) ?_
  refine g_Tape_18 S hX hH hZ d_Tape_read_1 ?_
  obtain ⟨M14, hc13, hf0⟩ := o_b hf0
  refine q_cVv (As := []) (rest := []) S hX hH (c_Play_clear l hI hZ 8 M isPlay_8 hc13) (cw_Tape_35 S.2.2.2.2 (Nat.le_trans (Nat.le_of_ble_eq_true rfl) hR.1) (Nat.le_trans (Nat.le_of_ble_eq_true rfl) hR.2)) (rc_Play hX hH hZ isPlay_8) rfl hl.1 rfl (Nat.le_of_ble_eq_true rfl) d_Tape_read_4 ⟨Nat.zero_le _, Nat.zero_le _⟩ (fun H locs hH => ?_)
  refine lv_aload_n hx hb d_Tape_read_7 rfl (lv_at hl 0 rfl) ?_
  refine lv_iconst (v := (0 : Int32)) hx hb d_Tape_read_8 (by decide) ?_
  obtain ⟨M15, hM15, hf0⟩ := o_l hf0
  refine s_Tape_26 S hX hI hH hZ d_Tape_read_9 (fun H locs hH => ?_)
  rw [hM15] at hH
  refine lv_aload_n hx hb d_Tape_read_12 rfl (lv_at hl 0 rfl) ?_
  refine lv_iconst (v := (0 : Int32)) hx hb d_Tape_read_13 (by decide) ?_
  obtain ⟨M16, hM16, hf0⟩ := o_l hf0
  refine s_Tape_29 S hX hI hH hZ d_Tape_read_14 (fun H locs hH => ?_)
  rw [hM16] at hH
  refine lv_aload_n hx hb d_Tape_read_17 rfl (lv_at hl 0 rfl) ?_
  obtain ⟨M18, hc17, hf0⟩ := o_b hf0
  refine q_cVv (As := []) (rest := []) S hX hH (c_Tape_readWord l hI hZ M16 hc17) (cw_Tape_38 S.2.2.2.2 (Nat.le_trans (Nat.le_of_ble_eq_true rfl) hR.1) (Nat.le_trans (Nat.le_of_ble_eq_true rfl) hR.2)) (rc_Tape hX hH hZ) rfl hl.1 rfl (Nat.le_of_ble_eq_true rfl) d_Tape_read_18 ⟨Nat.zero_le _, Nat.zero_le _⟩ (fun H locs hH => ?_)
  refine lv_aload_n hx hb d_Tape_read_21 rfl (lv_at hl 0 rfl) ?_
  refine va_ldcS hx hb hown (hX.2.2.1 ("MarkedChains$Tape", 41, "play", 0) (by decide)) d_Tape_read_22 ?_
  obtain ⟨y20, hc19, hf0⟩ := o_b hf0
  refine q_cVi (As := [.ref (Z.2.2.2.2.2.1 0)]) (rest := []) S hX hH (c_Tape_isWord l hI hZ 0 M18 (by decide) hc19) (cw_Tape_43 S.2.2.2.2 (Nat.le_trans (Nat.le_of_ble_eq_true rfl) hR.1) (Nat.le_trans (Nat.le_of_ble_eq_true rfl) hR.2)) (rc_Tape hX hH hZ) rfl hl.1 rfl (Nat.le_of_ble_eq_true rfl) d_Tape_read_24 ⟨Nat.zero_le _, Nat.zero_le _⟩ (fun H locs hH => ?_)
  refine lv_if_ne (tgt := 39) hx hb d_Tape_read_27 (by decide) (fun hc => ?_) (fun hc => ?_)
  · replace hf0 := o_f hc hf0
    exact J39 _ _ _ _ hf0 hH (lv_sub hl [0] rfl)
  · replace hf0 := o_t hc hf0
    refine lv_aload_n hx hb d_Tape_read_30 rfl (lv_at hl 0 rfl) ?_
    refine lv_aload_n hx hb d_Tape_read_31 rfl (lv_at hl 0 rfl) ?_
    refine g_Tape_32 S hX hH hZ d_Tape_read_32 ?_
    refine lv_iconst (v := (1 : Int32)) hx hb d_Tape_read_35 (by decide) ?_
    obtain ⟨M22, hc21, hf0⟩ := o_b hf0
    refine q_cVv (As := [.int (M18 136 5), .int (1 : Int32)]) (rest := []) S hX hH (c_Tape_blame l hI hZ M18 (M18 136 5) (1 : Int32) hc21) (cw_Tape_47 S.2.2.2.2 (Nat.le_trans (Nat.le_of_ble_eq_true rfl) hR.1) (Nat.le_trans (Nat.le_of_ble_eq_true rfl) hR.2)) (rc_Tape hX hH hZ) rfl hl.1 rfl (Nat.le_of_ble_eq_true rfl) d_Tape_read_36 ⟨Nat.zero_le _, Nat.zero_le _⟩ (fun H locs hH => ?_)
    exact J39 _ _ _ _ hf0 hH (lv_sub hl [0] rfl)
theorem c_Tape_read (l : Launch) {Z : WD} (hI : wI Z) (hZ : IsC Z) (M : Mem) {M' : Mem} (hf : f_Tape_read M = some M') : Cv l Z y_Tape_read b_Tape_read 2 none 7 148 [.ref (Z.2.2.1 136)] M M' := by
  refine Met.ofW (cc := b_Tape_read) (maxL := 2) (ret := none) (by decide) rfl ?_
  intro p e s m args below meth c s₁ B hml hv
  obtain ⟨rfl, hP, hX⟩ := hv
  have S : CallFix p m c b_Tape_read 2 s ([.ref (Z.2.2.1 136)] : List Value).toArray gtb R_Tape := ⟨B.exec, B.bytes, hml, findClass_of_methodNamed B.named, fun w hw => atoms_spec (ws := .code y_Tape_read b_Tape_read 2 none :: gtb) B.pre w (List.mem_cons_of_mem _ hw)⟩
  have hl := lv_entry ([.ref (Z.2.2.1 136)]) (n := 2) (Nat.le_of_ble_eq_true rfl)
  rw [lg_entry_eq]
  exact wk_Tape_read hI hZ M S hX ⟨Nat.le_refl _, Nat.le_refl _⟩ (fun pc H locs ls hH d => q_rv S.1 S.2.1 B.returns B.notSynchronized hH rfl d) hf ⟨hP, va_S.rf⟩ hl
