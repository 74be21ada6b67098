noncomputable def f_MM_leaves_L15 (x1 : Int32) (x2 : Int32) (M : Mem) : Option ((Int32 × Mem) ⊕ Mem) := if x2 < 0 then some (.inr M) else 
    if (bI (f_MM_has x1 x2)) = 0 then bnd (f_MM_takesOut M (0 : Int32) x2) (fun M2 => some (.inl (x2 + (-1 : Int32), M2))) else some (.inl (x2 + (-1 : Int32), M))
noncomputable def f_MM_leaves_W15 (x1 : Int32) (u : (Int32 × Mem)) : Option Mem := loop (fun t => f_MM_leaves_L15 x1 t.1 t.2) u
noncomputable def f_MM_leaves_J15 (M : Mem) (x1 : Int32) (x2 : Int32) : Option (Mem) := bnd (f_MM_leaves_W15 x1 (x2, M)) (fun e15 => some e15)
noncomputable def f_MM_leaves (M : Mem) (x1 : Int32) : Option Mem := f_MM_leaves_J15 M x1 ((miI (6 : Int32) (M 1 7)) - (1 : Int32))
set_option maxHeartbeats 4000000 in
theorem wk_MM_leaves {l : Launch} {Z : WD} (hI : wI Z) (hZ : IsM Z) (M : Mem) (x1 : Int32) {M' : Mem} {p : Program} {e : Env} {R : Room} {s : State} {m : MethodId} {args : Array Value} {below : List Frame} {meth : Method} {c : Code} {H : Heap} {locs : List Loc} {ls : Array Slot} {Q : State → Prop} (S : CallFix p m c b_MM_leaves 3 s args gtb R_MM) (hX : wX Z s) (hR : 2 ≤ R.frames ∧ 44 ≤ R.locals) (hQ : ∀ (pc : Nat) (H : Heap) (locs : List Loc) (ls : Array Slot), HW Z M' s H locs → decode b_MM_leaves pc = .ok (.return_, 1) → W p l e R s m args below meth c H locs 0 0 Q (F0 m pc ls [])) (hf0 : f_MM_leaves M x1 = some M') (hH : HW Z M s H locs) (hl : lv_has ls 3 [(0, .ref (Z.2.2.1 0)), (1, .int x1)]) : W p l e R s m args below meth c H locs 0 0 Q (F0 m 0 ls []) := by
  have hx := S.1
  have hb := S.2.1
  have hown := S.2.2.2.1
  have ht := S.2.2.2.2
  unfold f_MM_leaves at hf0
  have J15 : ∀ (M : Mem) (x1 : Int32) (x2 : Int32) (H : Heap) (locs : List Loc) (ls : Array Slot), f_MM_leaves_J15 M x1 x2 = some M' → HW Z M s H locs → lv_has ls 3 [(0, .ref (Z.2.2.1 0)), (1, .int x1), (2, .int x2)] → W p l e R s m args below meth c H locs 0 0 Q (F0 m 15 ls []) := by
    intro M x1 x2 H locs ls hf0 hH hl
    unfold f_MM_leaves_J15 at hf0
    obtain ⟨e15, he15, hf0⟩ := o_b hf0
    unfold f_MM_leaves_W15 at he15
    refine loop_W (fun t => ∀ (H : Heap) (locs : List Loc) (ls : Array Slot), HW Z t.2 s H locs → lv_has ls 3 [(0, .ref (Z.2.2.1 0)), (1, .int x1), (2, .int t.1)] → W p l e R s m args below meth c H locs 0 0 Q (F0 m 15 ls [])) ?_ he15 H locs ls hH hl
    rintro ⟨x2, M⟩ o1 hf1 hG1 hR1 H locs ls hH hl
    replace hH : HW Z M s H locs := hH
    replace hl : lv_has ls 3 [(0, .ref (Z.2.2.1 0)), (1, .int x1), (2, .int x2)] := hl
    replace hf1 : f_MM_leaves_L15 x1 x2 M = some o1 := hf1
    unfold f_MM_leaves_L15 at hf1
    refine lv_iload_n hx hb d_MM_leaves_15 rfl (lv_at hl 2 rfl) ?_
    refine lv_if_lt (tgt := 39) hx hb d_MM_leaves_16 (by decide) (fun hc => ?_) (fun hc => ?_)
    · replace hf1 := o_t hc hf1
      obtain rfl := hR1 _ (o_v hf1).symm
      obtain rfl := o_v hf0
      exact hQ _ _ _ _ hH d_MM_leaves_39
    · replace hf1 := o_f hc hf1
      refine lv_iload_n hx hb d_MM_leaves_19 rfl (lv_at hl 1 rfl) ?_
      refine lv_iload_n hx hb d_MM_leaves_20 rfl (lv_at hl 2 rfl) ?_
      refine q_cSi (As := [.int x1, .int x2]) (rest := []) S hX hH (c_MM_has l hI M x1 x2 rfl) (cw_MM_201 S.2.2.2.2 (Nat.le_trans (Nat.le_of_ble_eq_true rfl) hR.1) (Nat.le_trans (Nat.le_of_ble_eq_true rfl) hR.2)) rfl hl.1 rfl (Nat.le_of_ble_eq_true rfl) d_MM_leaves_21 ⟨Nat.zero_le _, Nat.zero_le _⟩ (fun H locs hH => ?_)
      refine lv_if_ne (tgt := 33) hx hb d_MM_leaves_24 (by decide) (fun hc => ?_) (fun hc => ?_)
      · replace hf1 := o_f hc hf1
        refine lv_iinc (v := x2 + (-1 : Int32)) (lv' := [(2, .int (x2 + (-1 : Int32))), (0, .ref (Z.2.2.1 0)), (1, .int x1)]) hx hb d_MM_leaves_33 hl (k := 2) rfl rfl (by decide) rfl (fun ls hl => ?_)
        refine lv_goto (tgt := 15) hx hb d_MM_leaves_36 (by decide) ?_
        exact hG1 _ (o_v hf1).symm _ _ _ hH (lv_sub hl [1, 2, 0] rfl)
      · replace hf1 := o_t hc hf1
        refine lv_aload_n hx hb d_MM_leaves_27 rfl (lv_at hl 0 rfl) ?_
        refine lv_iconst (v := (0 : Int32)) hx hb d_MM_leaves_28 (by decide) ?_
        refine lv_iload_n hx hb d_MM_leaves_29 rfl (lv_at hl 2 rfl) ?_
        obtain ⟨M2, hc1, hf1⟩ := o_b hf1
        refine q_cVv (As := [.int (0 : Int32), .int x2]) (rest := []) S hX hH (c_MM_takesOut l hI hZ M (0 : Int32) x2 hc1) (cw_MM_239 S.2.2.2.2 (Nat.le_trans (Nat.le_of_ble_eq_true rfl) hR.1) (Nat.le_trans (Nat.le_of_ble_eq_true rfl) hR.2)) (rc_MM hX hH hZ) rfl hl.1 rfl (Nat.le_of_ble_eq_true rfl) d_MM_leaves_30 ⟨Nat.zero_le _, Nat.zero_le _⟩ (fun H locs hH => ?_)
        refine lv_iinc (v := x2 + (-1 : Int32)) (lv' := [(2, .int (x2 + (-1 : Int32))), (0, .ref (Z.2.2.1 0)), (1, .int x1)]) hx hb d_MM_leaves_33 hl (k := 2) rfl rfl (by decide) rfl (fun ls hl => ?_)
        refine lv_goto (tgt := 15) hx hb d_MM_leaves_36 (by decide) ?_
        exact hG1 _ (o_v hf1).symm _ _ _ hH (lv_sub hl [1, 2, 0] rfl)
  refine lv_bipush (v := (6 : Int32)) hx hb d_MM_leaves_0 (by decide) ?_
  refine lv_aload_n hx hb d_MM_leaves_2 rfl (lv_at hl 0 rfl) ?_
  refine g_MM_9 S hX hH hZ d_MM_leaves_3 ?_
  refine lv_bipush (v := (7 : Int32)) hx hb d_MM_leaves_6 (by decide) ?_
  refine q_iald (j := 7) hx hb hX hH (aa_MM_1 hZ) (vp_c (by decide)) (by decide) d_MM_leaves_8 ?_
  refine q_min S hl.1 w5_105 w2_61 w1_9 w2_62 (Nat.le_trans (Nat.le_of_ble_eq_true rfl) hR.1) (Nat.le_trans (Nat.le_of_ble_eq_true rfl) hR.2) d_MM_leaves_9 ?_
  refine lv_iconst (v := (1 : Int32)) hx hb d_MM_leaves_12 (by decide) ?_
  refine lv_isub hx hb d_MM_leaves_13 ?_
  refine lv_istore_n (lv' := [(2, .int ((miI (6 : Int32) (M 1 7)) - (1 : Int32))), (0, .ref (Z.2.2.1 0)), (1, .int x1)]) hx hb d_MM_leaves_14 rfl hl (by decide) rfl (fun ls hl => ?_)
  exact J15 _ _ _ _ _ _ hf0 hH (lv_sub hl [1, 2, 0] rfl)
theorem c_MM_leaves (l : Launch) {Z : WD} (hI : wI Z) (hZ : IsM Z) (M : Mem) (x1 : Int32) {M' : Mem} (hf : f_MM_leaves M x1 = some M') : Cv l Z y_MM_leaves b_MM_leaves 3 none 2 44 [.ref (Z.2.2.1 0), .int x1] M M' := by
  refine Met.ofW (cc := b_MM_leaves) (maxL := 3) (ret := none) (by decide) rfl ?_
  intro p e s m args below meth c s₁ B hml hv
  obtain ⟨rfl, hP, hX⟩ := hv
  have S : CallFix p m c b_MM_leaves 3 s ([.ref (Z.2.2.1 0), .int x1] : List Value).toArray gtb R_MM := ⟨B.exec, B.bytes, hml, findClass_of_methodNamed B.named, fun w hw => atoms_spec (ws := .code y_MM_leaves b_MM_leaves 3 none :: gtb) B.pre w (List.mem_cons_of_mem _ hw)⟩
  have hl := lv_entry ([.ref (Z.2.2.1 0), .int x1]) (n := 3) (Nat.le_of_ble_eq_true rfl)
  rw [lg_entry_eq]
  exact wk_MM_leaves hI hZ M x1 S hX ⟨Nat.le_refl _, Nat.le_refl _⟩ (fun pc H locs ls hH d => q_rv S.1 S.2.1 B.returns B.notSynchronized hH rfl d) hf ⟨hP, va_S.rf⟩ hl
theorem cw_MM_338 {R : Room} {s : State} {args : Array Value} (ht : ∀ w ∈ gtb, w.before args s = true) (h1 : 2 + 1 ≤ R.frames) (h2 : 8 + (3 + 11) + 44 ≤ R.locals) : CallW R s args R_MM R_MM 338 y_MM_leaves b_MM_leaves 3 none (.code y_MM_leaves b_MM_leaves 3 none :: gtb) { frames := 2, cells := 0, slots := 0, locals := 44 } 0 0 1 := cwV 1 ht (gV w6_134 w6_136 ws_MM_leaves w1_10 w6_137) rfl rfl rfl ⟨rfl, by decide, by decide, by decide +kernel⟩ ⟨h1, h2⟩
noncomputable def f_MM_parted_J96 (M : Mem) (x2 : Int32) (x3 : Int32) (s0 : Int32) : Option ((Int32 × Int32 × Mem) ⊕ (Int32 × Mem)) := bnd (f_MM_moves 3 302 1 302 M (0 : Int32) (0 : Int32)) (fun M2 => some (.inl (s0, x3 + (1 : Int32), M2)))
noncomputable def f_MM_parted_J71 (M : Mem) (x1 : Int32) (x2 : Int32) (x3 : Int32) : Option ((Int32 × Int32 × Mem) ⊕ (Int32 × Mem)) := bnd (f_MM_leaves M x3) (fun M4 => 
    bnd (f_MM_runs M4) (fun M6 => 
    bnd (f_MM_soundSet M6) (fun y8 => 
    bnd (f_MM_decideAlike M6 y8) (fun y10 => if (bI y10) = 0 then f_MM_parted_J96 M6 x2 x3 x3 else f_MM_parted_J96 M6 x2 x3 x1))))
noncomputable def f_MM_parted_L46 (x2 : Int32) (x1 : Int32) (x3 : Int32) (M : Mem) : Option ((Int32 × Int32 × Mem) ⊕ (Int32 × Mem)) := if x2 < x3 then some (.inr (x1, M)) else 
    if x1 = (-2 : Int32) then f_MM_parted_J71 M x1 x2 x3 else 
    if (f_Int_bitCount x3) < (f_Int_bitCount x1) then f_MM_parted_J71 M x1 x2 x3 else some (.inl (x1, x3 + (1 : Int32), M))
noncomputable def f_MM_parted_W46 (x2 : Int32) (u : (Int32 × Int32 × Mem)) : Option (Int32 × Mem) := loop (fun t => f_MM_parted_L46 x2 t.1 t.2.1 t.2.2) u
noncomputable def f_MM_parted_J46 (M : Mem) (x1 : Int32) (x2 : Int32) (x3 : Int32) : Option (Int32 × Mem) := bnd (f_MM_parted_W46 x2 (x1, x3, M)) (fun e46 => some e46)
noncomputable def f_MM_parted (M : Mem) : Option (Int32 × Mem) := 
    if (M 1 0) = 0 then some ((-1 : Int32), M) else 
    bnd (f_MM_moves 1 302 3 302 M (0 : Int32) (0 : Int32)) (fun M12 => 
    f_MM_parted_J46 M12 (-2 : Int32) (((1 : Int32) <<< ((miI (6 : Int32) (M12 1 7)) &&& 31)) - (1 : Int32)) (0 : Int32))
set_option maxHeartbeats 4000000 in
theorem wk_MM_parted {l : Launch} {Z : WD} (hI : wI Z) (hZ : IsM Z) (M : Mem) {r : Int32} {M' : Mem} {p : Program} {e : Env} {R : Room} {s : State} {m : MethodId} {args : Array Value} {below : List Frame} {meth : Method} {c : Code} {H : Heap} {locs : List Loc} {ls : Array Slot} {Q : State → Prop} (S : CallFix p m c b_MM_parted 4 s args gtb R_MM) (hX : wX Z s) (hR : 6 ≤ R.frames ∧ 148 ≤ R.locals) (hQ : ∀ (pc : Nat) (H : Heap) (locs : List Loc) (ls : Array Slot), HW Z M' s H locs → decode b_MM_parted pc = .ok (.ireturn, 1) → W p l e R s m args below meth c H locs 0 0 Q (F0 m pc ls [.int r])) (hf0 : f_MM_parted M = some (r, M')) (hH : HW Z M s H locs) (hl : lv_has ls 4 [(0, .ref (Z.2.2.1 0))]) : W p l e R s m args below meth c H locs 0 0 Q (F0 m 0 ls []) := by
  have hx := S.1
  have hb := S.2.1
  have hown := S.2.2.2.1
  have ht := S.2.2.2.2
  unfold f_MM_parted at hf0
  have J46 : ∀ (M : Mem) (x1 : Int32) (x2 : Int32) (x3 : Int32) (H : Heap) (locs : List Loc) (ls : Array Slot), f_MM_parted_J46 M x1 x2 x3 = some (r, M') → HW Z M s H locs → lv_has ls 4 [(0, .ref (Z.2.2.1 0)), (1, .int x1), (2, .int x2), (3, .int x3)] → W p l e R s m args below meth c H locs 0 0 Q (F0 m 46 ls []) := by
    intro M x1 x2 x3 H locs ls hf0 hH hl
    unfold f_MM_parted_J46 at hf0
    obtain ⟨e46, he46, hf0⟩ := o_b hf0
    unfold f_MM_parted_W46 at he46
    refine loop_W (fun t => ∀ (H : Heap) (locs : List Loc) (ls : Array Slot), HW Z t.2.2 s H locs → lv_has ls 4 [(0, .ref (Z.2.2.1 0)), (1, .int t.1), (2, .int x2), (3, .int t.2.1)] → W p l e R s m args below meth c H locs 0 0 Q (F0 m 46 ls [])) ?_ he46 H locs ls hH hl
    rintro ⟨x1, x3, M⟩ o1 hf1 hG1 hR1 H locs ls hH hl
    replace hH : HW Z M s H locs := hH
    replace hl : lv_has ls 4 [(0, .ref (Z.2.2.1 0)), (1, .int x1), (2, .int x2), (3, .int x3)] := hl
    replace hf1 : f_MM_parted_L46 x2 x1 x3 M = some o1 := hf1
    unfold f_MM_parted_L46 at hf1
    have J96 : ∀ (M : Mem) (x3 : Int32) (s0 : Int32) (H : Heap) (locs : List Loc) (ls : Array Slot), f_MM_parted_J96 M x2 x3 s0 = some o1 → HW Z M s H locs → lv_has ls 4 [(0, .ref (Z.2.2.1 0)), (2, .int x2), (3, .int x3)] → W p l e R s m args below meth c H locs 0 0 Q (F0 m 96 ls [.int s0]) := by
      intro M x3 s0 H locs ls hf1 hH hl
      unfold f_MM_parted_J96 at hf1
      refine lv_istore_n (lv' := [(1, .int s0), (0, .ref (Z.2.2.1 0)), (2, .int x2), (3, .int x3)]) hx hb d_MM_parted_96 rfl hl (by decide) rfl (fun ls hl => ?_)
      refine lv_aload_n hx hb d_MM_parted_97 rfl (lv_at hl 1 rfl) ?_
      refine g_MM_16 S hX hH hZ d_MM_parted_98 ?_
      refine lv_iconst (v := (0 : Int32)) hx hb d_MM_parted_101 (by decide) ?_
      refine lv_aload_n hx hb d_MM_parted_102 rfl (lv_at hl 1 rfl) ?_
      refine g_MM_9 S hX hH hZ d_MM_parted_103 ?_
      refine lv_iconst (v := (0 : Int32)) hx hb d_MM_parted_106 (by decide) ?_
      obtain ⟨M2, hc1, hf1⟩ := o_b hf1
      refine q_cSv (As := [.ref (Z.2.2.1 3), .int (0 : Int32), .ref (Z.2.2.1 1), .int (0 : Int32)]) (rest := []) S hX hH (c_MM_moves l hI 3 302 1 302 M (0 : Int32) (0 : Int32) (aa_MM_3 hZ) (aa_MM_1 hZ) hc1) (cw_MM_190 S.2.2.2.2 (Nat.le_trans (Nat.le_of_ble_eq_true rfl) hR.1) (Nat.le_trans (Nat.le_of_ble_eq_true rfl) hR.2)) rfl hl.1 rfl (Nat.le_of_ble_eq_true rfl) d_MM_parted_107 ⟨Nat.zero_le _, Nat.zero_le _⟩ (fun H locs hH => ?_)
      refine lv_iinc (v := x3 + (1 : Int32)) (lv' := [(3, .int (x3 + (1 : Int32))), (1, .int s0), (0, .ref (Z.2.2.1 0)), (2, .int x2)]) hx hb d_MM_parted_110 hl (k := 3) rfl rfl (by decide) rfl (fun ls hl => ?_)
      refine lv_goto (tgt := 46) hx hb d_MM_parted_113 (by decide) ?_
      exact hG1 _ (o_v hf1).symm _ _ _ hH (lv_sub hl [2, 1, 3, 0] rfl)
    have J71 : ∀ (M : Mem) (x1 : Int32) (x3 : Int32) (H : Heap) (locs : List Loc) (ls : Array Slot), f_MM_parted_J71 M x1 x2 x3 = some o1 → HW Z M s H locs → lv_has ls 4 [(0, .ref (Z.2.2.1 0)), (1, .int x1), (2, .int x2), (3, .int x3)] → W p l e R s m args below meth c H locs 0 0 Q (F0 m 71 ls []) := by
      intro M x1 x3 H locs ls hf1 hH hl
      unfold f_MM_parted_J71 at hf1
      refine lv_aload_n hx hb d_MM_parted_71 rfl (lv_at hl 0 rfl) ?_
      refine lv_iload_n hx hb d_MM_parted_72 rfl (lv_at hl 3 rfl) ?_
      obtain ⟨M4, hc3, hf1⟩ := o_b hf1
      refine q_cVv (As := [.int x3]) (rest := []) S hX hH (c_MM_leaves l hI hZ M x3 hc3) (cw_MM_338 S.2.2.2.2 (Nat.le_trans (Nat.le_of_ble_eq_true rfl) hR.1) (Nat.le_trans (Nat.le_of_ble_eq_true rfl) hR.2)) (rc_MM hX hH hZ) rfl hl.1 rfl (Nat.le_of_ble_eq_true rfl) d_MM_parted_73 ⟨Nat.zero_le _, Nat.zero_le _⟩ (fun H locs hH => ?_)
      refine lv_aload_n hx hb d_MM_parted_76 rfl (lv_at hl 0 rfl) ?_
      obtain ⟨M6, hc5, hf1⟩ := o_b hf1
      refine q_cVv (As := []) (rest := []) S hX hH (c_MM_runs l hI hZ M4 hc5) (cw_MM_321 S.2.2.2.2 (Nat.le_trans (Nat.le_of_ble_eq_true rfl) hR.1) (Nat.le_trans (Nat.le_of_ble_eq_true rfl) hR.2)) (rc_MM hX hH hZ) rfl hl.1 rfl (Nat.le_of_ble_eq_true rfl) d_MM_parted_77 ⟨Nat.zero_le _, Nat.zero_le _⟩ (fun H locs hH => ?_)
      refine lv_aload_n hx hb d_MM_parted_80 rfl (lv_at hl 0 rfl) ?_
      refine lv_aload_n hx hb d_MM_parted_81 rfl (lv_at hl 0 rfl) ?_
      obtain ⟨y8, hc7, hf1⟩ := o_b hf1
      refine q_cVi (As := []) (rest := [.ref (Z.2.2.1 0)]) S hX hH (c_MM_soundSet l hI hZ M6 hc7) (cw_MM_332 S.2.2.2.2 (Nat.le_trans (Nat.le_of_ble_eq_true rfl) hR.1) (Nat.le_trans (Nat.le_of_ble_eq_true rfl) hR.2)) (rc_MM hX hH hZ) rfl hl.1 rfl (Nat.le_of_ble_eq_true rfl) d_MM_parted_82 ⟨Nat.zero_le _, Nat.zero_le _⟩ (fun H locs hH => ?_)
      obtain ⟨y10, hc9, hf1⟩ := o_b hf1
      refine q_cVi (As := [.int y8]) (rest := []) S hX hH (c_MM_decideAlike l hI hZ M6 y8 hc9) (cw_MM_335 S.2.2.2.2 (Nat.le_trans (Nat.le_of_ble_eq_true rfl) hR.1) (Nat.le_trans (Nat.le_of_ble_eq_true rfl) hR.2)) (rc_MM hX hH hZ) rfl hl.1 rfl (Nat.le_of_ble_eq_true rfl) d_MM_parted_85 ⟨Nat.zero_le _, Nat.zero_le _⟩ (fun H locs hH => ?_)
      refine lv_if_eq (tgt := 95) hx hb d_MM_parted_88 (by decide) (fun hc => ?_) (fun hc => ?_)
      · replace hf1 := o_t hc hf1
        refine lv_iload_n hx hb d_MM_parted_95 rfl (lv_at hl 3 rfl) ?_
        exact J96 _ _ _ _ _ _ hf1 hH (lv_sub hl [0, 2, 3] rfl)
      · replace hf1 := o_f hc hf1
        refine lv_iload_n hx hb d_MM_parted_91 rfl (lv_at hl 1 rfl) ?_
        refine lv_goto (tgt := 96) hx hb d_MM_parted_92 (by decide) ?_
        exact J96 _ _ _ _ _ _ hf1 hH (lv_sub hl [0, 2, 3] rfl)
    refine lv_iload_n hx hb d_MM_parted_46 rfl (lv_at hl 3 rfl) ?_
    refine lv_iload_n hx hb d_MM_parted_47 rfl (lv_at hl 2 rfl) ?_
    refine lv_icmp_gt (tgt := 116) hx hb d_MM_parted_48 (by decide) (fun hc => ?_) (fun hc => ?_)
    · replace hf1 := o_t hc hf1
      refine lv_iload_n hx hb d_MM_parted_116 rfl (lv_at hl 1 rfl) ?_
      obtain rfl := hR1 _ (o_v hf1).symm
      obtain ⟨rfl, rfl⟩ := o_p hf0
      exact hQ _ _ _ _ hH d_MM_parted_117
    · replace hf1 := o_f hc hf1
      refine lv_iload_n hx hb d_MM_parted_51 rfl (lv_at hl 1 rfl) ?_
      refine lv_bipush (v := (-2 : Int32)) hx hb d_MM_parted_52 (by decide) ?_
      refine lv_icmp_eq (tgt := 71) hx hb d_MM_parted_54 (by decide) (fun hc => ?_) (fun hc => ?_)
      · replace hf1 := o_t hc hf1
        exact J71 _ _ _ _ _ _ hf1 hH (lv_sub hl [0, 1, 2, 3] rfl)
      · replace hf1 := o_f hc hf1
        refine lv_iload_n hx hb d_MM_parted_57 rfl (lv_at hl 3 rfl) ?_
        refine q_cSi (As := [.int x3]) (rest := []) S hX hH (c_Int_bitCount l hI M x3 rfl) (cw_MM_255 S.2.2.2.2 (Nat.le_trans (Nat.le_of_ble_eq_true rfl) hR.1) (Nat.le_trans (Nat.le_of_ble_eq_true rfl) hR.2)) rfl hl.1 rfl (Nat.le_of_ble_eq_true rfl) d_MM_parted_58 ⟨Nat.zero_le _, Nat.zero_le _⟩ (fun H locs hH => ?_)
        refine lv_iload_n hx hb d_MM_parted_61 rfl (lv_at hl 1 rfl) ?_
        refine q_cSi (As := [.int x1]) (rest := [.int (f_Int_bitCount x3)]) S hX hH (c_Int_bitCount l hI M x1 rfl) (cw_MM_255 S.2.2.2.2 (Nat.le_trans (Nat.le_of_ble_eq_true rfl) hR.1) (Nat.le_trans (Nat.le_of_ble_eq_true rfl) hR.2)) rfl hl.1 rfl (Nat.le_of_ble_eq_true rfl) d_MM_parted_62 ⟨Nat.zero_le _, Nat.zero_le _⟩ (fun H locs hH => ?_)
        refine lv_icmp_lt (tgt := 71) hx hb d_MM_parted_65 (by decide) (fun hc => ?_) (fun hc => ?_)
        · replace hf1 := o_t hc hf1
          exact J71 _ _ _ _ _ _ hf1 hH (lv_sub hl [0, 1, 2, 3] rfl)
        · replace hf1 := o_f hc hf1
          refine lv_goto (tgt := 110) hx hb d_MM_parted_68 (by decide) ?_
          refine lv_iinc (v := x3 + (1 : Int32)) (lv' := [(3, .int (x3 + (1 : Int32))), (0, .ref (Z.2.2.1 0)), (1, .int x1), (2, .int x2)]) hx hb d_MM_parted_110 hl (k := 3) rfl rfl (by decide) rfl (fun ls hl => ?_)
          refine lv_goto (tgt := 46) hx hb d_MM_parted_113 (by decide) ?_
          exact hG1 _ (o_v hf1).symm _ _ _ hH (lv_sub hl [1, 2, 3, 0] rfl)
  refine lv_aload_n hx hb d_MM_parted_0 rfl (lv_at hl 0 rfl) ?_
  refine g_MM_9 S hX hH hZ d_MM_parted_1 ?_
  refine lv_iconst (v := (0 : Int32)) hx hb d_MM_parted_4 (by decide) ?_
  refine q_iald (j := 0) hx hb hX hH (aa_MM_1 hZ) (vp_c (by decide)) (by decide) d_MM_parted_5 ?_
  refine lv_if_ne (tgt := 11) hx hb d_MM_parted_6 (by decide) (fun hc => ?_) (fun hc => ?_)
  · replace hf0 := o_f hc hf0
    refine lv_aload_n hx hb d_MM_parted_11 rfl (lv_at hl 0 rfl) ?_
    refine g_MM_9 S hX hH hZ d_MM_parted_12 ?_
    refine lv_iconst (v := (0 : Int32)) hx hb d_MM_parted_15 (by decide) ?_
    refine lv_aload_n hx hb d_MM_parted_16 rfl (lv_at hl 0 rfl) ?_
    refine g_MM_16 S hX hH hZ d_MM_parted_17 ?_
    refine lv_iconst (v := (0 : Int32)) hx hb d_MM_parted_20 (by decide) ?_
    obtain ⟨M12, hc11, hf0⟩ := o_b hf0
    refine q_cSv (As := [.ref (Z.2.2.1 1), .int (0 : Int32), .ref (Z.2.2.1 3), .int (0 : Int32)]) (rest := []) S hX hH (c_MM_moves l hI 1 302 3 302 M (0 : Int32) (0 : Int32) (aa_MM_1 hZ) (aa_MM_3 hZ) hc11) (cw_MM_190 S.2.2.2.2 (Nat.le_trans (Nat.le_of_ble_eq_true rfl) hR.1) (Nat.le_trans (Nat.le_of_ble_eq_true rfl) hR.2)) rfl hl.1 rfl (Nat.le_of_ble_eq_true rfl) d_MM_parted_21 ⟨Nat.zero_le _, Nat.zero_le _⟩ (fun H locs hH => ?_)
    refine lv_bipush (v := (-2 : Int32)) hx hb d_MM_parted_24 (by decide) ?_
    refine lv_istore_n (lv' := [(1, .int (-2 : Int32)), (0, .ref (Z.2.2.1 0))]) hx hb d_MM_parted_26 rfl hl (by decide) rfl (fun ls hl => ?_)
    refine lv_iconst (v := (1 : Int32)) hx hb d_MM_parted_27 (by decide) ?_
    refine lv_bipush (v := (6 : Int32)) hx hb d_MM_parted_28 (by decide) ?_
    refine lv_aload_n hx hb d_MM_parted_30 rfl (lv_at hl 1 rfl) ?_
    refine g_MM_9 S hX hH hZ d_MM_parted_31 ?_
    refine lv_bipush (v := (7 : Int32)) hx hb d_MM_parted_34 (by decide) ?_
    refine q_iald (j := 7) hx hb hX hH (aa_MM_1 hZ) (vp_c (by decide)) (by decide) d_MM_parted_36 ?_
    refine q_min S hl.1 w5_105 w2_61 w1_9 w2_62 (Nat.le_trans (Nat.le_of_ble_eq_true rfl) hR.1) (Nat.le_trans (Nat.le_of_ble_eq_true rfl) hR.2) d_MM_parted_37 ?_
    refine lv_ishl hx hb d_MM_parted_40 ?_
    refine lv_iconst (v := (1 : Int32)) hx hb d_MM_parted_41 (by decide) ?_
    refine lv_isub hx hb d_MM_parted_42 ?_
    refine lv_istore_n (lv' := [(2, .int (((1 : Int32) <<< ((miI (6 : Int32) (M12 1 7)) &&& 31)) - (1 : Int32))), (1, .int (-2 : Int32)), (0, .ref (Z.2.2.1 0))]) hx hb d_MM_parted_43 rfl hl (by decide) rfl (fun ls hl => ?_)
    refine lv_iconst (v := (0 : Int32)) hx hb d_MM_parted_44 (by decide) ?_
    refine lv_istore_n (lv' := [(3, .int (0 : Int32)), (2, .int (((1 : Int32) <<< ((miI (6 : Int32) (M12 1 7)) &&& 31)) - (1 : Int32))), (1, .int (-2 : Int32)), (0, .ref (Z.2.2.1 0))]) hx hb d_MM_parted_45 rfl hl (by decide) rfl (fun ls hl => ?_)
    exact J46 _ _ _ _ _ _ _ hf0 hH (lv_sub hl [3, 2, 1, 0] rfl)
  · replace hf0 := o_t hc hf0
    refine lv_iconst (v := (-1 : Int32)) hx hb d_MM_parted_9 (by decide) ?_
    obtain ⟨rfl, rfl⟩ := o_p hf0
    exact hQ _ _ _ _ hH d_MM_parted_10
theorem c_MM_parted (l : Launch) {Z : WD} (hI : wI Z) (hZ : IsM Z) (M : Mem) {r : Int32} {M' : Mem} (hf : f_MM_parted M = some (r, M')) : Ci l Z y_MM_parted b_MM_parted 4 (some .int) 6 148 [.ref (Z.2.2.1 0)] M M' r := by
  refine Met.ofW (cc := b_MM_parted) (maxL := 4) (ret := (some .int)) (by decide) rfl ?_
  intro p e s m args below meth c s₁ B hml hv
  obtain ⟨rfl, hP, hX⟩ := hv
  have S : CallFix p m c b_MM_parted 4 s ([.ref (Z.2.2.1 0)] : List Value).toArray gtb R_MM := ⟨B.exec, B.bytes, hml, findClass_of_methodNamed B.named, fun w hw => atoms_spec (ws := .code y_MM_parted b_MM_parted 4 (some .int) :: gtb) B.pre w (List.mem_cons_of_mem _ hw)⟩
  have hl := lv_entry ([.ref (Z.2.2.1 0)]) (n := 4) (Nat.le_of_ble_eq_true rfl)
  rw [lg_entry_eq]
  exact wk_MM_parted hI hZ M S hX ⟨Nat.le_refl _, Nat.le_refl _⟩ (fun pc H locs ls hH d => q_ri S.1 S.2.1 B.returns B.notSynchronized hH rfl rfl d) hf ⟨hP, va_S.rf⟩ hl
noncomputable def f_MM_marksDecisions_L6 (x1 : Int32) (M : Mem) : Option ((Int32 × Mem) ⊕ Mem) := if (M 1 0) ≤ x1 then bnd (f_MM_moves 1 302 3 302 M (0 : Int32) (0 : Int32)) (fun M2 => some (.inr M2)) else 
    bnd (f_MM_decisionOf M x1) (fun y4 => gIn x1 8 (lt1 (upM M 20 x1.toNatClampNeg y4) (fun M6 => some (.inl (x1 + (1 : Int32), M6)))))
noncomputable def f_MM_marksDecisions_W6  (u : (Int32 × Mem)) : Option Mem := loop (fun t => f_MM_marksDecisions_L6 t.1 t.2) u
noncomputable def f_MM_marksDecisions_J6 (M : Mem) (x1 : Int32) : Option (Mem) := bnd (f_MM_marksDecisions_W6 (x1, M)) (fun e6 => some e6)
noncomputable def f_MM_marksDecisions (M : Mem) : Option Mem := bnd (f_MM_runs M) (fun M8 => f_MM_marksDecisions_J6 M8 (0 : Int32))
set_option maxHeartbeats 4000000 in
theorem wk_MM_marksDecisions {l : Launch} {Z : WD} (hI : wI Z) (hZ : IsM Z) (M : Mem) {M' : Mem} {p : Program} {e : Env} {R : Room} {s : State} {m : MethodId} {args : Array Value} {below : List Frame} {meth : Method} {c : Code} {H : Heap} {locs : List Loc} {ls : Array Slot} {Q : State → Prop} (S : CallFix p m c b_MM_marksDecisions 2 s args gtb R_MM) (hX : wX Z s) (hR : 6 ≤ R.frames ∧ 148 ≤ R.locals) (hQ : ∀ (pc : Nat) (H : Heap) (locs : List Loc) (ls : Array Slot), HW Z M' s H locs → decode b_MM_marksDecisions pc = .ok (.return_, 1) → W p l e R s m args below meth c H locs 0 0 Q (F0 m pc ls [])) (hf0 : f_MM_marksDecisions M = some M') (hH : HW Z M s H locs) (hl : lv_has ls 2 [(0, .ref (Z.2.2.1 0))]) : W p l e R s m args below meth c H locs 0 0 Q (F0 m 0 ls []) := by
  have hx := S.1
  have hb := S.2.1
  have hown := S.2.2.2.1
  have ht := S.2.2.2.2
  unfold f_MM_marksDecisions at hf0
  have J6 : ∀ (M : Mem) (x1 : Int32) (H : Heap) (locs : List Loc) (ls : Array Slot), f_MM_marksDecisions_J6 M x1 = some M' → HW Z M s H locs → lv_has ls 2 [(0, .ref (Z.2.2.1 0)), (1, .int x1)] → W p l e R s m args below meth c H locs 0 0 Q (F0 m 6 ls []) := by
    intro M x1 H locs ls hf0 hH hl
    unfold f_MM_marksDecisions_J6 at hf0
    obtain ⟨e6, he6, hf0⟩ := o_b hf0
    unfold f_MM_marksDecisions_W6 at he6
    refine loop_W (fun t => ∀ (H : Heap) (locs : List Loc) (ls : Array Slot), HW Z t.2 s H locs → lv_has ls 2 [(0, .ref (Z.2.2.1 0)), (1, .int t.1)] → W p l e R s m args below meth c H locs 0 0 Q (F0 m 6 ls [])) ?_ he6 H locs ls hH hl
    rintro ⟨x1, M⟩ o1 hf1 hG1 hR1 H locs ls hH hl
    replace hH : HW Z M s H locs := hH
    replace hl : lv_has ls 2 [(0, .ref (Z.2.2.1 0)), (1, .int x1)] := hl
    replace hf1 : f_MM_marksDecisions_L6 x1 M = some o1 := hf1
    unfold f_MM_marksDecisions_L6 at hf1
    refine lv_iload_n hx hb d_MM_marksDecisions_6 rfl (lv_at hl 1 rfl) ?_
    refine lv_aload_n hx hb d_MM_marksDecisions_7 rfl (lv_at hl 0 rfl) ?_
    refine g_MM_9 S hX hH hZ d_MM_marksDecisions_8 ?_
    refine lv_iconst (v := (0 : Int32)) hx hb d_MM_marksDecisions_11 (by decide) ?_
    refine q_iald (j := 0) hx hb hX hH (aa_MM_1 hZ) (vp_c (by decide)) (by decide) d_MM_marksDecisions_12 ?_
    refine lv_icmp_ge (tgt := 33) hx hb d_MM_marksDecisions_13 (by decide) (fun hc => ?_) (fun hc => ?_)
    · replace hf1 := o_t hc hf1
      refine lv_aload_n hx hb d_MM_marksDecisions_33 rfl (lv_at hl 0 rfl) ?_
      refine g_MM_9 S hX hH hZ d_MM_marksDecisions_34 ?_
      refine lv_iconst (v := (0 : Int32)) hx hb d_MM_marksDecisions_37 (by decide) ?_
      refine lv_aload_n hx hb d_MM_marksDecisions_38 rfl (lv_at hl 0 rfl) ?_
      refine g_MM_16 S hX hH hZ d_MM_marksDecisions_39 ?_
      refine lv_iconst (v := (0 : Int32)) hx hb d_MM_marksDecisions_42 (by decide) ?_
      obtain ⟨M2, hc1, hf1⟩ := o_b hf1
      refine q_cSv (As := [.ref (Z.2.2.1 1), .int (0 : Int32), .ref (Z.2.2.1 3), .int (0 : Int32)]) (rest := []) S hX hH (c_MM_moves l hI 1 302 3 302 M (0 : Int32) (0 : Int32) (aa_MM_1 hZ) (aa_MM_3 hZ) hc1) (cw_MM_190 S.2.2.2.2 (Nat.le_trans (Nat.le_of_ble_eq_true rfl) hR.1) (Nat.le_trans (Nat.le_of_ble_eq_true rfl) hR.2)) rfl hl.1 rfl (Nat.le_of_ble_eq_true rfl) d_MM_marksDecisions_43 ⟨Nat.zero_le _, Nat.zero_le _⟩ (fun H locs hH => ?_)
      obtain rfl := hR1 _ (o_v hf1).symm
      obtain rfl := o_v hf0
      exact hQ _ _ _ _ hH d_MM_marksDecisions_46
    · replace hf1 := o_f hc hf1
      refine lv_aload_n hx hb d_MM_marksDecisions_16 rfl (lv_at hl 0 rfl) ?_
      refine g_MM_69 S hX hH hZ d_MM_marksDecisions_17 ?_
      refine lv_iload_n hx hb d_MM_marksDecisions_20 rfl (lv_at hl 1 rfl) ?_
      refine lv_aload_n hx hb d_MM_marksDecisions_21 rfl (lv_at hl 0 rfl) ?_
      refine lv_iload_n hx hb d_MM_marksDecisions_22 rfl (lv_at hl 1 rfl) ?_
      obtain ⟨y4, hc3, hf1⟩ := o_b hf1
      refine q_cVi (As := [.int x1]) (rest := [.int x1, .ref (Z.2.2.1 20)]) S hX hH (c_MM_decisionOf l hI hZ M x1 hc3) (cw_MM_318 S.2.2.2.2 (Nat.le_trans (Nat.le_of_ble_eq_true rfl) hR.1) (Nat.le_trans (Nat.le_of_ble_eq_true rfl) hR.2)) (rc_MM hX hH hZ) rfl hl.1 rfl (Nat.le_of_ble_eq_true rfl) d_MM_marksDecisions_23 ⟨Nat.zero_le _, Nat.zero_le _⟩ (fun H locs hH => ?_)
      obtain ⟨hn5, hf1⟩ := o_in hf1
      obtain ⟨M6, hM6, hf1⟩ := o_l hf1
      refine q_iast (j := x1.toNatClampNeg) hx hb hX hI hH (aa_MM_20 hZ) hn5 rfl d_MM_marksDecisions_26 (fun H locs hH => ?_)
      rw [hM6] at hH
      refine lv_iinc (v := x1 + (1 : Int32)) (lv' := [(1, .int (x1 + (1 : Int32))), (0, .ref (Z.2.2.1 0))]) hx hb d_MM_marksDecisions_27 hl (k := 1) rfl rfl (by decide) rfl (fun ls hl => ?_)
      refine lv_goto (tgt := 6) hx hb d_MM_marksDecisions_30 (by decide) ?_
      exact hG1 _ (o_v hf1).symm _ _ _ hH (lv_sub hl [1, 0] rfl)
  refine lv_aload_n hx hb d_MM_marksDecisions_0 rfl (lv_at hl 0 rfl) ?_
  obtain ⟨M8, hc7, hf0⟩ := o_b hf0
  refine q_cVv (As := []) (rest := []) S hX hH (c_MM_runs l hI hZ M hc7) (cw_MM_321 S.2.2.2.2 (Nat.le_trans (Nat.le_of_ble_eq_true rfl) hR.1) (Nat.le_trans (Nat.le_of_ble_eq_true rfl) hR.2)) (rc_MM hX hH hZ) rfl hl.1 rfl (Nat.le_of_ble_eq_true rfl) d_MM_marksDecisions_1 ⟨Nat.zero_le _, Nat.zero_le _⟩ (fun H locs hH => ?_)
  refine lv_iconst (v := (0 : Int32)) hx hb d_MM_marksDecisions_4 (by decide) ?_
  refine lv_istore_n (lv' := [(1, .int (0 : Int32)), (0, .ref (Z.2.2.1 0))]) hx hb d_MM_marksDecisions_5 rfl hl (by decide) rfl (fun ls hl => ?_)
  exact J6 _ _ _ _ _ hf0 hH (lv_sub hl [1, 0] rfl)
theorem c_MM_marksDecisions (l : Launch) {Z : WD} (hI : wI Z) (hZ : IsM Z) (M : Mem) {M' : Mem} (hf : f_MM_marksDecisions M = some M') : Cv l Z y_MM_marksDecisions b_MM_marksDecisions 2 none 6 148 [.ref (Z.2.2.1 0)] M M' := by
  refine Met.ofW (cc := b_MM_marksDecisions) (maxL := 2) (ret := none) (by decide) rfl ?_
  intro p e s m args below meth c s₁ B hml hv
  obtain ⟨rfl, hP, hX⟩ := hv
  have S : CallFix p m c b_MM_marksDecisions 2 s ([.ref (Z.2.2.1 0)] : List Value).toArray gtb R_MM := ⟨B.exec, B.bytes, hml, findClass_of_methodNamed B.named, fun w hw => atoms_spec (ws := .code y_MM_marksDecisions b_MM_marksDecisions 2 none :: gtb) B.pre w (List.mem_cons_of_mem _ hw)⟩
  have hl := lv_entry ([.ref (Z.2.2.1 0)]) (n := 2) (Nat.le_of_ble_eq_true rfl)
  rw [lg_entry_eq]
  exact wk_MM_marksDecisions hI hZ M S hX ⟨Nat.le_refl _, Nat.le_refl _⟩ (fun pc H locs ls hH d => q_rv S.1 S.2.1 B.returns B.notSynchronized hH rfl d) hf ⟨hP, va_S.rf⟩ hl
noncomputable def f_MM_faultsAside (M : Mem) (x1 : Int32) (x2 : Int32) (x3 : Int32) (x4 : Int32) : Option Mem := 
    lt1 (upM M 0 28 x1) (fun M1 => 
    lt1 (upM M1 0 29 x2) (fun M2 => lt1 (upM M2 0 30 x3) (fun M3 => lt1 (upM M3 0 31 x4) (fun M4 => some M4))))
set_option maxHeartbeats 4000000 in
theorem wk_MM_faultsAside {l : Launch} {Z : WD} (hI : wI Z) (hZ : IsM Z) (M : Mem) (x1 : Int32) (x2 : Int32) (x3 : Int32) (x4 : Int32) {M' : Mem} {p : Program} {e : Env} {R : Room} {s : State} {m : MethodId} {args : Array Value} {below : List Frame} {meth : Method} {c : Code} {H : Heap} {locs : List Loc} {ls : Array Slot} {Q : State → Prop} (S : CallFix p m c b_MM_faultsAside 5 s args gtb R_MM) (hX : wX Z s) (hR : 0 ≤ R.frames ∧ 0 ≤ R.locals) (hQ : ∀ (pc : Nat) (H : Heap) (locs : List Loc) (ls : Array Slot), HW Z M' s H locs → decode b_MM_faultsAside pc = .ok (.return_, 1) → W p l e R s m args below meth c H locs 0 0 Q (F0 m pc ls [])) (hf0 : f_MM_faultsAside M x1 x2 x3 x4 = some M') (hH : HW Z M s H locs) (hl : lv_has ls 5 [(0, .ref (Z.2.2.1 0)), (1, .int x1), (2, .int x2), (3, .int x3), (4, .int x4)]) : W p l e R s m args below meth c H locs 0 0 Q (F0 m 0 ls []) := by
  have hx := S.1
  have hb := S.2.1
  have hown := S.2.2.2.1
  have ht := S.2.2.2.2
  unfold f_MM_faultsAside at hf0
  refine lv_aload_n hx hb d_MM_faultsAside_0 rfl (lv_at hl 0 rfl) ?_
  refine lv_iload_n hx hb d_MM_faultsAside_1 rfl (lv_at hl 1 rfl) ?_
  obtain ⟨M1, hM1, hf0⟩ := o_l hf0
  refine s_MM_72 S hX hI hH hZ d_MM_faultsAside_2 (fun H locs hH => ?_)
  rw [hM1] at hH
  refine lv_aload_n hx hb d_MM_faultsAside_5 rfl (lv_at hl 0 rfl) ?_
  refine lv_iload_n hx hb d_MM_faultsAside_6 rfl (lv_at hl 2 rfl) ?_
  obtain ⟨M2, hM2, hf0⟩ := o_l hf0
  refine s_MM_267 S hX hI hH hZ d_MM_faultsAside_7 (fun H locs hH => ?_)
  rw [hM2] at hH
  refine lv_aload_n hx hb d_MM_faultsAside_10 rfl (lv_at hl 0 rfl) ?_
  refine lv_iload_n hx hb d_MM_faultsAside_11 rfl (lv_at hl 3 rfl) ?_
  obtain ⟨M3, hM3, hf0⟩ := o_l hf0
  refine s_MM_270 S hX hI hH hZ d_MM_faultsAside_12 (fun H locs hH => ?_)
  rw [hM3] at hH
  refine lv_aload_n hx hb d_MM_faultsAside_15 rfl (lv_at hl 0 rfl) ?_
  refine lv_iload hx hb d_MM_faultsAside_16 (lv_at hl 4 rfl) ?_
  obtain ⟨M4, hM4, hf0⟩ := o_l hf0
  refine s_MM_273 S hX hI hH hZ d_MM_faultsAside_18 (fun H locs hH => ?_)
  rw [hM4] at hH
  obtain rfl := o_v hf0
  exact hQ _ _ _ _ hH d_MM_faultsAside_21
theorem c_MM_faultsAside (l : Launch) {Z : WD} (hI : wI Z) (hZ : IsM Z) (M : Mem) (x1 : Int32) (x2 : Int32) (x3 : Int32) (x4 : Int32) {M' : Mem} (hf : f_MM_faultsAside M x1 x2 x3 x4 = some M') : Cv l Z y_MM_faultsAside b_MM_faultsAside 5 none 0 0 [.ref (Z.2.2.1 0), .int x1, .int x2, .int x3, .int x4] M M' := by
  refine Met.ofW (cc := b_MM_faultsAside) (maxL := 5) (ret := none) (by decide) rfl ?_
  intro p e s m args below meth c s₁ B hml hv
  obtain ⟨rfl, hP, hX⟩ := hv
  have S : CallFix p m c b_MM_faultsAside 5 s ([.ref (Z.2.2.1 0), .int x1, .int x2, .int x3, .int x4] : List Value).toArray gtb R_MM := ⟨B.exec, B.bytes, hml, findClass_of_methodNamed B.named, fun w hw => atoms_spec (ws := .code y_MM_faultsAside b_MM_faultsAside 5 none :: gtb) B.pre w (List.mem_cons_of_mem _ hw)⟩
  have hl := lv_entry ([.ref (Z.2.2.1 0), .int x1, .int x2, .int x3, .int x4]) (n := 5) (Nat.le_of_ble_eq_true rfl)
  rw [lg_entry_eq]
  exact wk_MM_faultsAside hI hZ M x1 x2 x3 x4 S hX ⟨Nat.le_refl _, Nat.le_refl _⟩ (fun pc H locs ls hH d => q_rv S.1 S.2.1 B.returns B.notSynchronized hH rfl d) hf ⟨hP, va_S.rf⟩ hl
noncomputable def f_MM_isAsItWas_J48 (M : Mem) (x2 : Int32) : Option ((Int32 × Int32) ⊕ (Bool × Mem)) := some (.inl ((0 : Int32), x2 + (1 : Int32)))
noncomputable def f_MM_isAsItWas_J44 (M : Mem) (x2 : Int32) : Option ((Int32 × Int32) ⊕ (Bool × Mem)) := some (.inl ((1 : Int32), x2 + (1 : Int32)))
noncomputable def f_MM_isAsItWas_L8 (M : Mem) (x1 : Int32) (x2 : Int32) : Option ((Int32 × Int32) ⊕ (Bool × Mem)) := if (M 1 0) ≤ x2 then 
    bnd (f_MM_moves 3 302 1 302 M (0 : Int32) (0 : Int32)) (fun M2 => if x1 = 0 then some (.inr (false, M2)) else if x1 = 1 then some (.inr (true, M2)) else none) else 
    if x1 = 0 then f_MM_isAsItWas_J48 M x2 else 
    if (bI (f_MM_isLiar M x2)) = 0 then 
    bnd (f_MM_decisionOf M x2) (fun y4 => gIn x2 8 (if y4 = (M 20 x2.toNatClampNeg) then f_MM_isAsItWas_J44 M x2 else f_MM_isAsItWas_J48 M x2)) else f_MM_isAsItWas_J44 M x2
noncomputable def f_MM_isAsItWas_W8 (M : Mem) (u : (Int32 × Int32)) : Option (Bool × Mem) := loop (fun t => f_MM_isAsItWas_L8 M t.1 t.2) u
noncomputable def f_MM_isAsItWas_J8 (M : Mem) (x1 : Int32) (x2 : Int32) : Option (Bool × Mem) := bnd (f_MM_isAsItWas_W8 M (x1, x2)) (fun e8 => some e8)
noncomputable def f_MM_isAsItWas (M : Mem) : Option (Bool × Mem) := bnd (f_MM_runs M) (fun M7 => f_MM_isAsItWas_J8 M7 (1 : Int32) (0 : Int32))
set_option maxHeartbeats 4000000 in
theorem wk_MM_isAsItWas {l : Launch} {Z : WD} (hI : wI Z) (hZ : IsM Z) (M : Mem) {r : Bool} {M' : Mem} {p : Program} {e : Env} {R : Room} {s : State} {m : MethodId} {args : Array Value} {below : List Frame} {meth : Method} {c : Code} {H : Heap} {locs : List Loc} {ls : Array Slot} {Q : State → Prop} (S : CallFix p m c b_MM_isAsItWas 3 s args gtb R_MM) (hX : wX Z s) (hR : 6 ≤ R.frames ∧ 148 ≤ R.locals) (hQ : ∀ (pc : Nat) (H : Heap) (locs : List Loc) (ls : Array Slot), HW Z M' s H locs → decode b_MM_isAsItWas pc = .ok (.ireturn, 1) → W p l e R s m args below meth c H locs 0 0 Q (F0 m pc ls [.int (bI r)])) (hf0 : f_MM_isAsItWas M = some (r, M')) (hH : HW Z M s H locs) (hl : lv_has ls 3 [(0, .ref (Z.2.2.1 0))]) : W p l e R s m args below meth c H locs 0 0 Q (F0 m 0 ls []) := by
  have hx := S.1
  have hb := S.2.1
  have hown := S.2.2.2.1
  have ht := S.2.2.2.2
  unfold f_MM_isAsItWas at hf0
  have J8 : ∀ (M : Mem) (x1 : Int32) (x2 : Int32) (H : Heap) (locs : List Loc) (ls : Array Slot), f_MM_isAsItWas_J8 M x1 x2 = some (r, M') → HW Z M s H locs → lv_has ls 3 [(0, .ref (Z.2.2.1 0)), (1, .int x1), (2, .int x2)] → W p l e R s m args below meth c H locs 0 0 Q (F0 m 8 ls []) := by
    intro M x1 x2 H locs ls hf0 hH hl
    unfold f_MM_isAsItWas_J8 at hf0
    obtain ⟨e8, he8, hf0⟩ := o_b hf0
    unfold f_MM_isAsItWas_W8 at he8
    refine loop_W (fun t => ∀ (H : Heap) (locs : List Loc) (ls : Array Slot), HW Z M s H locs → lv_has ls 3 [(0, .ref (Z.2.2.1 0)), (1, .int t.1), (2, .int t.2)] → W p l e R s m args below meth c H locs 0 0 Q (F0 m 8 ls [])) ?_ he8 H locs ls hH hl
    rintro ⟨x1, x2⟩ o1 hf1 hG1 hR1 H locs ls hH hl
    replace hH : HW Z M s H locs := hH
    replace hl : lv_has ls 3 [(0, .ref (Z.2.2.1 0)), (1, .int x1), (2, .int x2)] := hl
    replace hf1 : f_MM_isAsItWas_L8 M x1 x2 = some o1 := hf1
    unfold f_MM_isAsItWas_L8 at hf1
    have J48 : ∀ (x2 : Int32) (H : Heap) (locs : List Loc) (ls : Array Slot), f_MM_isAsItWas_J48 M x2 = some o1 → HW Z M s H locs → lv_has ls 3 [(0, .ref (Z.2.2.1 0)), (2, .int x2)] → W p l e R s m args below meth c H locs 0 0 Q (F0 m 48 ls []) := by
      intro x2 H locs ls hf1 hH hl
      unfold f_MM_isAsItWas_J48 at hf1
      refine lv_iconst (v := (0 : Int32)) hx hb d_MM_isAsItWas_48 (by decide) ?_
      refine lv_istore_n (lv' := [(1, .int (0 : Int32)), (0, .ref (Z.2.2.1 0)), (2, .int x2)]) hx hb d_MM_isAsItWas_49 rfl hl (by decide) rfl (fun ls hl => ?_)
      refine lv_iinc (v := x2 + (1 : Int32)) (lv' := [(2, .int (x2 + (1 : Int32))), (1, .int (0 : Int32)), (0, .ref (Z.2.2.1 0))]) hx hb d_MM_isAsItWas_50 hl (k := 2) rfl rfl (by decide) rfl (fun ls hl => ?_)
      refine lv_goto (tgt := 8) hx hb d_MM_isAsItWas_53 (by decide) ?_
      exact hG1 _ (o_v hf1).symm _ _ _ hH (lv_sub hl [2, 1, 0] rfl)
    have J44 : ∀ (x2 : Int32) (H : Heap) (locs : List Loc) (ls : Array Slot), f_MM_isAsItWas_J44 M x2 = some o1 → HW Z M s H locs → lv_has ls 3 [(0, .ref (Z.2.2.1 0)), (2, .int x2)] → W p l e R s m args below meth c H locs 0 0 Q (F0 m 44 ls []) := by
      intro x2 H locs ls hf1 hH hl
      unfold f_MM_isAsItWas_J44 at hf1
      refine lv_iconst (v := (1 : Int32)) hx hb d_MM_isAsItWas_44 (by decide) ?_
      refine lv_goto (tgt := 49) hx hb d_MM_isAsItWas_45 (by decide) ?_
      refine lv_istore_n (lv' := [(1, .int (1 : Int32)), (0, .ref (Z.2.2.1 0)), (2, .int x2)]) hx hb d_MM_isAsItWas_49 rfl hl (by decide) rfl (fun ls hl => ?_)
      refine lv_iinc (v := x2 + (1 : Int32)) (lv' := [(2, .int (x2 + (1 : Int32))), (1, .int (1 : Int32)), (0, .ref (Z.2.2.1 0))]) hx hb d_MM_isAsItWas_50 hl (k := 2) rfl rfl (by decide) rfl (fun ls hl => ?_)
      refine lv_goto (tgt := 8) hx hb d_MM_isAsItWas_53 (by decide) ?_
      exact hG1 _ (o_v hf1).symm _ _ _ hH (lv_sub hl [2, 1, 0] rfl)
    refine lv_iload_n hx hb d_MM_isAsItWas_8 rfl (lv_at hl 2 rfl) ?_
    refine lv_aload_n hx hb d_MM_isAsItWas_9 rfl (lv_at hl 0 rfl) ?_
    refine g_MM_9 S hX hH hZ d_MM_isAsItWas_10 ?_
    refine lv_iconst (v := (0 : Int32)) hx hb d_MM_isAsItWas_13 (by decide) ?_
    refine q_iald (j := 0) hx hb hX hH (aa_MM_1 hZ) (vp_c (by decide)) (by decide) d_MM_isAsItWas_14 ?_
    refine lv_icmp_ge (tgt := 56) hx hb d_MM_isAsItWas_15 (by decide) (fun hc => ?_) (fun hc => ?_)
    · replace hf1 := o_t hc hf1
      refine lv_aload_n hx hb d_MM_isAsItWas_56 rfl (lv_at hl 0 rfl) ?_
      refine g_MM_16 S hX hH hZ d_MM_isAsItWas_57 ?_
      refine lv_iconst (v := (0 : Int32)) hx hb d_MM_isAsItWas_60 (by decide) ?_
      refine lv_aload_n hx hb d_MM_isAsItWas_61 rfl (lv_at hl 0 rfl) ?_
      refine g_MM_9 S hX hH hZ d_MM_isAsItWas_62 ?_
      refine lv_iconst (v := (0 : Int32)) hx hb d_MM_isAsItWas_65 (by decide) ?_
      obtain ⟨M2, hc1, hf1⟩ := o_b hf1
      refine q_cSv (As := [.ref (Z.2.2.1 3), .int (0 : Int32), .ref (Z.2.2.1 1), .int (0 : Int32)]) (rest := []) S hX hH (c_MM_moves l hI 3 302 1 302 M (0 : Int32) (0 : Int32) (aa_MM_3 hZ) (aa_MM_1 hZ) hc1) (cw_MM_190 S.2.2.2.2 (Nat.le_trans (Nat.le_of_ble_eq_true rfl) hR.1) (Nat.le_trans (Nat.le_of_ble_eq_true rfl) hR.2)) rfl hl.1 rfl (Nat.le_of_ble_eq_true rfl) d_MM_isAsItWas_66 ⟨Nat.zero_le _, Nat.zero_le _⟩ (fun H locs hH => ?_)
      refine lv_iload_n hx hb d_MM_isAsItWas_69 rfl (lv_at hl 1 rfl) ?_
      by_cases hc : x1 = 0
      · replace hf1 := o_t hc hf1
        refine lv_nm hc ?_
        obtain rfl := hR1 _ (o_v hf1).symm
        obtain ⟨rfl, rfl⟩ := o_p hf0
        exact hQ _ _ _ _ hH d_MM_isAsItWas_70
      · replace hf1 := o_f hc hf1
        obtain ⟨hc, hf1⟩ := o_g hf1
        refine lv_nm hc ?_
        obtain rfl := hR1 _ (o_v hf1).symm
        obtain ⟨rfl, rfl⟩ := o_p hf0
        exact hQ _ _ _ _ hH d_MM_isAsItWas_70
    · replace hf1 := o_f hc hf1
      refine lv_iload_n hx hb d_MM_isAsItWas_18 rfl (lv_at hl 1 rfl) ?_
      refine lv_if_eq (tgt := 48) hx hb d_MM_isAsItWas_19 (by decide) (fun hc => ?_) (fun hc => ?_)
      · replace hf1 := o_t hc hf1
        exact J48 _ _ _ _ hf1 hH (lv_sub hl [0, 2] rfl)
      · replace hf1 := o_f hc hf1
        refine lv_aload_n hx hb d_MM_isAsItWas_22 rfl (lv_at hl 0 rfl) ?_
        refine lv_iload_n hx hb d_MM_isAsItWas_23 rfl (lv_at hl 2 rfl) ?_
        refine q_cVi (As := [.int x2]) (rest := []) S hX hH (c_MM_isLiar l hI hZ M x2 rfl) (cw_MM_205 S.2.2.2.2 (Nat.le_trans (Nat.le_of_ble_eq_true rfl) hR.1) (Nat.le_trans (Nat.le_of_ble_eq_true rfl) hR.2)) (rc_MM hX hH hZ) rfl hl.1 rfl (Nat.le_of_ble_eq_true rfl) d_MM_isAsItWas_24 ⟨Nat.zero_le _, Nat.zero_le _⟩ (fun H locs hH => ?_)
        refine lv_if_ne (tgt := 44) hx hb d_MM_isAsItWas_27 (by decide) (fun hc => ?_) (fun hc => ?_)
        · replace hf1 := o_f hc hf1
          exact J44 _ _ _ _ hf1 hH (lv_sub hl [0, 2] rfl)
        · replace hf1 := o_t hc hf1
          refine lv_aload_n hx hb d_MM_isAsItWas_30 rfl (lv_at hl 0 rfl) ?_
          refine lv_iload_n hx hb d_MM_isAsItWas_31 rfl (lv_at hl 2 rfl) ?_
          obtain ⟨y4, hc3, hf1⟩ := o_b hf1
          refine q_cVi (As := [.int x2]) (rest := []) S hX hH (c_MM_decisionOf l hI hZ M x2 hc3) (cw_MM_318 S.2.2.2.2 (Nat.le_trans (Nat.le_of_ble_eq_true rfl) hR.1) (Nat.le_trans (Nat.le_of_ble_eq_true rfl) hR.2)) (rc_MM hX hH hZ) rfl hl.1 rfl (Nat.le_of_ble_eq_true rfl) d_MM_isAsItWas_32 ⟨Nat.zero_le _, Nat.zero_le _⟩ (fun H locs hH => ?_)
          refine lv_aload_n hx hb d_MM_isAsItWas_35 rfl (lv_at hl 0 rfl) ?_
          refine g_MM_69 S hX hH hZ d_MM_isAsItWas_36 ?_
          refine lv_iload_n hx hb d_MM_isAsItWas_39 rfl (lv_at hl 2 rfl) ?_
          obtain ⟨hn5, hf1⟩ := o_in hf1
          refine q_iald (j := x2.toNatClampNeg) hx hb hX hH (aa_MM_20 hZ) hn5 rfl d_MM_isAsItWas_40 ?_
          refine lv_icmp_ne (tgt := 48) hx hb d_MM_isAsItWas_41 (by decide) (fun hc => ?_) (fun hc => ?_)
          · replace hf1 := o_f hc hf1
            exact J48 _ _ _ _ hf1 hH (lv_sub hl [0, 2] rfl)
          · replace hf1 := o_t hc hf1
            exact J44 _ _ _ _ hf1 hH (lv_sub hl [0, 2] rfl)
  refine lv_aload_n hx hb d_MM_isAsItWas_0 rfl (lv_at hl 0 rfl) ?_
  obtain ⟨M7, hc6, hf0⟩ := o_b hf0
  refine q_cVv (As := []) (rest := []) S hX hH (c_MM_runs l hI hZ M hc6) (cw_MM_321 S.2.2.2.2 (Nat.le_trans (Nat.le_of_ble_eq_true rfl) hR.1) (Nat.le_trans (Nat.le_of_ble_eq_true rfl) hR.2)) (rc_MM hX hH hZ) rfl hl.1 rfl (Nat.le_of_ble_eq_true rfl) d_MM_isAsItWas_1 ⟨Nat.zero_le _, Nat.zero_le _⟩ (fun H locs hH => ?_)
  refine lv_iconst (v := (1 : Int32)) hx hb d_MM_isAsItWas_4 (by decide) ?_
  refine lv_istore_n (lv' := [(1, .int (1 : Int32)), (0, .ref (Z.2.2.1 0))]) hx hb d_MM_isAsItWas_5 rfl hl (by decide) rfl (fun ls hl => ?_)
  refine lv_iconst (v := (0 : Int32)) hx hb d_MM_isAsItWas_6 (by decide) ?_
  refine lv_istore_n (lv' := [(2, .int (0 : Int32)), (1, .int (1 : Int32)), (0, .ref (Z.2.2.1 0))]) hx hb d_MM_isAsItWas_7 rfl hl (by decide) rfl (fun ls hl => ?_)
  exact J8 _ _ _ _ _ _ hf0 hH (lv_sub hl [2, 1, 0] rfl)
theorem c_MM_isAsItWas (l : Launch) {Z : WD} (hI : wI Z) (hZ : IsM Z) (M : Mem) {r : Bool} {M' : Mem} (hf : f_MM_isAsItWas M = some (r, M')) : Ci l Z y_MM_isAsItWas b_MM_isAsItWas 3 (some .boolean) 6 148 [.ref (Z.2.2.1 0)] M M' (bI r) := by
  refine Met.ofW (cc := b_MM_isAsItWas) (maxL := 3) (ret := (some .boolean)) (by decide) rfl ?_
  intro p e s m args below meth c s₁ B hml hv
  obtain ⟨rfl, hP, hX⟩ := hv
  have S : CallFix p m c b_MM_isAsItWas 3 s ([.ref (Z.2.2.1 0)] : List Value).toArray gtb R_MM := ⟨B.exec, B.bytes, hml, findClass_of_methodNamed B.named, fun w hw => atoms_spec (ws := .code y_MM_isAsItWas b_MM_isAsItWas 3 (some .boolean) :: gtb) B.pre w (List.mem_cons_of_mem _ hw)⟩
  have hl := lv_entry ([.ref (Z.2.2.1 0)]) (n := 3) (Nat.le_of_ble_eq_true rfl)
  rw [lg_entry_eq]
  exact wk_MM_isAsItWas hI hZ M S hX ⟨Nat.le_refl _, Nat.le_refl _⟩ (fun pc H locs ls hH d => q_rz S.1 S.2.1 B.returns B.notSynchronized hH rfl rfl d) hf ⟨hP, va_S.rf⟩ hl
theorem cw_MM_347 {R : Room} {s : State} {args : Array Value} (ht : ∀ w ∈ gtb, w.before args s = true) (h1 : 6 + 1 ≤ R.frames) (h2 : 8 + (3 + 11) + 148 ≤ R.locals) : CallW R s args R_MM R_MM 347 y_MM_isAsItWas b_MM_isAsItWas 3 (some .boolean) (.code y_MM_isAsItWas b_MM_isAsItWas 3 (some .boolean) :: gtb) { frames := 6, cells := 0, slots := 0, locals := 148 } 0 0 0 := cwV 0 ht (gV w6_150 w6_152 ws_MM_isAsItWas w1_10 w6_153) rfl rfl rfl ⟨rfl, by decide, by decide, by decide +kernel⟩ ⟨h1, h2⟩
theorem cw_MM_344 {R : Room} {s : State} {args : Array Value} (ht : ∀ w ∈ gtb, w.before args s = true) (h1 : 0 + 1 ≤ R.frames) (h2 : 8 + (5 + 11) + 0 ≤ R.locals) : CallW R s args R_MM R_MM 344 y_MM_faultsAside b_MM_faultsAside 5 none (.code y_MM_faultsAside b_MM_faultsAside 5 none :: gtb) { frames := 0, cells := 0, slots := 0, locals := 0 } 0 0 4 := cwV 4 ht (gV w6_146 w6_148 ws_MM_faultsAside w1_10 w6_149) rfl rfl rfl ⟨rfl, by decide, by decide, by decide +kernel⟩ ⟨h1, h2⟩
theorem cw_MM_341 {R : Room} {s : State} {args : Array Value} (ht : ∀ w ∈ gtb, w.before args s = true) (h1 : 6 + 1 ≤ R.frames) (h2 : 8 + (2 + 11) + 148 ≤ R.locals) : CallW R s args R_MM R_MM 341 y_MM_marksDecisions b_MM_marksDecisions 2 none (.code y_MM_marksDecisions b_MM_marksDecisions 2 none :: gtb) { frames := 6, cells := 0, slots := 0, locals := 148 } 0 0 0 := cwV 0 ht (gV w6_142 w6_144 ws_MM_marksDecisions w1_10 w6_145) rfl rfl rfl ⟨rfl, by decide, by decide, by decide +kernel⟩ ⟨h1, h2⟩
noncomputable def f_MM_slack_J121 (M : Mem) (x1 : Int32) (x2 : Int32) (x3 : Int32) (x5 : Int32) (x6 : Int32) (s0 : Int32) : Option ((Int32 × Int32 × Int32 × Mem) ⊕ (Int32 × Mem)) := lt1 (upM M 0 28 (-1 : Int32)) (fun M1 => some (.inl (s0, x5, x6 + (1 : Int32), M1)))
noncomputable def f_MM_slack_J103 (M : Mem) (x1 : Int32) (x2 : Int32) (x3 : Int32) (x4 : Int32) (x6 : Int32) : Option ((Int32 × Int32 × Int32 × Mem) ⊕ (Int32 × Mem)) := bnd2 (f_MM_isAsItWas M) (fun y4 M3 => 
    if (bI y4) = 0 then f_MM_slack_J121 M3 x1 x2 x3 (bI y4) x6 x4 else f_MM_slack_J121 M3 x1 x2 x3 (bI y4) x6 x6)
noncomputable def f_MM_slack_L52 (x1 : Int32) (x2 : Int32) (x3 : Int32) (x7 : Int32) (M : Mem) : Option ((Int32 × Mem) ⊕ Mem) := if (3 : Int32) ≤ x7 then some (.inr M) else 
    bnd (f_MM_faultOf M x7 x1 x2 x3) (fun y6 => 
    if y6 = (-1 : Int32) then some (.inl (x7 + (1 : Int32), M)) else bnd (f_MM_takesOut M x7 y6) (fun M8 => some (.inl (x7 + (1 : Int32), M8))))
noncomputable def f_MM_slack_W52 (x1 : Int32) (x2 : Int32) (x3 : Int32) (u : (Int32 × Mem)) : Option Mem := loop (fun t => f_MM_slack_L52 x1 x2 x3 t.1 t.2) u
noncomputable def f_MM_slack_J52 (M : Mem) (x1 : Int32) (x2 : Int32) (x3 : Int32) (x4 : Int32) (x6 : Int32) (x7 : Int32) : Option ((Int32 × Int32 × Int32 × Mem) ⊕ (Int32 × Mem)) := bnd (f_MM_slack_W52 x1 x2 x3 (x7, M)) (fun e52 => if x6 ≤ 0 then f_MM_slack_J103 e52 x1 x2 x3 x4 x6 else bnd (f_MM_faultsAside e52 x1 x2 x3 x6) (fun M10 => f_MM_slack_J103 M10 x1 x2 x3 x4 x6))
noncomputable def f_MM_slack_L37 (x1 : Int32) (x2 : Int32) (x3 : Int32) (x4 : Int32) (x5 : Int32) (x6 : Int32) (M : Mem) : Option ((Int32 × Int32 × Int32 × Mem) ⊕ (Int32 × Mem)) := if (8 : Int32) ≤ x6 then some (.inr (x4, M)) else if x5 = 0 then some (.inr (x4, M)) else f_MM_slack_J52 M x1 x2 x3 x4 x6 (1 : Int32)
noncomputable def f_MM_slack_W37 (x1 : Int32) (x2 : Int32) (x3 : Int32) (u : (Int32 × Int32 × Int32 × Mem)) : Option (Int32 × Mem) := loop (fun t => f_MM_slack_L37 x1 x2 x3 t.1 t.2.1 t.2.2.1 t.2.2.2) u
noncomputable def f_MM_slack_J37 (M : Mem) (x1 : Int32) (x2 : Int32) (x3 : Int32) (x4 : Int32) (x5 : Int32) (x6 : Int32) : Option (Int32 × Mem) := bnd (f_MM_slack_W37 x1 x2 x3 (x4, x5, x6, M)) (fun e37 => some e37)
noncomputable def f_MM_slack (M : Mem) (x1 : Int32) (x2 : Int32) (x3 : Int32) : Option (Int32 × Mem) := 
    if (bI (f_MM_in x1.toInt64 (1 : Int64) (8 : Int64))) = 0 then some ((-1 : Int32), M) else 
    if (bI (f_MM_areUnlike M x2 x3)) = 0 then some ((-1 : Int32), M) else 
    bnd (f_MM_marksDecisions M) (fun M12 => f_MM_slack_J37 M12 x1 x2 x3 (-2 : Int32) (1 : Int32) (0 : Int32))
set_option maxHeartbeats 4000000 in
theorem wk_MM_slack {l : Launch} {Z : WD} (hI : wI Z) (hZ : IsM Z) (M : Mem) (x1 : Int32) (x2 : Int32) (x3 : Int32) {r : Int32} {M' : Mem} {p : Program} {e : Env} {R : Room} {s : State} {m : MethodId} {args : Array Value} {below : List Frame} {meth : Method} {c : Code} {H : Heap} {locs : List Loc} {ls : Array Slot} {Q : State → Prop} (S : CallFix p m c b_MM_slack 9 s args gtb R_MM) (hX : wX Z s) (hR : 7 ≤ R.frames ∧ 170 ≤ R.locals) (hQ : ∀ (pc : Nat) (H : Heap) (locs : List Loc) (ls : Array Slot), HW Z M' s H locs → decode b_MM_slack pc = .ok (.ireturn, 1) → W p l e R s m args below meth c H locs 0 0 Q (F0 m pc ls [.int r])) (hf0 : f_MM_slack M x1 x2 x3 = some (r, M')) (hH : HW Z M s H locs) (hl : lv_has ls 9 [(0, .ref (Z.2.2.1 0)), (1, .int x1), (2, .int x2), (3, .int x3)]) : W p l e R s m args below meth c H locs 0 0 Q (F0 m 0 ls []) := by
  have hx := S.1
  have hb := S.2.1
  have hown := S.2.2.2.1
  have ht := S.2.2.2.2
  unfold f_MM_slack at hf0
  have J37 : ∀ (M : Mem) (x1 : Int32) (x2 : Int32) (x3 : Int32) (x4 : Int32) (x5 : Int32) (x6 : Int32) (H : Heap) (locs : List Loc) (ls : Array Slot), f_MM_slack_J37 M x1 x2 x3 x4 x5 x6 = some (r, M') → HW Z M s H locs → lv_has ls 9 [(0, .ref (Z.2.2.1 0)), (1, .int x1), (2, .int x2), (3, .int x3), (4, .int x4), (5, .int x5), (6, .int x6)] → W p l e R s m args below meth c H locs 0 0 Q (F0 m 37 ls []) := by
    intro M x1 x2 x3 x4 x5 x6 H locs ls hf0 hH hl
    unfold f_MM_slack_J37 at hf0
    obtain ⟨e37, he37, hf0⟩ := o_b hf0
    unfold f_MM_slack_W37 at he37
    refine loop_W (fun t => ∀ (H : Heap) (locs : List Loc) (ls : Array Slot), HW Z t.2.2.2 s H locs → lv_has ls 9 [(0, .ref (Z.2.2.1 0)), (1, .int x1), (2, .int x2), (3, .int x3), (4, .int t.1), (5, .int t.2.1), (6, .int t.2.2.1)] → W p l e R s m args below meth c H locs 0 0 Q (F0 m 37 ls [])) ?_ he37 H locs ls hH hl
    rintro ⟨x4, x5, x6, M⟩ o1 hf1 hG1 hR1 H locs ls hH hl
    replace hH : HW Z M s H locs := hH
    replace hl : lv_has ls 9 [(0, .ref (Z.2.2.1 0)), (1, .int x1), (2, .int x2), (3, .int x3), (4, .int x4), (5, .int x5), (6, .int x6)] := hl
    replace hf1 : f_MM_slack_L37 x1 x2 x3 x4 x5 x6 M = some o1 := hf1
    unfold f_MM_slack_L37 at hf1
    have J121 : ∀ (M : Mem) (x5 : Int32) (x6 : Int32) (s0 : Int32) (H : Heap) (locs : List Loc) (ls : Array Slot), f_MM_slack_J121 M x1 x2 x3 x5 x6 s0 = some o1 → HW Z M s H locs → lv_has ls 9 [(0, .ref (Z.2.2.1 0)), (1, .int x1), (2, .int x2), (3, .int x3), (5, .int x5), (6, .int x6)] → W p l e R s m args below meth c H locs 0 0 Q (F0 m 121 ls [.int s0]) := by
      intro M x5 x6 s0 H locs ls hf1 hH hl
      unfold f_MM_slack_J121 at hf1
      refine lv_istore (lv' := [(4, .int s0), (0, .ref (Z.2.2.1 0)), (1, .int x1), (2, .int x2), (3, .int x3), (5, .int x5), (6, .int x6)]) hx hb d_MM_slack_121 hl (by decide) rfl (fun ls hl => ?_)
      refine lv_aload_n hx hb d_MM_slack_123 rfl (lv_at hl 1 rfl) ?_
      refine lv_iconst (v := (-1 : Int32)) hx hb d_MM_slack_124 (by decide) ?_
      obtain ⟨M1, hM1, hf1⟩ := o_l hf1
      refine s_MM_72 S hX hI hH hZ d_MM_slack_125 (fun H locs hH => ?_)
      rw [hM1] at hH
      refine lv_iinc (v := x6 + (1 : Int32)) (lv' := [(6, .int (x6 + (1 : Int32))), (4, .int s0), (0, .ref (Z.2.2.1 0)), (1, .int x1), (2, .int x2), (3, .int x3), (5, .int x5)]) hx hb d_MM_slack_128 hl (k := 6) rfl rfl (by decide) rfl (fun ls hl => ?_)
      refine lv_goto (tgt := 37) hx hb d_MM_slack_131 (by decide) ?_
      exact hG1 _ (o_v hf1).symm _ _ _ hH (lv_sub hl [2, 3, 4, 5, 1, 6, 0] rfl)
    have J103 : ∀ (M : Mem) (x4 : Int32) (x6 : Int32) (H : Heap) (locs : List Loc) (ls : Array Slot), f_MM_slack_J103 M x1 x2 x3 x4 x6 = some o1 → HW Z M s H locs → lv_has ls 9 [(0, .ref (Z.2.2.1 0)), (1, .int x1), (2, .int x2), (3, .int x3), (4, .int x4), (6, .int x6)] → W p l e R s m args below meth c H locs 0 0 Q (F0 m 103 ls []) := by
      intro M x4 x6 H locs ls hf1 hH hl
      unfold f_MM_slack_J103 at hf1
      refine lv_aload_n hx hb d_MM_slack_103 rfl (lv_at hl 0 rfl) ?_
      obtain ⟨y4, M3, hc2, hf1⟩ := o_b2 hf1
      refine q_cVi (As := []) (rest := []) S hX hH (c_MM_isAsItWas l hI hZ M hc2) (cw_MM_347 S.2.2.2.2 (Nat.le_trans (Nat.le_of_ble_eq_true rfl) hR.1) (Nat.le_trans (Nat.le_of_ble_eq_true rfl) hR.2)) (rc_MM hX hH hZ) rfl hl.1 rfl (Nat.le_of_ble_eq_true rfl) d_MM_slack_104 ⟨Nat.zero_le _, Nat.zero_le _⟩ (fun H locs hH => ?_)
      refine lv_istore (lv' := [(5, .int (bI y4)), (0, .ref (Z.2.2.1 0)), (1, .int x1), (2, .int x2), (3, .int x3), (4, .int x4), (6, .int x6)]) hx hb d_MM_slack_107 hl (by decide) rfl (fun ls hl => ?_)
      refine lv_iload hx hb d_MM_slack_109 (lv_at hl 0 rfl) ?_
      refine lv_if_eq (tgt := 119) hx hb d_MM_slack_111 (by decide) (fun hc => ?_) (fun hc => ?_)
      · replace hf1 := o_t hc hf1
        refine lv_iload hx hb d_MM_slack_119 (lv_at hl 5 rfl) ?_
        exact J121 _ _ _ _ _ _ _ hf1 hH (lv_sub hl [1, 2, 3, 4, 0, 6] rfl)
      · replace hf1 := o_f hc hf1
        refine lv_iload hx hb d_MM_slack_114 (lv_at hl 6 rfl) ?_
        refine lv_goto (tgt := 121) hx hb d_MM_slack_116 (by decide) ?_
        exact J121 _ _ _ _ _ _ _ hf1 hH (lv_sub hl [1, 2, 3, 4, 0, 6] rfl)
    have J52 : ∀ (M : Mem) (x4 : Int32) (x6 : Int32) (x7 : Int32) (H : Heap) (locs : List Loc) (ls : Array Slot), f_MM_slack_J52 M x1 x2 x3 x4 x6 x7 = some o1 → HW Z M s H locs → lv_has ls 9 [(0, .ref (Z.2.2.1 0)), (1, .int x1), (2, .int x2), (3, .int x3), (4, .int x4), (6, .int x6), (7, .int x7)] → W p l e R s m args below meth c H locs 0 0 Q (F0 m 52 ls []) := by
      intro M x4 x6 x7 H locs ls hf1 hH hl
      unfold f_MM_slack_J52 at hf1
      obtain ⟨e52, he52, hf1⟩ := o_b hf1
      have KX52 : ∀ (H : Heap) (locs : List Loc) (ls : Array Slot), HW Z e52 s H locs → lv_has ls 9 [(0, .ref (Z.2.2.1 0)), (1, .int x1), (2, .int x2), (3, .int x3), (4, .int x4), (6, .int x6)] → W p l e R s m args below meth c H locs 0 0 Q (F0 m 89 ls []) := by
        intro H locs ls hH hl
        refine lv_iload hx hb d_MM_slack_89 (lv_at hl 5 rfl) ?_
        refine lv_if_le (tgt := 103) hx hb d_MM_slack_91 (by decide) (fun hc => ?_) (fun hc => ?_)
        · replace hf1 := o_t hc hf1
          exact J103 _ _ _ _ _ _ hf1 hH (lv_sub hl [0, 1, 2, 3, 4, 5] rfl)
        · replace hf1 := o_f hc hf1
          refine lv_aload_n hx hb d_MM_slack_94 rfl (lv_at hl 0 rfl) ?_
          refine lv_iload_n hx hb d_MM_slack_95 rfl (lv_at hl 1 rfl) ?_
          refine lv_iload_n hx hb d_MM_slack_96 rfl (lv_at hl 2 rfl) ?_
          refine lv_iload_n hx hb d_MM_slack_97 rfl (lv_at hl 3 rfl) ?_
          refine lv_iload hx hb d_MM_slack_98 (lv_at hl 5 rfl) ?_
          obtain ⟨M10, hc9, hf1⟩ := o_b hf1
          refine q_cVv (As := [.int x1, .int x2, .int x3, .int x6]) (rest := []) S hX hH (c_MM_faultsAside l hI hZ e52 x1 x2 x3 x6 hc9) (cw_MM_344 S.2.2.2.2 (Nat.le_trans (Nat.le_of_ble_eq_true rfl) hR.1) (Nat.le_trans (Nat.le_of_ble_eq_true rfl) hR.2)) (rc_MM hX hH hZ) rfl hl.1 rfl (Nat.le_of_ble_eq_true rfl) d_MM_slack_100 ⟨Nat.zero_le _, Nat.zero_le _⟩ (fun H locs hH => ?_)
          exact J103 _ _ _ _ _ _ hf1 hH (lv_sub hl [0, 1, 2, 3, 4, 5] rfl)
      unfold f_MM_slack_W52 at he52
      refine loop_W (fun t => ∀ (H : Heap) (locs : List Loc) (ls : Array Slot), HW Z t.2 s H locs → lv_has ls 9 [(0, .ref (Z.2.2.1 0)), (1, .int x1), (2, .int x2), (3, .int x3), (4, .int x4), (6, .int x6), (7, .int t.1)] → W p l e R s m args below meth c H locs 0 0 Q (F0 m 52 ls [])) ?_ he52 H locs ls hH hl
      rintro ⟨x7, M⟩ o2 hf2 hG2 hR2 H locs ls hH hl
      replace hH : HW Z M s H locs := hH
      replace hl : lv_has ls 9 [(0, .ref (Z.2.2.1 0)), (1, .int x1), (2, .int x2), (3, .int x3), (4, .int x4), (6, .int x6), (7, .int x7)] := hl
      replace hf2 : f_MM_slack_L52 x1 x2 x3 x7 M = some o2 := hf2
      unfold f_MM_slack_L52 at hf2
      refine lv_iload hx hb d_MM_slack_52 (lv_at hl 6 rfl) ?_
      refine lv_iconst (v := (3 : Int32)) hx hb d_MM_slack_54 (by decide) ?_
      refine lv_icmp_ge (tgt := 89) hx hb d_MM_slack_55 (by decide) (fun hc => ?_) (fun hc => ?_)
      · replace hf2 := o_t hc hf2
        obtain rfl := hR2 _ (o_v hf2).symm
        exact KX52 _ _ _ hH (lv_sub hl [0, 1, 2, 3, 4, 5] rfl)
      · replace hf2 := o_f hc hf2
        refine lv_aload_n hx hb d_MM_slack_58 rfl (lv_at hl 0 rfl) ?_
        refine lv_iload hx hb d_MM_slack_59 (lv_at hl 6 rfl) ?_
        refine lv_iload_n hx hb d_MM_slack_61 rfl (lv_at hl 1 rfl) ?_
        refine lv_iload_n hx hb d_MM_slack_62 rfl (lv_at hl 2 rfl) ?_
        refine lv_iload_n hx hb d_MM_slack_63 rfl (lv_at hl 3 rfl) ?_
        obtain ⟨y6, hc5, hf2⟩ := o_b hf2
        refine q_cVi (As := [.int x7, .int x1, .int x2, .int x3]) (rest := []) S hX hH (c_MM_faultOf l hI hZ M x7 x1 x2 x3 hc5) (cw_MM_244 S.2.2.2.2 (Nat.le_trans (Nat.le_of_ble_eq_true rfl) hR.1) (Nat.le_trans (Nat.le_of_ble_eq_true rfl) hR.2)) (rc_MM hX hH hZ) rfl hl.1 rfl (Nat.le_of_ble_eq_true rfl) d_MM_slack_64 ⟨Nat.zero_le _, Nat.zero_le _⟩ (fun H locs hH => ?_)
        refine lv_istore (lv' := [(8, .int y6), (0, .ref (Z.2.2.1 0)), (1, .int x1), (2, .int x2), (3, .int x3), (4, .int x4), (6, .int x6), (7, .int x7)]) hx hb d_MM_slack_67 hl (by decide) rfl (fun ls hl => ?_)
        refine lv_iload hx hb d_MM_slack_69 (lv_at hl 0 rfl) ?_
        refine lv_iconst (v := (-1 : Int32)) hx hb d_MM_slack_71 (by decide) ?_
        refine lv_icmp_eq (tgt := 83) hx hb d_MM_slack_72 (by decide) (fun hc => ?_) (fun hc => ?_)
        · replace hf2 := o_t hc hf2
          refine lv_iinc (v := x7 + (1 : Int32)) (lv' := [(7, .int (x7 + (1 : Int32))), (8, .int y6), (0, .ref (Z.2.2.1 0)), (1, .int x1), (2, .int x2), (3, .int x3), (4, .int x4), (6, .int x6)]) hx hb d_MM_slack_83 hl (k := 7) rfl rfl (by decide) rfl (fun ls hl => ?_)
          refine lv_goto (tgt := 52) hx hb d_MM_slack_86 (by decide) ?_
          exact hG2 _ (o_v hf2).symm _ _ _ hH (lv_sub hl [2, 3, 4, 5, 6, 7, 0] rfl)
        · replace hf2 := o_f hc hf2
          refine lv_aload_n hx hb d_MM_slack_75 rfl (lv_at hl 1 rfl) ?_
          refine lv_iload hx hb d_MM_slack_76 (lv_at hl 7 rfl) ?_
          refine lv_iload hx hb d_MM_slack_78 (lv_at hl 0 rfl) ?_
          obtain ⟨M8, hc7, hf2⟩ := o_b hf2
          refine q_cVv (As := [.int x7, .int y6]) (rest := []) S hX hH (c_MM_takesOut l hI hZ M x7 y6 hc7) (cw_MM_239 S.2.2.2.2 (Nat.le_trans (Nat.le_of_ble_eq_true rfl) hR.1) (Nat.le_trans (Nat.le_of_ble_eq_true rfl) hR.2)) (rc_MM hX hH hZ) rfl hl.1 rfl (Nat.le_of_ble_eq_true rfl) d_MM_slack_80 ⟨Nat.zero_le _, Nat.zero_le _⟩ (fun H locs hH => ?_)
          refine lv_iinc (v := x7 + (1 : Int32)) (lv' := [(7, .int (x7 + (1 : Int32))), (8, .int y6), (0, .ref (Z.2.2.1 0)), (1, .int x1), (2, .int x2), (3, .int x3), (4, .int x4), (6, .int x6)]) hx hb d_MM_slack_83 hl (k := 7) rfl rfl (by decide) rfl (fun ls hl => ?_)
          refine lv_goto (tgt := 52) hx hb d_MM_slack_86 (by decide) ?_
          exact hG2 _ (o_v hf2).symm _ _ _ hH (lv_sub hl [2, 3, 4, 5, 6, 7, 0] rfl)
    refine lv_iload hx hb d_MM_slack_37 (lv_at hl 6 rfl) ?_
    refine lv_bipush (v := (8 : Int32)) hx hb d_MM_slack_39 (by decide) ?_
    refine lv_icmp_ge (tgt := 134) hx hb d_MM_slack_41 (by decide) (fun hc => ?_) (fun hc => ?_)
    · replace hf1 := o_t hc hf1
      refine lv_iload hx hb d_MM_slack_134 (lv_at hl 4 rfl) ?_
      obtain rfl := hR1 _ (o_v hf1).symm
      obtain ⟨rfl, rfl⟩ := o_p hf0
      exact hQ _ _ _ _ hH d_MM_slack_136
    · replace hf1 := o_f hc hf1
      refine lv_iload hx hb d_MM_slack_44 (lv_at hl 5 rfl) ?_
      refine lv_if_eq (tgt := 134) hx hb d_MM_slack_46 (by decide) (fun hc => ?_) (fun hc => ?_)
      · replace hf1 := o_t hc hf1
        refine lv_iload hx hb d_MM_slack_134 (lv_at hl 4 rfl) ?_
        obtain rfl := hR1 _ (o_v hf1).symm
        obtain ⟨rfl, rfl⟩ := o_p hf0
        exact hQ _ _ _ _ hH d_MM_slack_136
      · replace hf1 := o_f hc hf1
        refine lv_iconst (v := (1 : Int32)) hx hb d_MM_slack_49 (by decide) ?_
        refine lv_istore (lv' := [(7, .int (1 : Int32)), (0, .ref (Z.2.2.1 0)), (1, .int x1), (2, .int x2), (3, .int x3), (4, .int x4), (5, .int x5), (6, .int x6)]) hx hb d_MM_slack_50 hl (by decide) rfl (fun ls hl => ?_)
        exact J52 _ _ _ _ _ _ _ hf1 hH (lv_sub hl [1, 2, 3, 4, 5, 7, 0] rfl)
  refine lv_iload_n hx hb d_MM_slack_0 rfl (lv_at hl 1 rfl) ?_
  refine lv_i2l hx hb d_MM_slack_1 rfl ?_
  refine lv_lconst (v := (1 : Int64)) hx hb d_MM_slack_2 (by decide) ?_
  refine lv_ldc2 (v := (8 : Int64)) hx hb hown (ht _ w5_170) d_MM_slack_3 ?_
  refine q_cSi (As := [.long x1.toInt64, .long (1 : Int64), .long (8 : Int64)]) (rest := []) S hX hH (c_MM_in l hI M x1.toInt64 (1 : Int64) (8 : Int64) rfl) (cw_MM_108 S.2.2.2.2 (Nat.le_trans (Nat.le_of_ble_eq_true rfl) hR.1) (Nat.le_trans (Nat.le_of_ble_eq_true rfl) hR.2)) rfl hl.1 rfl (Nat.le_of_ble_eq_true rfl) d_MM_slack_6 ⟨Nat.zero_le _, Nat.zero_le _⟩ (fun H locs hH => ?_)
  refine lv_if_eq (tgt := 21) hx hb d_MM_slack_9 (by decide) (fun hc => ?_) (fun hc => ?_)
  · replace hf0 := o_t hc hf0
    refine lv_iconst (v := (-1 : Int32)) hx hb d_MM_slack_21 (by decide) ?_
    obtain ⟨rfl, rfl⟩ := o_p hf0
    exact hQ _ _ _ _ hH d_MM_slack_22
  · replace hf0 := o_f hc hf0
    refine lv_aload_n hx hb d_MM_slack_12 rfl (lv_at hl 0 rfl) ?_
    refine lv_iload_n hx hb d_MM_slack_13 rfl (lv_at hl 2 rfl) ?_
    refine lv_iload_n hx hb d_MM_slack_14 rfl (lv_at hl 3 rfl) ?_
    refine q_cVi (As := [.int x2, .int x3]) (rest := []) S hX hH (c_MM_areUnlike l hI hZ M x2 x3 rfl) (cw_MM_224 S.2.2.2.2 (Nat.le_trans (Nat.le_of_ble_eq_true rfl) hR.1) (Nat.le_trans (Nat.le_of_ble_eq_true rfl) hR.2)) (rc_MM hX hH hZ) rfl hl.1 rfl (Nat.le_of_ble_eq_true rfl) d_MM_slack_15 ⟨Nat.zero_le _, Nat.zero_le _⟩ (fun H locs hH => ?_)
    refine lv_if_ne (tgt := 23) hx hb d_MM_slack_18 (by decide) (fun hc => ?_) (fun hc => ?_)
    · replace hf0 := o_f hc hf0
      refine lv_aload_n hx hb d_MM_slack_23 rfl (lv_at hl 0 rfl) ?_
      obtain ⟨M12, hc11, hf0⟩ := o_b hf0
      refine q_cVv (As := []) (rest := []) S hX hH (c_MM_marksDecisions l hI hZ M hc11) (cw_MM_341 S.2.2.2.2 (Nat.le_trans (Nat.le_of_ble_eq_true rfl) hR.1) (Nat.le_trans (Nat.le_of_ble_eq_true rfl) hR.2)) (rc_MM hX hH hZ) rfl hl.1 rfl (Nat.le_of_ble_eq_true rfl) d_MM_slack_24 ⟨Nat.zero_le _, Nat.zero_le _⟩ (fun H locs hH => ?_)
      refine lv_bipush (v := (-2 : Int32)) hx hb d_MM_slack_27 (by decide) ?_
      refine lv_istore (lv' := [(4, .int (-2 : Int32)), (0, .ref (Z.2.2.1 0)), (1, .int x1), (2, .int x2), (3, .int x3)]) hx hb d_MM_slack_29 hl (by decide) rfl (fun ls hl => ?_)
      refine lv_iconst (v := (1 : Int32)) hx hb d_MM_slack_31 (by decide) ?_
      refine lv_istore (lv' := [(5, .int (1 : Int32)), (4, .int (-2 : Int32)), (0, .ref (Z.2.2.1 0)), (1, .int x1), (2, .int x2), (3, .int x3)]) hx hb d_MM_slack_32 hl (by decide) rfl (fun ls hl => ?_)
      refine lv_iconst (v := (0 : Int32)) hx hb d_MM_slack_34 (by decide) ?_
      refine lv_istore (lv' := [(6, .int (0 : Int32)), (5, .int (1 : Int32)), (4, .int (-2 : Int32)), (0, .ref (Z.2.2.1 0)), (1, .int x1), (2, .int x2), (3, .int x3)]) hx hb d_MM_slack_35 hl (by decide) rfl (fun ls hl => ?_)
      exact J37 _ _ _ _ _ _ _ _ _ _ hf0 hH (lv_sub hl [3, 4, 5, 6, 2, 1, 0] rfl)
    · replace hf0 := o_t hc hf0
      refine lv_iconst (v := (-1 : Int32)) hx hb d_MM_slack_21 (by decide) ?_
      obtain ⟨rfl, rfl⟩ := o_p hf0
      exact hQ _ _ _ _ hH d_MM_slack_22
theorem c_MM_slack (l : Launch) {Z : WD} (hI : wI Z) (hZ : IsM Z) (M : Mem) (x1 : Int32) (x2 : Int32) (x3 : Int32) {r : Int32} {M' : Mem} (hf : f_MM_slack M x1 x2 x3 = some (r, M')) : Ci l Z y_MM_slack b_MM_slack 9 (some .int) 7 170 [.ref (Z.2.2.1 0), .int x1, .int x2, .int x3] M M' r := by
  refine Met.ofW (cc := b_MM_slack) (maxL := 9) (ret := (some .int)) (by decide) rfl ?_
  intro p e s m args below meth c s₁ B hml hv
  obtain ⟨rfl, hP, hX⟩ := hv
  have S : CallFix p m c b_MM_slack 9 s ([.ref (Z.2.2.1 0), .int x1, .int x2, .int x3] : List Value).toArray gtb R_MM := ⟨B.exec, B.bytes, hml, findClass_of_methodNamed B.named, fun w hw => atoms_spec (ws := .code y_MM_slack b_MM_slack 9 (some .int) :: gtb) B.pre w (List.mem_cons_of_mem _ hw)⟩
  have hl := lv_entry ([.ref (Z.2.2.1 0), .int x1, .int x2, .int x3]) (n := 9) (Nat.le_of_ble_eq_true rfl)
  rw [lg_entry_eq]
  exact wk_MM_slack hI hZ M x1 x2 x3 S hX ⟨Nat.le_refl _, Nat.le_refl _⟩ (fun pc H locs ls hH d => q_ri S.1 S.2.1 B.returns B.notSynchronized hH rfl rfl d) hf ⟨hP, va_S.rf⟩ hl
noncomputable def f_MM_crucial_L55 (x1 : Int32) (x2 : Int32) (x4 : Int32) (x3 : Int32) (x5 : Int32) (M : Mem) : Option ((Int32 × Int32 × Mem) ⊕ ((Int32 × Mem) ⊕ (Int32 × Mem))) := if (M 1 0) ≤ x5 then some (.inr (.inl (x3, M))) else 
    if x4 = x5 then some (.inl (x3, x5 + (1 : Int32), M)) else 
    bnd (f_MM_faultOf M (1 : Int32) x1 x4 x5) (fun y2 => 
    if y2 = (-1 : Int32) then 
    bnd (f_MM_faultsAside M x1 x4 x5 (0 : Int32)) (fun M4 => 
    bnd2 (f_MM_isAsItWas M4) (fun y7 M6 => 
    lt1 (upM M6 0 28 (-1 : Int32)) (fun M8 => 
    if (bI y7) = 0 then 
    if x3 = x2 then some (.inr (.inr (((8 : Int32) * x4) + x5, M8))) else some (.inl (x3 + (1 : Int32), x5 + (1 : Int32), M8)) else some (.inl (x3, x5 + (1 : Int32), M8))))) else some (.inl (x3, x5 + (1 : Int32), M)))
noncomputable def f_MM_crucial_W55 (x1 : Int32) (x2 : Int32) (x4 : Int32) (u : (Int32 × Int32 × Mem)) : Option ((Int32 × Mem) ⊕ (Int32 × Mem)) := loop (fun t => f_MM_crucial_L55 x1 x2 x4 t.1 t.2.1 t.2.2) u
noncomputable def f_MM_crucial_J55 (M : Mem) (x1 : Int32) (x2 : Int32) (x3 : Int32) (x4 : Int32) (x5 : Int32) : Option ((Int32 × Int32 × Mem) ⊕ ((Int32 × Mem) ⊕ (Int32 × Mem))) := bnd (f_MM_crucial_W55 x1 x2 x4 (x3, x5, M)) (fun e55 => lex2 e55 (fun t55 => some (.inl (t55.1, x4 + (1 : Int32), t55.2))) (fun r55 => some (.inr (.inr r55))))
noncomputable def f_MM_crucial_L41 (x1 : Int32) (x2 : Int32) (x3 : Int32) (x4 : Int32) (M : Mem) : Option ((Int32 × Int32 × Mem) ⊕ ((Int32 × Mem) ⊕ (Int32 × Mem))) := if (M 1 0) ≤ x4 then some (.inr (.inl (x3, M))) else f_MM_crucial_J55 M x1 x2 x3 x4 (0 : Int32)
noncomputable def f_MM_crucial_W41 (x1 : Int32) (x2 : Int32) (u : (Int32 × Int32 × Mem)) : Option ((Int32 × Mem) ⊕ (Int32 × Mem)) := loop (fun t => f_MM_crucial_L41 x1 x2 t.1 t.2.1 t.2.2) u
noncomputable def f_MM_crucial_J41 (M : Mem) (x1 : Int32) (x2 : Int32) (x3 : Int32) (x4 : Int32) : Option (Int32 × Mem) := bnd (f_MM_crucial_W41 x1 x2 (x3, x4, M)) (fun e41 => lex2 e41 (fun t41 => if x2 = (-1 : Int32) then some (t41.1, t41.2) else some ((-2 : Int32), t41.2)) (fun r41 => some r41))
noncomputable def f_MM_crucial (M : Mem) (x1 : Int32) (x2 : Int32) : Option (Int32 × Mem) := 
    if (bI (f_MM_in x1.toInt64 (1 : Int64) ((M 1 3).toInt64))) = 0 then some ((-1 : Int32), M) else 
    if (M 1 0) = 0 then some ((-1 : Int32), M) else 
    if (-1 : Int32) ≤ x2 then bnd (f_MM_marksDecisions M) (fun M10 => f_MM_crucial_J41 M10 x1 x2 (0 : Int32) (0 : Int32)) else some ((-1 : Int32), M)
set_option maxHeartbeats 4000000 in
theorem wk_MM_crucial {l : Launch} {Z : WD} (hI : wI Z) (hZ : IsM Z) (M : Mem) (x1 : Int32) (x2 : Int32) {r : Int32} {M' : Mem} {p : Program} {e : Env} {R : Room} {s : State} {m : MethodId} {args : Array Value} {below : List Frame} {meth : Method} {c : Code} {H : Heap} {locs : List Loc} {ls : Array Slot} {Q : State → Prop} (S : CallFix p m c b_MM_crucial 7 s args gtb R_MM) (hX : wX Z s) (hR : 7 ≤ R.frames ∧ 170 ≤ R.locals) (hQ : ∀ (pc : Nat) (H : Heap) (locs : List Loc) (ls : Array Slot), HW Z M' s H locs → decode b_MM_crucial pc = .ok (.ireturn, 1) → W p l e R s m args below meth c H locs 0 0 Q (F0 m pc ls [.int r])) (hf0 : f_MM_crucial M x1 x2 = some (r, M')) (hH : HW Z M s H locs) (hl : lv_has ls 7 [(0, .ref (Z.2.2.1 0)), (1, .int x1), (2, .int x2)]) : W p l e R s m args below meth c H locs 0 0 Q (F0 m 0 ls []) := by
  have hx := S.1
  have hb := S.2.1
  have hown := S.2.2.2.1
  have ht := S.2.2.2.2
  unfold f_MM_crucial at hf0
  have J41 : ∀ (M : Mem) (x1 : Int32) (x2 : Int32) (x3 : Int32) (x4 : Int32) (H : Heap) (locs : List Loc) (ls : Array Slot), f_MM_crucial_J41 M x1 x2 x3 x4 = some (r, M') → HW Z M s H locs → lv_has ls 7 [(0, .ref (Z.2.2.1 0)), (1, .int x1), (2, .int x2), (3, .int x3), (4, .int x4)] → W p l e R s m args below meth c H locs 0 0 Q (F0 m 41 ls []) := by
    intro M x1 x2 x3 x4 H locs ls hf0 hH hl
    unfold f_MM_crucial_J41 at hf0
    obtain ⟨e41, he41, hf0⟩ := o_b hf0
    have KX41 : ∀ (t41 : (Int32 × Mem)), e41 = .inl t41 → ∀ (H : Heap) (locs : List Loc) (ls : Array Slot), HW Z t41.2 s H locs → lv_has ls 7 [(2, .int x2), (3, .int t41.1)] → W p l e R s m args below meth c H locs 0 0 Q (F0 m 148 ls []) := by
      intro t41 he0 H locs ls hH hl
      subst he0
      replace hf0 := o_x1 hf0
      refine lv_iload_n hx hb d_MM_crucial_148 rfl (lv_at hl 0 rfl) ?_
      refine lv_iconst (v := (-1 : Int32)) hx hb d_MM_crucial_149 (by decide) ?_
      refine lv_icmp_ne (tgt := 157) hx hb d_MM_crucial_150 (by decide) (fun hc => ?_) (fun hc => ?_)
      · replace hf0 := o_f hc hf0
        refine lv_bipush (v := (-2 : Int32)) hx hb d_MM_crucial_157 (by decide) ?_
        obtain ⟨rfl, rfl⟩ := o_p hf0
        exact hQ _ _ _ _ hH d_MM_crucial_159
      · replace hf0 := o_t hc hf0
        refine lv_iload_n hx hb d_MM_crucial_153 rfl (lv_at hl 1 rfl) ?_
        refine lv_goto (tgt := 159) hx hb d_MM_crucial_154 (by decide) ?_
        obtain ⟨rfl, rfl⟩ := o_p hf0
        exact hQ _ _ _ _ hH d_MM_crucial_159
    unfold f_MM_crucial_W41 at he41
    refine loop_W (fun t => ∀ (H : Heap) (locs : List Loc) (ls : Array Slot), HW Z t.2.2 s H locs → lv_has ls 7 [(0, .ref (Z.2.2.1 0)), (1, .int x1), (2, .int x2), (3, .int t.1), (4, .int t.2.1)] → W p l e R s m args below meth c H locs 0 0 Q (F0 m 41 ls [])) ?_ he41 H locs ls hH hl
    rintro ⟨x3, x4, M⟩ o1 hf1 hG1 hR1 H locs ls hH hl
    replace hH : HW Z M s H locs := hH
    replace hl : lv_has ls 7 [(0, .ref (Z.2.2.1 0)), (1, .int x1), (2, .int x2), (3, .int x3), (4, .int x4)] := hl
    replace hf1 : f_MM_crucial_L41 x1 x2 x3 x4 M = some o1 := hf1
    unfold f_MM_crucial_L41 at hf1
    have J55 : ∀ (M : Mem) (x3 : Int32) (x4 : Int32) (x5 : Int32) (H : Heap) (locs : List Loc) (ls : Array Slot), f_MM_crucial_J55 M x1 x2 x3 x4 x5 = some o1 → HW Z M s H locs → lv_has ls 7 [(0, .ref (Z.2.2.1 0)), (1, .int x1), (2, .int x2), (3, .int x3), (4, .int x4), (5, .int x5)] → W p l e R s m args below meth c H locs 0 0 Q (F0 m 55 ls []) := by
      intro M x3 x4 x5 H locs ls hf1 hH hl
      unfold f_MM_crucial_J55 at hf1
      obtain ⟨e55, he55, hf1⟩ := o_b hf1
      have KX55 : ∀ (t55 : (Int32 × Mem)), e55 = .inl t55 → ∀ (H : Heap) (locs : List Loc) (ls : Array Slot), HW Z t55.2 s H locs → lv_has ls 7 [(0, .ref (Z.2.2.1 0)), (1, .int x1), (2, .int x2), (3, .int t55.1), (4, .int x4)] → W p l e R s m args below meth c H locs 0 0 Q (F0 m 142 ls []) := by
        intro t55 he0 H locs ls hH hl
        subst he0
        replace hf1 := o_x1 hf1
        refine lv_iinc (v := x4 + (1 : Int32)) (lv' := [(4, .int (x4 + (1 : Int32))), (0, .ref (Z.2.2.1 0)), (1, .int x1), (2, .int x2), (3, .int t55.1)]) hx hb d_MM_crucial_142 hl (k := 4) rfl rfl (by decide) rfl (fun ls hl => ?_)
        refine lv_goto (tgt := 41) hx hb d_MM_crucial_145 (by decide) ?_
        exact hG1 _ (o_v hf1).symm _ _ _ hH (lv_sub hl [1, 2, 3, 4, 0] rfl)
      unfold f_MM_crucial_W55 at he55
      refine loop_W (fun t => ∀ (H : Heap) (locs : List Loc) (ls : Array Slot), HW Z t.2.2 s H locs → lv_has ls 7 [(0, .ref (Z.2.2.1 0)), (1, .int x1), (2, .int x2), (3, .int t.1), (4, .int x4), (5, .int t.2.1)] → W p l e R s m args below meth c H locs 0 0 Q (F0 m 55 ls [])) ?_ he55 H locs ls hH hl
      rintro ⟨x3, x5, M⟩ o2 hf2 hG2 hR2 H locs ls hH hl
      replace hH : HW Z M s H locs := hH
      replace hl : lv_has ls 7 [(0, .ref (Z.2.2.1 0)), (1, .int x1), (2, .int x2), (3, .int x3), (4, .int x4), (5, .int x5)] := hl
      replace hf2 : f_MM_crucial_L55 x1 x2 x4 x3 x5 M = some o2 := hf2
      unfold f_MM_crucial_L55 at hf2
      refine lv_iload hx hb d_MM_crucial_55 (lv_at hl 5 rfl) ?_
      refine lv_aload_n hx hb d_MM_crucial_57 rfl (lv_at hl 0 rfl) ?_
      refine g_MM_9 S hX hH hZ d_MM_crucial_58 ?_
      refine lv_iconst (v := (0 : Int32)) hx hb d_MM_crucial_61 (by decide) ?_
      refine q_iald (j := 0) hx hb hX hH (aa_MM_1 hZ) (vp_c (by decide)) (by decide) d_MM_crucial_62 ?_
      refine lv_icmp_ge (tgt := 142) hx hb d_MM_crucial_63 (by decide) (fun hc => ?_) (fun hc => ?_)
      · replace hf2 := o_t hc hf2
        obtain rfl := hR2 _ (o_v hf2).symm
        exact KX55 _ rfl _ _ _ hH (lv_sub hl [0, 1, 2, 3, 4] rfl)
      · replace hf2 := o_f hc hf2
        refine lv_iload hx hb d_MM_crucial_66 (lv_at hl 4 rfl) ?_
        refine lv_iload hx hb d_MM_crucial_68 (lv_at hl 5 rfl) ?_
        refine lv_icmp_eq (tgt := 136) hx hb d_MM_crucial_70 (by decide) (fun hc => ?_) (fun hc => ?_)
        · replace hf2 := o_t hc hf2
          refine lv_iinc (v := x5 + (1 : Int32)) (lv' := [(5, .int (x5 + (1 : Int32))), (0, .ref (Z.2.2.1 0)), (1, .int x1), (2, .int x2), (3, .int x3), (4, .int x4)]) hx hb d_MM_crucial_136 hl (k := 5) rfl rfl (by decide) rfl (fun ls hl => ?_)
          refine lv_goto (tgt := 55) hx hb d_MM_crucial_139 (by decide) ?_
          exact hG2 _ (o_v hf2).symm _ _ _ hH (lv_sub hl [1, 2, 3, 4, 5, 0] rfl)
        · replace hf2 := o_f hc hf2
          refine lv_aload_n hx hb d_MM_crucial_73 rfl (lv_at hl 0 rfl) ?_
          refine lv_iconst (v := (1 : Int32)) hx hb d_MM_crucial_74 (by decide) ?_
          refine lv_iload_n hx hb d_MM_crucial_75 rfl (lv_at hl 1 rfl) ?_
          refine lv_iload hx hb d_MM_crucial_76 (lv_at hl 4 rfl) ?_
          refine lv_iload hx hb d_MM_crucial_78 (lv_at hl 5 rfl) ?_
          obtain ⟨y2, hc1, hf2⟩ := o_b hf2
          refine q_cVi (As := [.int (1 : Int32), .int x1, .int x4, .int x5]) (rest := []) S hX hH (c_MM_faultOf l hI hZ M (1 : Int32) x1 x4 x5 hc1) (cw_MM_244 S.2.2.2.2 (Nat.le_trans (Nat.le_of_ble_eq_true rfl) hR.1) (Nat.le_trans (Nat.le_of_ble_eq_true rfl) hR.2)) (rc_MM hX hH hZ) rfl hl.1 rfl (Nat.le_of_ble_eq_true rfl) d_MM_crucial_80 ⟨Nat.zero_le _, Nat.zero_le _⟩ (fun H locs hH => ?_)
          refine lv_iconst (v := (-1 : Int32)) hx hb d_MM_crucial_83 (by decide) ?_
          refine lv_icmp_eq (tgt := 90) hx hb d_MM_crucial_84 (by decide) (fun hc => ?_) (fun hc => ?_)
          · replace hf2 := o_t hc hf2
            refine lv_aload_n hx hb d_MM_crucial_90 rfl (lv_at hl 0 rfl) ?_
            refine lv_iload_n hx hb d_MM_crucial_91 rfl (lv_at hl 1 rfl) ?_
            refine lv_iload hx hb d_MM_crucial_92 (lv_at hl 4 rfl) ?_
            refine lv_iload hx hb d_MM_crucial_94 (lv_at hl 5 rfl) ?_
            refine lv_iconst (v := (0 : Int32)) hx hb d_MM_crucial_96 (by decide) ?_
            obtain ⟨M4, hc3, hf2⟩ := o_b hf2
            refine q_cVv (As := [.int x1, .int x4, .int x5, .int (0 : Int32)]) (rest := []) S hX hH (c_MM_faultsAside l hI hZ M x1 x4 x5 (0 : Int32) hc3) (cw_MM_344 S.2.2.2.2 (Nat.le_trans (Nat.le_of_ble_eq_true rfl) hR.1) (Nat.le_trans (Nat.le_of_ble_eq_true rfl) hR.2)) (rc_MM hX hH hZ) rfl hl.1 rfl (Nat.le_of_ble_eq_true rfl) d_MM_crucial_97 ⟨Nat.zero_le _, Nat.zero_le _⟩ (fun H locs hH => ?_)
            refine lv_aload_n hx hb d_MM_crucial_100 rfl (lv_at hl 0 rfl) ?_
            obtain ⟨y7, M6, hc5, hf2⟩ := o_b2 hf2
            refine q_cVi (As := []) (rest := []) S hX hH (c_MM_isAsItWas l hI hZ M4 hc5) (cw_MM_347 S.2.2.2.2 (Nat.le_trans (Nat.le_of_ble_eq_true rfl) hR.1) (Nat.le_trans (Nat.le_of_ble_eq_true rfl) hR.2)) (rc_MM hX hH hZ) rfl hl.1 rfl (Nat.le_of_ble_eq_true rfl) d_MM_crucial_101 ⟨Nat.zero_le _, Nat.zero_le _⟩ (fun H locs hH => ?_)
            refine lv_istore (lv' := [(6, .int (bI y7)), (0, .ref (Z.2.2.1 0)), (1, .int x1), (2, .int x2), (3, .int x3), (4, .int x4), (5, .int x5)]) hx hb d_MM_crucial_104 hl (by decide) rfl (fun ls hl => ?_)
            refine lv_aload_n hx hb d_MM_crucial_106 rfl (lv_at hl 1 rfl) ?_
            refine lv_iconst (v := (-1 : Int32)) hx hb d_MM_crucial_107 (by decide) ?_
            obtain ⟨M8, hM8, hf2⟩ := o_l hf2
            refine s_MM_72 S hX hI hH hZ d_MM_crucial_108 (fun H locs hH => ?_)
            rw [hM8] at hH
            refine lv_iload hx hb d_MM_crucial_111 (lv_at hl 0 rfl) ?_
            refine lv_if_eq (tgt := 119) hx hb d_MM_crucial_113 (by decide) (fun hc => ?_) (fun hc => ?_)
            · replace hf2 := o_t hc hf2
              refine lv_iload_n hx hb d_MM_crucial_119 rfl (lv_at hl 4 rfl) ?_
              refine lv_iload_n hx hb d_MM_crucial_120 rfl (lv_at hl 3 rfl) ?_
              refine lv_icmp_ne (tgt := 133) hx hb d_MM_crucial_121 (by decide) (fun hc => ?_) (fun hc => ?_)
              · replace hf2 := o_f hc hf2
                refine lv_iinc (v := x3 + (1 : Int32)) (lv' := [(3, .int (x3 + (1 : Int32))), (6, .int (bI y7)), (0, .ref (Z.2.2.1 0)), (1, .int x1), (2, .int x2), (4, .int x4), (5, .int x5)]) hx hb d_MM_crucial_133 hl (k := 4) rfl rfl (by decide) rfl (fun ls hl => ?_)
                refine lv_iinc (v := x5 + (1 : Int32)) (lv' := [(5, .int (x5 + (1 : Int32))), (3, .int (x3 + (1 : Int32))), (6, .int (bI y7)), (0, .ref (Z.2.2.1 0)), (1, .int x1), (2, .int x2), (4, .int x4)]) hx hb d_MM_crucial_136 hl (k := 6) rfl rfl (by decide) rfl (fun ls hl => ?_)
                refine lv_goto (tgt := 55) hx hb d_MM_crucial_139 (by decide) ?_
                exact hG2 _ (o_v hf2).symm _ _ _ hH (lv_sub hl [3, 4, 5, 1, 6, 0] rfl)
              · replace hf2 := o_t hc hf2
                refine lv_bipush (v := (8 : Int32)) hx hb d_MM_crucial_124 (by decide) ?_
                refine lv_iload hx hb d_MM_crucial_126 (lv_at hl 5 rfl) ?_
                refine lv_imul hx hb d_MM_crucial_128 ?_
                refine lv_iload hx hb d_MM_crucial_129 (lv_at hl 6 rfl) ?_
                refine lv_iadd hx hb d_MM_crucial_131 ?_
                obtain rfl := hR2 _ (o_v hf2).symm
                replace hf1 := o_x2 hf1
                obtain rfl := hR1 _ (o_v hf1).symm
                replace hf0 := o_x2 hf0
                obtain ⟨rfl, rfl⟩ := o_p hf0
                exact hQ _ _ _ _ hH d_MM_crucial_132
            · replace hf2 := o_f hc hf2
              refine lv_goto (tgt := 136) hx hb d_MM_crucial_116 (by decide) ?_
              refine lv_iinc (v := x5 + (1 : Int32)) (lv' := [(5, .int (x5 + (1 : Int32))), (6, .int (bI y7)), (0, .ref (Z.2.2.1 0)), (1, .int x1), (2, .int x2), (3, .int x3), (4, .int x4)]) hx hb d_MM_crucial_136 hl (k := 6) rfl rfl (by decide) rfl (fun ls hl => ?_)
              refine lv_goto (tgt := 55) hx hb d_MM_crucial_139 (by decide) ?_
              exact hG2 _ (o_v hf2).symm _ _ _ hH (lv_sub hl [2, 3, 4, 5, 6, 0] rfl)
          · replace hf2 := o_f hc hf2
            refine lv_goto (tgt := 136) hx hb d_MM_crucial_87 (by decide) ?_
            refine lv_iinc (v := x5 + (1 : Int32)) (lv' := [(5, .int (x5 + (1 : Int32))), (0, .ref (Z.2.2.1 0)), (1, .int x1), (2, .int x2), (3, .int x3), (4, .int x4)]) hx hb d_MM_crucial_136 hl (k := 5) rfl rfl (by decide) rfl (fun ls hl => ?_)
            refine lv_goto (tgt := 55) hx hb d_MM_crucial_139 (by decide) ?_
            exact hG2 _ (o_v hf2).symm _ _ _ hH (lv_sub hl [1, 2, 3, 4, 5, 0] rfl)
    refine lv_iload hx hb d_MM_crucial_41 (lv_at hl 4 rfl) ?_
    refine lv_aload_n hx hb d_MM_crucial_43 rfl (lv_at hl 0 rfl) ?_
    refine g_MM_9 S hX hH hZ d_MM_crucial_44 ?_
    refine lv_iconst (v := (0 : Int32)) hx hb d_MM_crucial_47 (by decide) ?_
    refine q_iald (j := 0) hx hb hX hH (aa_MM_1 hZ) (vp_c (by decide)) (by decide) d_MM_crucial_48 ?_
    refine lv_icmp_ge (tgt := 148) hx hb d_MM_crucial_49 (by decide) (fun hc => ?_) (fun hc => ?_)
    · replace hf1 := o_t hc hf1
      obtain rfl := hR1 _ (o_v hf1).symm
      exact KX41 _ rfl _ _ _ hH (lv_sub hl [2, 3] rfl)
    · replace hf1 := o_f hc hf1
      refine lv_iconst (v := (0 : Int32)) hx hb d_MM_crucial_52 (by decide) ?_
      refine lv_istore (lv' := [(5, .int (0 : Int32)), (0, .ref (Z.2.2.1 0)), (1, .int x1), (2, .int x2), (3, .int x3), (4, .int x4)]) hx hb d_MM_crucial_53 hl (by decide) rfl (fun ls hl => ?_)
      exact J55 _ _ _ _ _ _ _ hf1 hH (lv_sub hl [1, 2, 3, 4, 5, 0] rfl)
  refine lv_iload_n hx hb d_MM_crucial_0 rfl (lv_at hl 1 rfl) ?_
  refine lv_i2l hx hb d_MM_crucial_1 rfl ?_
  refine lv_lconst (v := (1 : Int64)) hx hb d_MM_crucial_2 (by decide) ?_
  refine lv_aload_n hx hb d_MM_crucial_3 rfl (lv_at hl 0 rfl) ?_
  refine g_MM_9 S hX hH hZ d_MM_crucial_4 ?_
  refine lv_iconst (v := (3 : Int32)) hx hb d_MM_crucial_7 (by decide) ?_
  refine q_iald (j := 3) hx hb hX hH (aa_MM_1 hZ) (vp_c (by decide)) (by decide) d_MM_crucial_8 ?_
  refine lv_i2l hx hb d_MM_crucial_9 rfl ?_
  refine q_cSi (As := [.long x1.toInt64, .long (1 : Int64), .long ((M 1 3).toInt64)]) (rest := []) S hX hH (c_MM_in l hI M x1.toInt64 (1 : Int64) ((M 1 3).toInt64) rfl) (cw_MM_108 S.2.2.2.2 (Nat.le_trans (Nat.le_of_ble_eq_true rfl) hR.1) (Nat.le_trans (Nat.le_of_ble_eq_true rfl) hR.2)) rfl hl.1 rfl (Nat.le_of_ble_eq_true rfl) d_MM_crucial_10 ⟨Nat.zero_le _, Nat.zero_le _⟩ (fun H locs hH => ?_)
  refine lv_if_eq (tgt := 30) hx hb d_MM_crucial_13 (by decide) (fun hc => ?_) (fun hc => ?_)
  · replace hf0 := o_t hc hf0
    refine lv_iconst (v := (-1 : Int32)) hx hb d_MM_crucial_30 (by decide) ?_
    obtain ⟨rfl, rfl⟩ := o_p hf0
    exact hQ _ _ _ _ hH d_MM_crucial_31
  · replace hf0 := o_f hc hf0
    refine lv_aload_n hx hb d_MM_crucial_16 rfl (lv_at hl 0 rfl) ?_
    refine g_MM_9 S hX hH hZ d_MM_crucial_17 ?_
    refine lv_iconst (v := (0 : Int32)) hx hb d_MM_crucial_20 (by decide) ?_
    refine q_iald (j := 0) hx hb hX hH (aa_MM_1 hZ) (vp_c (by decide)) (by decide) d_MM_crucial_21 ?_
    refine lv_if_eq (tgt := 30) hx hb d_MM_crucial_22 (by decide) (fun hc => ?_) (fun hc => ?_)
    · replace hf0 := o_t hc hf0
      refine lv_iconst (v := (-1 : Int32)) hx hb d_MM_crucial_30 (by decide) ?_
      obtain ⟨rfl, rfl⟩ := o_p hf0
      exact hQ _ _ _ _ hH d_MM_crucial_31
    · replace hf0 := o_f hc hf0
      refine lv_iload_n hx hb d_MM_crucial_25 rfl (lv_at hl 2 rfl) ?_
      refine lv_iconst (v := (-1 : Int32)) hx hb d_MM_crucial_26 (by decide) ?_
      refine lv_icmp_ge (tgt := 32) hx hb d_MM_crucial_27 (by decide) (fun hc => ?_) (fun hc => ?_)
      · replace hf0 := o_t hc hf0
        refine lv_aload_n hx hb d_MM_crucial_32 rfl (lv_at hl 0 rfl) ?_
        obtain ⟨M10, hc9, hf0⟩ := o_b hf0
        refine q_cVv (As := []) (rest := []) S hX hH (c_MM_marksDecisions l hI hZ M hc9) (cw_MM_341 S.2.2.2.2 (Nat.le_trans (Nat.le_of_ble_eq_true rfl) hR.1) (Nat.le_trans (Nat.le_of_ble_eq_true rfl) hR.2)) (rc_MM hX hH hZ) rfl hl.1 rfl (Nat.le_of_ble_eq_true rfl) d_MM_crucial_33 ⟨Nat.zero_le _, Nat.zero_le _⟩ (fun H locs hH => ?_)
        refine lv_iconst (v := (0 : Int32)) hx hb d_MM_crucial_36 (by decide) ?_
        refine lv_istore_n (lv' := [(3, .int (0 : Int32)), (0, .ref (Z.2.2.1 0)), (1, .int x1), (2, .int x2)]) hx hb d_MM_crucial_37 rfl hl (by decide) rfl (fun ls hl => ?_)
        refine lv_iconst (v := (0 : Int32)) hx hb d_MM_crucial_38 (by decide) ?_
        refine lv_istore (lv' := [(4, .int (0 : Int32)), (3, .int (0 : Int32)), (0, .ref (Z.2.2.1 0)), (1, .int x1), (2, .int x2)]) hx hb d_MM_crucial_39 hl (by decide) rfl (fun ls hl => ?_)
        exact J41 _ _ _ _ _ _ _ _ hf0 hH (lv_sub hl [2, 3, 4, 1, 0] rfl)
      · replace hf0 := o_f hc hf0
        refine lv_iconst (v := (-1 : Int32)) hx hb d_MM_crucial_30 (by decide) ?_
        obtain ⟨rfl, rfl⟩ := o_p hf0
        exact hQ _ _ _ _ hH d_MM_crucial_31
theorem c_MM_crucial (l : Launch) {Z : WD} (hI : wI Z) (hZ : IsM Z) (M : Mem) (x1 : Int32) (x2 : Int32) {r : Int32} {M' : Mem} (hf : f_MM_crucial M x1 x2 = some (r, M')) : Ci l Z y_MM_crucial b_MM_crucial 7 (some .int) 7 170 [.ref (Z.2.2.1 0), .int x1, .int x2] M M' r := by
  refine Met.ofW (cc := b_MM_crucial) (maxL := 7) (ret := (some .int)) (by decide) rfl ?_
  intro p e s m args below meth c s₁ B hml hv
  obtain ⟨rfl, hP, hX⟩ := hv
  have S : CallFix p m c b_MM_crucial 7 s ([.ref (Z.2.2.1 0), .int x1, .int x2] : List Value).toArray gtb R_MM := ⟨B.exec, B.bytes, hml, findClass_of_methodNamed B.named, fun w hw => atoms_spec (ws := .code y_MM_crucial b_MM_crucial 7 (some .int) :: gtb) B.pre w (List.mem_cons_of_mem _ hw)⟩
  have hl := lv_entry ([.ref (Z.2.2.1 0), .int x1, .int x2]) (n := 7) (Nat.le_of_ble_eq_true rfl)
  rw [lg_entry_eq]
  exact wk_MM_crucial hI hZ M x1 x2 S hX ⟨Nat.le_refl _, Nat.le_refl _⟩ (fun pc H locs ls hH d => q_ri S.1 S.2.1 B.returns B.notSynchronized hH rfl rfl d) hf ⟨hP, va_S.rf⟩ hl
noncomputable def f_MM_least_J76 (M : Mem) (x1 : Int32) : Option (Int32 × Mem) := bnd (f_MM_moves 3 302 1 302 M (0 : Int32) (0 : Int32)) (fun M2 => some (x1, M2))
noncomputable def f_MM_least_L32 (x1 : Int32) (x2 : Int32) (x3 : Int32) (M : Mem) : Option ((Int32 × Int32 × Int32 × Mem) ⊕ (Int32 × Mem)) := if x3 ≤ 0 then some (.inr (x1, M)) else 
    if x2 = 0 then some (.inr (x1, M)) else 
    lt1 (upM M 1 3 x3) (fun M3 => 
    bnd (f_MM_runs M3) (fun M5 => 
    bnd (f_MM_soundSet M5) (fun y7 => 
    bnd (f_MM_decideAlike M5 y7) (fun y9 => 
    if (bI y9) = 0 then some (.inl (x1, bI y9, x3 + (-1 : Int32), M5)) else some (.inl (x3, bI y9, x3 + (-1 : Int32), M5))))))
noncomputable def f_MM_least_W32  (u : (Int32 × Int32 × Int32 × Mem)) : Option (Int32 × Mem) := loop (fun t => f_MM_least_L32 t.1 t.2.1 t.2.2.1 t.2.2.2) u
noncomputable def f_MM_least_J32 (M : Mem) (x1 : Int32) (x2 : Int32) (x3 : Int32) : Option (Int32 × Mem) := bnd (f_MM_least_W32 (x1, x2, x3, M)) (fun e32 => f_MM_least_J76 e32.2 e32.1)
noncomputable def f_MM_least (M : Mem) : Option (Int32 × Mem) := 
    if (M 1 0) = 0 then some ((-1 : Int32), M) else 
    bnd (f_MM_moves 1 302 3 302 M (0 : Int32) (0 : Int32)) (fun M11 => f_MM_least_J32 M11 (-2 : Int32) (1 : Int32) (8 : Int32))
set_option maxHeartbeats 4000000 in
theorem wk_MM_least {l : Launch} {Z : WD} (hI : wI Z) (hZ : IsM Z) (M : Mem) {r : Int32} {M' : Mem} {p : Program} {e : Env} {R : Room} {s : State} {m : MethodId} {args : Array Value} {below : List Frame} {meth : Method} {c : Code} {H : Heap} {locs : List Loc} {ls : Array Slot} {Q : State → Prop} (S : CallFix p m c b_MM_least 4 s args gtb R_MM) (hX : wX Z s) (hR : 6 ≤ R.frames ∧ 148 ≤ R.locals) (hQ : ∀ (pc : Nat) (H : Heap) (locs : List Loc) (ls : Array Slot), HW Z M' s H locs → decode b_MM_least pc = .ok (.ireturn, 1) → W p l e R s m args below meth c H locs 0 0 Q (F0 m pc ls [.int r])) (hf0 : f_MM_least M = some (r, M')) (hH : HW Z M s H locs) (hl : lv_has ls 4 [(0, .ref (Z.2.2.1 0))]) : W p l e R s m args below meth c H locs 0 0 Q (F0 m 0 ls []) := by
  have hx := S.1
  have hb := S.2.1
  have hown := S.2.2.2.1
  have ht := S.2.2.2.2
  unfold f_MM_least at hf0
  have J76 : ∀ (M : Mem) (x1 : Int32) (H : Heap) (locs : List Loc) (ls : Array Slot), f_MM_least_J76 M x1 = some (r, M') → HW Z M s H locs → lv_has ls 4 [(0, .ref (Z.2.2.1 0)), (1, .int x1)] → W p l e R s m args below meth c H locs 0 0 Q (F0 m 76 ls []) := by
    intro M x1 H locs ls hf0 hH hl
    unfold f_MM_least_J76 at hf0
    refine lv_aload_n hx hb d_MM_least_76 rfl (lv_at hl 0 rfl) ?_
    refine g_MM_16 S hX hH hZ d_MM_least_77 ?_
    refine lv_iconst (v := (0 : Int32)) hx hb d_MM_least_80 (by decide) ?_
    refine lv_aload_n hx hb d_MM_least_81 rfl (lv_at hl 0 rfl) ?_
    refine g_MM_9 S hX hH hZ d_MM_least_82 ?_
    refine lv_iconst (v := (0 : Int32)) hx hb d_MM_least_85 (by decide) ?_
    obtain ⟨M2, hc1, hf0⟩ := o_b hf0
    refine q_cSv (As := [.ref (Z.2.2.1 3), .int (0 : Int32), .ref (Z.2.2.1 1), .int (0 : Int32)]) (rest := []) S hX hH (c_MM_moves l hI 3 302 1 302 M (0 : Int32) (0 : Int32) (aa_MM_3 hZ) (aa_MM_1 hZ) hc1) (cw_MM_190 S.2.2.2.2 (Nat.le_trans (Nat.le_of_ble_eq_true rfl) hR.1) (Nat.le_trans (Nat.le_of_ble_eq_true rfl) hR.2)) rfl hl.1 rfl (Nat.le_of_ble_eq_true rfl) d_MM_least_86 ⟨Nat.zero_le _, Nat.zero_le _⟩ (fun H locs hH => ?_)
    refine lv_iload_n hx hb d_MM_least_89 rfl (lv_at hl 1 rfl) ?_
    obtain ⟨rfl, rfl⟩ := o_p hf0
    exact hQ _ _ _ _ hH d_MM_least_90
  have J32 : ∀ (M : Mem) (x1 : Int32) (x2 : Int32) (x3 : Int32) (H : Heap) (locs : List Loc) (ls : Array Slot), f_MM_least_J32 M x1 x2 x3 = some (r, M') → HW Z M s H locs → lv_has ls 4 [(0, .ref (Z.2.2.1 0)), (1, .int x1), (2, .int x2), (3, .int x3)] → W p l e R s m args below meth c H locs 0 0 Q (F0 m 32 ls []) := by
    intro M x1 x2 x3 H locs ls hf0 hH hl
    unfold f_MM_least_J32 at hf0
    obtain ⟨e32, he32, hf0⟩ := o_b hf0
    have KX32 : ∀ (H : Heap) (locs : List Loc) (ls : Array Slot), HW Z e32.2 s H locs → lv_has ls 4 [(0, .ref (Z.2.2.1 0)), (1, .int e32.1)] → W p l e R s m args below meth c H locs 0 0 Q (F0 m 76 ls []) := by
      intro H locs ls hH hl
      exact J76 _ _ _ _ _ hf0 hH (lv_sub hl [0, 1] rfl)
    unfold f_MM_least_W32 at he32
    refine loop_W (fun t => ∀ (H : Heap) (locs : List Loc) (ls : Array Slot), HW Z t.2.2.2 s H locs → lv_has ls 4 [(0, .ref (Z.2.2.1 0)), (1, .int t.1), (2, .int t.2.1), (3, .int t.2.2.1)] → W p l e R s m args below meth c H locs 0 0 Q (F0 m 32 ls [])) ?_ he32 H locs ls hH hl
    rintro ⟨x1, x2, x3, M⟩ o1 hf1 hG1 hR1 H locs ls hH hl
    replace hH : HW Z M s H locs := hH
    replace hl : lv_has ls 4 [(0, .ref (Z.2.2.1 0)), (1, .int x1), (2, .int x2), (3, .int x3)] := hl
    replace hf1 : f_MM_least_L32 x1 x2 x3 M = some o1 := hf1
    unfold f_MM_least_L32 at hf1
    refine lv_iload_n hx hb d_MM_least_32 rfl (lv_at hl 3 rfl) ?_
    refine lv_if_le (tgt := 76) hx hb d_MM_least_33 (by decide) (fun hc => ?_) (fun hc => ?_)
    · replace hf1 := o_t hc hf1
      obtain rfl := hR1 _ (o_v hf1).symm
      exact KX32 _ _ _ hH (lv_sub hl [0, 1] rfl)
    · replace hf1 := o_f hc hf1
      refine lv_iload_n hx hb d_MM_least_36 rfl (lv_at hl 2 rfl) ?_
      refine lv_if_eq (tgt := 76) hx hb d_MM_least_37 (by decide) (fun hc => ?_) (fun hc => ?_)
      · replace hf1 := o_t hc hf1
        obtain rfl := hR1 _ (o_v hf1).symm
        exact KX32 _ _ _ hH (lv_sub hl [0, 1] rfl)
      · replace hf1 := o_f hc hf1
        refine lv_aload_n hx hb d_MM_least_40 rfl (lv_at hl 0 rfl) ?_
        refine g_MM_9 S hX hH hZ d_MM_least_41 ?_
        refine lv_iconst (v := (3 : Int32)) hx hb d_MM_least_44 (by decide) ?_
        refine lv_iload_n hx hb d_MM_least_45 rfl (lv_at hl 3 rfl) ?_
        obtain ⟨M3, hM3, hf1⟩ := o_l hf1
        refine q_iast (j := 3) hx hb hX hI hH (aa_MM_1 hZ) (vp_c (by decide)) (by decide) d_MM_least_46 (fun H locs hH => ?_)
        rw [hM3] at hH
        refine lv_aload_n hx hb d_MM_least_47 rfl (lv_at hl 0 rfl) ?_
        obtain ⟨M5, hc4, hf1⟩ := o_b hf1
        refine q_cVv (As := []) (rest := []) S hX hH (c_MM_runs l hI hZ M3 hc4) (cw_MM_321 S.2.2.2.2 (Nat.le_trans (Nat.le_of_ble_eq_true rfl) hR.1) (Nat.le_trans (Nat.le_of_ble_eq_true rfl) hR.2)) (rc_MM hX hH hZ) rfl hl.1 rfl (Nat.le_of_ble_eq_true rfl) d_MM_least_48 ⟨Nat.zero_le _, Nat.zero_le _⟩ (fun H locs hH => ?_)
        refine lv_aload_n hx hb d_MM_least_51 rfl (lv_at hl 0 rfl) ?_
        refine lv_aload_n hx hb d_MM_least_52 rfl (lv_at hl 0 rfl) ?_
        obtain ⟨y7, hc6, hf1⟩ := o_b hf1
        refine q_cVi (As := []) (rest := [.ref (Z.2.2.1 0)]) S hX hH (c_MM_soundSet l hI hZ M5 hc6) (cw_MM_332 S.2.2.2.2 (Nat.le_trans (Nat.le_of_ble_eq_true rfl) hR.1) (Nat.le_trans (Nat.le_of_ble_eq_true rfl) hR.2)) (rc_MM hX hH hZ) rfl hl.1 rfl (Nat.le_of_ble_eq_true rfl) d_MM_least_53 ⟨Nat.zero_le _, Nat.zero_le _⟩ (fun H locs hH => ?_)
        obtain ⟨y9, hc8, hf1⟩ := o_b hf1
        refine q_cVi (As := [.int y7]) (rest := []) S hX hH (c_MM_decideAlike l hI hZ M5 y7 hc8) (cw_MM_335 S.2.2.2.2 (Nat.le_trans (Nat.le_of_ble_eq_true rfl) hR.1) (Nat.le_trans (Nat.le_of_ble_eq_true rfl) hR.2)) (rc_MM hX hH hZ) rfl hl.1 rfl (Nat.le_of_ble_eq_true rfl) d_MM_least_56 ⟨Nat.zero_le _, Nat.zero_le _⟩ (fun H locs hH => ?_)
        refine lv_istore_n (lv' := [(2, .int (bI y9)), (0, .ref (Z.2.2.1 0)), (1, .int x1), (3, .int x3)]) hx hb d_MM_least_59 rfl hl (by decide) rfl (fun ls hl => ?_)
        refine lv_iload_n hx hb d_MM_least_60 rfl (lv_at hl 0 rfl) ?_
        refine lv_if_eq (tgt := 68) hx hb d_MM_least_61 (by decide) (fun hc => ?_) (fun hc => ?_)
        · replace hf1 := o_t hc hf1
          refine lv_iload_n hx hb d_MM_least_68 rfl (lv_at hl 2 rfl) ?_
          refine lv_istore_n (lv' := [(1, .int x1), (2, .int (bI y9)), (0, .ref (Z.2.2.1 0)), (3, .int x3)]) hx hb d_MM_least_69 rfl hl (by decide) rfl (fun ls hl => ?_)
          refine lv_iinc (v := x3 + (-1 : Int32)) (lv' := [(3, .int (x3 + (-1 : Int32))), (1, .int x1), (2, .int (bI y9)), (0, .ref (Z.2.2.1 0))]) hx hb d_MM_least_70 hl (k := 3) rfl rfl (by decide) rfl (fun ls hl => ?_)
          refine lv_goto (tgt := 32) hx hb d_MM_least_73 (by decide) ?_
          exact hG1 _ (o_v hf1).symm _ _ _ hH (lv_sub hl [3, 1, 2, 0] rfl)
        · replace hf1 := o_f hc hf1
          refine lv_iload_n hx hb d_MM_least_64 rfl (lv_at hl 3 rfl) ?_
          refine lv_goto (tgt := 69) hx hb d_MM_least_65 (by decide) ?_
          refine lv_istore_n (lv' := [(1, .int x3), (2, .int (bI y9)), (0, .ref (Z.2.2.1 0)), (3, .int x3)]) hx hb d_MM_least_69 rfl hl (by decide) rfl (fun ls hl => ?_)
          refine lv_iinc (v := x3 + (-1 : Int32)) (lv' := [(3, .int (x3 + (-1 : Int32))), (1, .int x3), (2, .int (bI y9)), (0, .ref (Z.2.2.1 0))]) hx hb d_MM_least_70 hl (k := 3) rfl rfl (by decide) rfl (fun ls hl => ?_)
          refine lv_goto (tgt := 32) hx hb d_MM_least_73 (by decide) ?_
          exact hG1 _ (o_v hf1).symm _ _ _ hH (lv_sub hl [3, 1, 2, 0] rfl)
  refine lv_aload_n hx hb d_MM_least_0 rfl (lv_at hl 0 rfl) ?_
  refine g_MM_9 S hX hH hZ d_MM_least_1 ?_
  refine lv_iconst (v := (0 : Int32)) hx hb d_MM_least_4 (by decide) ?_
  refine q_iald (j := 0) hx hb hX hH (aa_MM_1 hZ) (vp_c (by decide)) (by decide) d_MM_least_5 ?_
  refine lv_if_ne (tgt := 11) hx hb d_MM_least_6 (by decide) (fun hc => ?_) (fun hc => ?_)
  · replace hf0 := o_f hc hf0
    refine lv_aload_n hx hb d_MM_least_11 rfl (lv_at hl 0 rfl) ?_
    refine g_MM_9 S hX hH hZ d_MM_least_12 ?_
    refine lv_iconst (v := (0 : Int32)) hx hb d_MM_least_15 (by decide) ?_
    refine lv_aload_n hx hb d_MM_least_16 rfl (lv_at hl 0 rfl) ?_
    refine g_MM_16 S hX hH hZ d_MM_least_17 ?_
    refine lv_iconst (v := (0 : Int32)) hx hb d_MM_least_20 (by decide) ?_
    obtain ⟨M11, hc10, hf0⟩ := o_b hf0
    refine q_cSv (As := [.ref (Z.2.2.1 1), .int (0 : Int32), .ref (Z.2.2.1 3), .int (0 : Int32)]) (rest := []) S hX hH (c_MM_moves l hI 1 302 3 302 M (0 : Int32) (0 : Int32) (aa_MM_1 hZ) (aa_MM_3 hZ) hc10) (cw_MM_190 S.2.2.2.2 (Nat.le_trans (Nat.le_of_ble_eq_true rfl) hR.1) (Nat.le_trans (Nat.le_of_ble_eq_true rfl) hR.2)) rfl hl.1 rfl (Nat.le_of_ble_eq_true rfl) d_MM_least_21 ⟨Nat.zero_le _, Nat.zero_le _⟩ (fun H locs hH => ?_)
    refine lv_bipush (v := (-2 : Int32)) hx hb d_MM_least_24 (by decide) ?_
    refine lv_istore_n (lv' := [(1, .int (-2 : Int32)), (0, .ref (Z.2.2.1 0))]) hx hb d_MM_least_26 rfl hl (by decide) rfl (fun ls hl => ?_)
    refine lv_iconst (v := (1 : Int32)) hx hb d_MM_least_27 (by decide) ?_
    refine lv_istore_n (lv' := [(2, .int (1 : Int32)), (1, .int (-2 : Int32)), (0, .ref (Z.2.2.1 0))]) hx hb d_MM_least_28 rfl hl (by decide) rfl (fun ls hl => ?_)
    refine lv_bipush (v := (8 : Int32)) hx hb d_MM_least_29 (by decide) ?_
    refine lv_istore_n (lv' := [(3, .int (8 : Int32)), (2, .int (1 : Int32)), (1, .int (-2 : Int32)), (0, .ref (Z.2.2.1 0))]) hx hb d_MM_least_31 rfl hl (by decide) rfl (fun ls hl => ?_)
    exact J32 _ _ _ _ _ _ _ hf0 hH (lv_sub hl [3, 2, 1, 0] rfl)
  · replace hf0 := o_t hc hf0
    refine lv_iconst (v := (-1 : Int32)) hx hb d_MM_least_9 (by decide) ?_
    obtain ⟨rfl, rfl⟩ := o_p hf0
    exact hQ _ _ _ _ hH d_MM_least_10
theorem c_MM_least (l : Launch) {Z : WD} (hI : wI Z) (hZ : IsM Z) (M : Mem) {r : Int32} {M' : Mem} (hf : f_MM_least M = some (r, M')) : Ci l Z y_MM_least b_MM_least 4 (some .int) 6 148 [.ref (Z.2.2.1 0)] M M' r := by
  refine Met.ofW (cc := b_MM_least) (maxL := 4) (ret := (some .int)) (by decide) rfl ?_
  intro p e s m args below meth c s₁ B hml hv
  obtain ⟨rfl, hP, hX⟩ := hv
  have S : CallFix p m c b_MM_least 4 s ([.ref (Z.2.2.1 0)] : List Value).toArray gtb R_MM := ⟨B.exec, B.bytes, hml, findClass_of_methodNamed B.named, fun w hw => atoms_spec (ws := .code y_MM_least b_MM_least 4 (some .int) :: gtb) B.pre w (List.mem_cons_of_mem _ hw)⟩
  have hl := lv_entry ([.ref (Z.2.2.1 0)]) (n := 4) (Nat.le_of_ble_eq_true rfl)
  rw [lg_entry_eq]
  exact wk_MM_least hI hZ M S hX ⟨Nat.le_refl _, Nat.le_refl _⟩ (fun pc H locs ls hH d => q_ri S.1 S.2.1 B.returns B.notSynchronized hH rfl rfl d) hf ⟨hP, va_S.rf⟩ hl
noncomputable def f_MM_honestSet_J30 (M : Mem) (x2 : Int32) (s0 : Int32) (s1 : Int32) : Option ((Int32 × Int32) ⊕ Int32) := some (.inl (s1 ||| s0, x2 + (1 : Int32)))
noncomputable def f_MM_honestSet_L4 (M : Mem) (x1 : Int32) (x2 : Int32) : Option ((Int32 × Int32) ⊕ Int32) := if (M 1 0) ≤ x2 then some (.inr x1) else 
    if (bI (f_MM_isLiar M x2)) = 0 then f_MM_honestSet_J30 M x2 ((1 : Int32) <<< (x2 &&& 31)) x1 else f_MM_honestSet_J30 M x2 (0 : Int32) x1
noncomputable def f_MM_honestSet_W4 (M : Mem) (u : (Int32 × Int32)) : Option Int32 := loop (fun t => f_MM_honestSet_L4 M t.1 t.2) u
noncomputable def f_MM_honestSet_J4 (M : Mem) (x1 : Int32) (x2 : Int32) : Option (Int32) := bnd (f_MM_honestSet_W4 M (x1, x2)) (fun e4 => some e4)
noncomputable def f_MM_honestSet (M : Mem) : Option Int32 := f_MM_honestSet_J4 M (0 : Int32) (0 : Int32)
set_option maxHeartbeats 4000000 in
theorem wk_MM_honestSet {l : Launch} {Z : WD} (hI : wI Z) (hZ : IsM Z) (M : Mem) {r : Int32} {p : Program} {e : Env} {R : Room} {s : State} {m : MethodId} {args : Array Value} {below : List Frame} {meth : Method} {c : Code} {H : Heap} {locs : List Loc} {ls : Array Slot} {Q : State → Prop} (S : CallFix p m c b_MM_honestSet 3 s args gtb R_MM) (hX : wX Z s) (hR : 2 ≤ R.frames ∧ 42 ≤ R.locals) (hQ : ∀ (pc : Nat) (H : Heap) (locs : List Loc) (ls : Array Slot), HW Z M s H locs → decode b_MM_honestSet pc = .ok (.ireturn, 1) → W p l e R s m args below meth c H locs 0 0 Q (F0 m pc ls [.int r])) (hf0 : f_MM_honestSet M = some r) (hH : HW Z M s H locs) (hl : lv_has ls 3 [(0, .ref (Z.2.2.1 0))]) : W p l e R s m args below meth c H locs 0 0 Q (F0 m 0 ls []) := by
  have hx := S.1
  have hb := S.2.1
  have hown := S.2.2.2.1
  have ht := S.2.2.2.2
  unfold f_MM_honestSet at hf0
  have J4 : ∀ (x1 : Int32) (x2 : Int32) (H : Heap) (locs : List Loc) (ls : Array Slot), f_MM_honestSet_J4 M x1 x2 = some r → HW Z M s H locs → lv_has ls 3 [(0, .ref (Z.2.2.1 0)), (1, .int x1), (2, .int x2)] → W p l e R s m args below meth c H locs 0 0 Q (F0 m 4 ls []) := by
    intro x1 x2 H locs ls hf0 hH hl
    unfold f_MM_honestSet_J4 at hf0
    obtain ⟨e4, he4, hf0⟩ := o_b hf0
    unfold f_MM_honestSet_W4 at he4
    refine loop_W (fun t => ∀ (H : Heap) (locs : List Loc) (ls : Array Slot), HW Z M s H locs → lv_has ls 3 [(0, .ref (Z.2.2.1 0)), (1, .int t.1), (2, .int t.2)] → W p l e R s m args below meth c H locs 0 0 Q (F0 m 4 ls [])) ?_ he4 H locs ls hH hl
    rintro ⟨x1, x2⟩ o1 hf1 hG1 hR1 H locs ls hH hl
    replace hH : HW Z M s H locs := hH
    replace hl : lv_has ls 3 [(0, .ref (Z.2.2.1 0)), (1, .int x1), (2, .int x2)] := hl
    replace hf1 : f_MM_honestSet_L4 M x1 x2 = some o1 := hf1
    unfold f_MM_honestSet_L4 at hf1
    have J30 : ∀ (x2 : Int32) (s0 : Int32) (s1 : Int32) (H : Heap) (locs : List Loc) (ls : Array Slot), f_MM_honestSet_J30 M x2 s0 s1 = some o1 → HW Z M s H locs → lv_has ls 3 [(0, .ref (Z.2.2.1 0)), (2, .int x2)] → W p l e R s m args below meth c H locs 0 0 Q (F0 m 30 ls [.int s0, .int s1]) := by
      intro x2 s0 s1 H locs ls hf1 hH hl
      unfold f_MM_honestSet_J30 at hf1
      refine lv_ior hx hb d_MM_honestSet_30 ?_
      refine lv_istore_n (lv' := [(1, .int (s1 ||| s0)), (0, .ref (Z.2.2.1 0)), (2, .int x2)]) hx hb d_MM_honestSet_31 rfl hl (by decide) rfl (fun ls hl => ?_)
      refine lv_iinc (v := x2 + (1 : Int32)) (lv' := [(2, .int (x2 + (1 : Int32))), (1, .int (s1 ||| s0)), (0, .ref (Z.2.2.1 0))]) hx hb d_MM_honestSet_32 hl (k := 2) rfl rfl (by decide) rfl (fun ls hl => ?_)
      refine lv_goto (tgt := 4) hx hb d_MM_honestSet_35 (by decide) ?_
      exact hG1 _ (o_v hf1).symm _ _ _ hH (lv_sub hl [2, 1, 0] rfl)
    refine lv_iload_n hx hb d_MM_honestSet_4 rfl (lv_at hl 2 rfl) ?_
    refine lv_aload_n hx hb d_MM_honestSet_5 rfl (lv_at hl 0 rfl) ?_
    refine g_MM_9 S hX hH hZ d_MM_honestSet_6 ?_
    refine lv_iconst (v := (0 : Int32)) hx hb d_MM_honestSet_9 (by decide) ?_
    refine q_iald (j := 0) hx hb hX hH (aa_MM_1 hZ) (vp_c (by decide)) (by decide) d_MM_honestSet_10 ?_
    refine lv_icmp_ge (tgt := 38) hx hb d_MM_honestSet_11 (by decide) (fun hc => ?_) (fun hc => ?_)
    · replace hf1 := o_t hc hf1
      refine lv_iload_n hx hb d_MM_honestSet_38 rfl (lv_at hl 1 rfl) ?_
      obtain rfl := hR1 _ (o_v hf1).symm
      obtain rfl := o_v hf0
      exact hQ _ _ _ _ hH d_MM_honestSet_39
    · replace hf1 := o_f hc hf1
      refine lv_iload_n hx hb d_MM_honestSet_14 rfl (lv_at hl 1 rfl) ?_
      refine lv_aload_n hx hb d_MM_honestSet_15 rfl (lv_at hl 0 rfl) ?_
      refine lv_iload_n hx hb d_MM_honestSet_16 rfl (lv_at hl 2 rfl) ?_
      refine q_cVi (As := [.int x2]) (rest := [.int x1]) S hX hH (c_MM_isLiar l hI hZ M x2 rfl) (cw_MM_205 S.2.2.2.2 (Nat.le_trans (Nat.le_of_ble_eq_true rfl) hR.1) (Nat.le_trans (Nat.le_of_ble_eq_true rfl) hR.2)) (rc_MM hX hH hZ) rfl hl.1 rfl (Nat.le_of_ble_eq_true rfl) d_MM_honestSet_17 ⟨Nat.zero_le _, Nat.zero_le _⟩ (fun H locs hH => ?_)
      refine lv_if_eq (tgt := 27) hx hb d_MM_honestSet_20 (by decide) (fun hc => ?_) (fun hc => ?_)
      · replace hf1 := o_t hc hf1
        refine lv_iconst (v := (1 : Int32)) hx hb d_MM_honestSet_27 (by decide) ?_
        refine lv_iload_n hx hb d_MM_honestSet_28 rfl (lv_at hl 2 rfl) ?_
        refine lv_ishl hx hb d_MM_honestSet_29 ?_
        exact J30 _ _ _ _ _ _ hf1 hH (lv_sub hl [0, 2] rfl)
      · replace hf1 := o_f hc hf1
        refine lv_iconst (v := (0 : Int32)) hx hb d_MM_honestSet_23 (by decide) ?_
        refine lv_goto (tgt := 30) hx hb d_MM_honestSet_24 (by decide) ?_
        exact J30 _ _ _ _ _ _ hf1 hH (lv_sub hl [0, 2] rfl)
  refine lv_iconst (v := (0 : Int32)) hx hb d_MM_honestSet_0 (by decide) ?_
  refine lv_istore_n (lv' := [(1, .int (0 : Int32)), (0, .ref (Z.2.2.1 0))]) hx hb d_MM_honestSet_1 rfl hl (by decide) rfl (fun ls hl => ?_)
  refine lv_iconst (v := (0 : Int32)) hx hb d_MM_honestSet_2 (by decide) ?_
  refine lv_istore_n (lv' := [(2, .int (0 : Int32)), (1, .int (0 : Int32)), (0, .ref (Z.2.2.1 0))]) hx hb d_MM_honestSet_3 rfl hl (by decide) rfl (fun ls hl => ?_)
  exact J4 _ _ _ _ _ hf0 hH (lv_sub hl [2, 1, 0] rfl)
theorem c_MM_honestSet (l : Launch) {Z : WD} (hI : wI Z) (hZ : IsM Z) (M : Mem) {r : Int32} (hf : f_MM_honestSet M = some r) : Ci l Z y_MM_honestSet b_MM_honestSet 3 (some .int) 2 42 [.ref (Z.2.2.1 0)] M M r := by
  refine Met.ofW (cc := b_MM_honestSet) (maxL := 3) (ret := (some .int)) (by decide) rfl ?_
  intro p e s m args below meth c s₁ B hml hv
  obtain ⟨rfl, hP, hX⟩ := hv
  have S : CallFix p m c b_MM_honestSet 3 s ([.ref (Z.2.2.1 0)] : List Value).toArray gtb R_MM := ⟨B.exec, B.bytes, hml, findClass_of_methodNamed B.named, fun w hw => atoms_spec (ws := .code y_MM_honestSet b_MM_honestSet 3 (some .int) :: gtb) B.pre w (List.mem_cons_of_mem _ hw)⟩
  have hl := lv_entry ([.ref (Z.2.2.1 0)]) (n := 3) (Nat.le_of_ble_eq_true rfl)
  rw [lg_entry_eq]
  exact wk_MM_honestSet hI hZ M S hX ⟨Nat.le_refl _, Nat.le_refl _⟩ (fun pc H locs ls hH d => q_ri S.1 S.2.1 B.returns B.notSynchronized hH rfl rfl d) hf ⟨hP, va_S.rf⟩ hl
theorem cw_MM_350 {R : Room} {s : State} {args : Array Value} (ht : ∀ w ∈ gtb, w.before args s = true) (h1 : 2 + 1 ≤ R.frames) (h2 : 8 + (3 + 11) + 42 ≤ R.locals) : CallW R s args R_MM R_MM 350 y_MM_honestSet b_MM_honestSet 3 (some .int) (.code y_MM_honestSet b_MM_honestSet 3 (some .int) :: gtb) { frames := 2, cells := 0, slots := 0, locals := 42 } 0 0 0 := cwV 0 ht (gV w6_166 w6_168 ws_MM_honestSet w1_10 w6_169) rfl rfl rfl ⟨rfl, by decide, by decide, by decide +kernel⟩ ⟨h1, h2⟩
noncomputable def f_MM_heal_J168 (M : Mem) (x2 : Int32) (x3 : Int32) (x4 : Int32) (s0 : Int32) : Option ((Int32 × Int32 × Mem) ⊕ (Int32 × Mem)) := bnd (f_MM_moves 3 302 1 302 M (0 : Int32) (0 : Int32)) (fun M2 => some (.inl (s0, x4 + (1 : Int32), M2)))
noncomputable def f_MM_heal_J138 (M : Mem) (x2 : Int32) (x4 : Int32) (x5 : Int32) (s0 : Int32) (s1 : Int32) : Option ((Int32 × Mem) ⊕ Mem) := bnd (f_MM_takesOut M s1 s0) (fun M4 => some (.inl (x5 + (-1 : Int32), M4)))
noncomputable def f_MM_heal_J123 (M : Mem) (x2 : Int32) (x4 : Int32) (x5 : Int32) (s0 : Int32) : Option ((Int32 × Mem) ⊕ Mem) := if x2 ≤ x5 then f_MM_heal_J138 M x2 x4 x5 (x5 - x2) s0 else f_MM_heal_J138 M x2 x4 x5 x5 s0
noncomputable def f_MM_heal_L96 (x2 : Int32) (x4 : Int32) (x5 : Int32) (M : Mem) : Option ((Int32 × Mem) ⊕ Mem) := if x5 < 0 then some (.inr M) else 
    if (bI (f_MM_has x4 x5)) = 0 then some (.inl (x5 + (-1 : Int32), M)) else if x2 ≤ x5 then f_MM_heal_J123 M x2 x4 x5 (2 : Int32) else f_MM_heal_J123 M x2 x4 x5 (1 : Int32)
noncomputable def f_MM_heal_W96 (x2 : Int32) (x4 : Int32) (u : (Int32 × Mem)) : Option Mem := loop (fun t => f_MM_heal_L96 x2 x4 t.1 t.2) u
noncomputable def f_MM_heal_J96 (M : Mem) (x1 : Int32) (x2 : Int32) (x3 : Int32) (x4 : Int32) (x5 : Int32) : Option ((Int32 × Int32 × Mem) ⊕ (Int32 × Mem)) := bnd (f_MM_heal_W96 x2 x4 (x5, M)) (fun e96 => bnd (f_MM_runs e96) (fun M6 => 
    bnd (f_MM_honestSet M6) (fun y8 => 
    bnd (f_MM_decideAlike M6 y8) (fun y10 => if (bI y10) = 0 then f_MM_heal_J168 M6 x2 x3 x4 x1 else f_MM_heal_J168 M6 x2 x3 x4 x4))))
noncomputable def f_MM_heal_J89 (M : Mem) (x1 : Int32) (x2 : Int32) (x3 : Int32) (x4 : Int32) : Option ((Int32 × Int32 × Mem) ⊕ (Int32 × Mem)) := f_MM_heal_J96 M x1 x2 x3 x4 ((x2 + x3) - (1 : Int32))
noncomputable def f_MM_heal_L58 (x2 : Int32) (x3 : Int32) (x1 : Int32) (x4 : Int32) (M : Mem) : Option ((Int32 × Int32 × Mem) ⊕ (Int32 × Mem)) := if ((1 : Int32) <<< ((x2 + x3) &&& 31)) ≤ x4 then some (.inr (x1, M)) else 
    if x1 = (-2 : Int32) then f_MM_heal_J89 M x1 x2 x3 x4 else 
    if (f_Int_bitCount x4) < (f_Int_bitCount x1) then f_MM_heal_J89 M x1 x2 x3 x4 else some (.inl (x1, x4 + (1 : Int32), M))
noncomputable def f_MM_heal_W58 (x2 : Int32) (x3 : Int32) (u : (Int32 × Int32 × Mem)) : Option (Int32 × Mem) := loop (fun t => f_MM_heal_L58 x2 x3 t.1 t.2.1 t.2.2) u
noncomputable def f_MM_heal_J58 (M : Mem) (x1 : Int32) (x2 : Int32) (x3 : Int32) (x4 : Int32) : Option (Int32 × Mem) := bnd (f_MM_heal_W58 x2 x3 (x1, x4, M)) (fun e58 => some e58)
noncomputable def f_MM_heal (M : Mem) : Option (Int32 × Mem) := 
    if (M 1 0) = 0 then some ((-1 : Int32), M) else 
    bnd (f_MM_moves 1 302 3 302 M (0 : Int32) (0 : Int32)) (fun M12 => 
    f_MM_heal_J58 M12 (-2 : Int32) (miI (6 : Int32) (M12 1 8)) (miI ((6 : Int32) - (miI (6 : Int32) (M12 1 8))) (M12 1 9)) (0 : Int32))
set_option maxHeartbeats 4000000 in
theorem wk_MM_heal {l : Launch} {Z : WD} (hI : wI Z) (hZ : IsM Z) (M : Mem) {r : Int32} {M' : Mem} {p : Program} {e : Env} {R : Room} {s : State} {m : MethodId} {args : Array Value} {below : List Frame} {meth : Method} {c : Code} {H : Heap} {locs : List Loc} {ls : Array Slot} {Q : State → Prop} (S : CallFix p m c b_MM_heal 6 s args gtb R_MM) (hX : wX Z s) (hR : 6 ≤ R.frames ∧ 148 ≤ R.locals) (hQ : ∀ (pc : Nat) (H : Heap) (locs : List Loc) (ls : Array Slot), HW Z M' s H locs → decode b_MM_heal pc = .ok (.ireturn, 1) → W p l e R s m args below meth c H locs 0 0 Q (F0 m pc ls [.int r])) (hf0 : f_MM_heal M = some (r, M')) (hH : HW Z M s H locs) (hl : lv_has ls 6 [(0, .ref (Z.2.2.1 0))]) : W p l e R s m args below meth c H locs 0 0 Q (F0 m 0 ls []) := by
  have hx := S.1
  have hb := S.2.1
  have hown := S.2.2.2.1
  have ht := S.2.2.2.2
  unfold f_MM_heal at hf0
  have J58 : ∀ (M : Mem) (x1 : Int32) (x2 : Int32) (x3 : Int32) (x4 : Int32) (H : Heap) (locs : List Loc) (ls : Array Slot), f_MM_heal_J58 M x1 x2 x3 x4 = some (r, M') → HW Z M s H locs → lv_has ls 6 [(0, .ref (Z.2.2.1 0)), (1, .int x1), (2, .int x2), (3, .int x3), (4, .int x4)] → W p l e R s m args below meth c H locs 0 0 Q (F0 m 58 ls []) := by
    intro M x1 x2 x3 x4 H locs ls hf0 hH hl
    unfold f_MM_heal_J58 at hf0
    obtain ⟨e58, he58, hf0⟩ := o_b hf0
    unfold f_MM_heal_W58 at he58
    refine loop_W (fun t => ∀ (H : Heap) (locs : List Loc) (ls : Array Slot), HW Z t.2.2 s H locs → lv_has ls 6 [(0, .ref (Z.2.2.1 0)), (1, .int t.1), (2, .int x2), (3, .int x3), (4, .int t.2.1)] → W p l e R s m args below meth c H locs 0 0 Q (F0 m 58 ls [])) ?_ he58 H locs ls hH hl
    rintro ⟨x1, x4, M⟩ o1 hf1 hG1 hR1 H locs ls hH hl
    replace hH : HW Z M s H locs := hH
    replace hl : lv_has ls 6 [(0, .ref (Z.2.2.1 0)), (1, .int x1), (2, .int x2), (3, .int x3), (4, .int x4)] := hl
    replace hf1 : f_MM_heal_L58 x2 x3 x1 x4 M = some o1 := hf1
    unfold f_MM_heal_L58 at hf1
    have J168 : ∀ (M : Mem) (x4 : Int32) (s0 : Int32) (H : Heap) (locs : List Loc) (ls : Array Slot), f_MM_heal_J168 M x2 x3 x4 s0 = some o1 → HW Z M s H locs → lv_has ls 6 [(0, .ref (Z.2.2.1 0)), (2, .int x2), (3, .int x3), (4, .int x4)] → W p l e R s m args below meth c H locs 0 0 Q (F0 m 168 ls [.int s0]) := by
      intro M x4 s0 H locs ls hf1 hH hl
      unfold f_MM_heal_J168 at hf1
      refine lv_istore_n (lv' := [(1, .int s0), (0, .ref (Z.2.2.1 0)), (2, .int x2), (3, .int x3), (4, .int x4)]) hx hb d_MM_heal_168 rfl hl (by decide) rfl (fun ls hl => ?_)
      refine lv_aload_n hx hb d_MM_heal_169 rfl (lv_at hl 1 rfl) ?_
      refine g_MM_16 S hX hH hZ d_MM_heal_170 ?_
      refine lv_iconst (v := (0 : Int32)) hx hb d_MM_heal_173 (by decide) ?_
      refine lv_aload_n hx hb d_MM_heal_174 rfl (lv_at hl 1 rfl) ?_
      refine g_MM_9 S hX hH hZ d_MM_heal_175 ?_
      refine lv_iconst (v := (0 : Int32)) hx hb d_MM_heal_178 (by decide) ?_
      obtain ⟨M2, hc1, hf1⟩ := o_b hf1
      refine q_cSv (As := [.ref (Z.2.2.1 3), .int (0 : Int32), .ref (Z.2.2.1 1), .int (0 : Int32)]) (rest := []) S hX hH (c_MM_moves l hI 3 302 1 302 M (0 : Int32) (0 : Int32) (aa_MM_3 hZ) (aa_MM_1 hZ) hc1) (cw_MM_190 S.2.2.2.2 (Nat.le_trans (Nat.le_of_ble_eq_true rfl) hR.1) (Nat.le_trans (Nat.le_of_ble_eq_true rfl) hR.2)) rfl hl.1 rfl (Nat.le_of_ble_eq_true rfl) d_MM_heal_179 ⟨Nat.zero_le _, Nat.zero_le _⟩ (fun H locs hH => ?_)
      refine lv_iinc (v := x4 + (1 : Int32)) (lv' := [(4, .int (x4 + (1 : Int32))), (1, .int s0), (0, .ref (Z.2.2.1 0)), (2, .int x2), (3, .int x3)]) hx hb d_MM_heal_182 hl (k := 4) rfl rfl (by decide) rfl (fun ls hl => ?_)
      refine lv_goto (tgt := 58) hx hb d_MM_heal_185 (by decide) ?_
      exact hG1 _ (o_v hf1).symm _ _ _ hH (lv_sub hl [2, 1, 3, 4, 0] rfl)
    have J96 : ∀ (M : Mem) (x1 : Int32) (x4 : Int32) (x5 : Int32) (H : Heap) (locs : List Loc) (ls : Array Slot), f_MM_heal_J96 M x1 x2 x3 x4 x5 = some o1 → HW Z M s H locs → lv_has ls 6 [(0, .ref (Z.2.2.1 0)), (1, .int x1), (2, .int x2), (3, .int x3), (4, .int x4), (5, .int x5)] → W p l e R s m args below meth c H locs 0 0 Q (F0 m 96 ls []) := by
      intro M x1 x4 x5 H locs ls hf1 hH hl
      unfold f_MM_heal_J96 at hf1
      obtain ⟨e96, he96, hf1⟩ := o_b hf1
      have KX96 : ∀ (H : Heap) (locs : List Loc) (ls : Array Slot), HW Z e96 s H locs → lv_has ls 6 [(0, .ref (Z.2.2.1 0)), (1, .int x1), (2, .int x2), (3, .int x3), (4, .int x4)] → W p l e R s m args below meth c H locs 0 0 Q (F0 m 147 ls []) := by
        intro H locs ls hH hl
        refine lv_aload_n hx hb d_MM_heal_147 rfl (lv_at hl 0 rfl) ?_
        obtain ⟨M6, hc5, hf1⟩ := o_b hf1
        refine q_cVv (As := []) (rest := []) S hX hH (c_MM_runs l hI hZ e96 hc5) (cw_MM_321 S.2.2.2.2 (Nat.le_trans (Nat.le_of_ble_eq_true rfl) hR.1) (Nat.le_trans (Nat.le_of_ble_eq_true rfl) hR.2)) (rc_MM hX hH hZ) rfl hl.1 rfl (Nat.le_of_ble_eq_true rfl) d_MM_heal_148 ⟨Nat.zero_le _, Nat.zero_le _⟩ (fun H locs hH => ?_)
        refine lv_aload_n hx hb d_MM_heal_151 rfl (lv_at hl 0 rfl) ?_
        refine lv_aload_n hx hb d_MM_heal_152 rfl (lv_at hl 0 rfl) ?_
        obtain ⟨y8, hc7, hf1⟩ := o_b hf1
        refine q_cVi (As := []) (rest := [.ref (Z.2.2.1 0)]) S hX hH (c_MM_honestSet l hI hZ M6 hc7) (cw_MM_350 S.2.2.2.2 (Nat.le_trans (Nat.le_of_ble_eq_true rfl) hR.1) (Nat.le_trans (Nat.le_of_ble_eq_true rfl) hR.2)) (rc_MM hX hH hZ) rfl hl.1 rfl (Nat.le_of_ble_eq_true rfl) d_MM_heal_153 ⟨Nat.zero_le _, Nat.zero_le _⟩ (fun H locs hH => ?_)
        obtain ⟨y10, hc9, hf1⟩ := o_b hf1
        refine q_cVi (As := [.int y8]) (rest := []) S hX hH (c_MM_decideAlike l hI hZ M6 y8 hc9) (cw_MM_335 S.2.2.2.2 (Nat.le_trans (Nat.le_of_ble_eq_true rfl) hR.1) (Nat.le_trans (Nat.le_of_ble_eq_true rfl) hR.2)) (rc_MM hX hH hZ) rfl hl.1 rfl (Nat.le_of_ble_eq_true rfl) d_MM_heal_156 ⟨Nat.zero_le _, Nat.zero_le _⟩ (fun H locs hH => ?_)
        refine lv_if_eq (tgt := 167) hx hb d_MM_heal_159 (by decide) (fun hc => ?_) (fun hc => ?_)
        · replace hf1 := o_t hc hf1
          refine lv_iload_n hx hb d_MM_heal_167 rfl (lv_at hl 1 rfl) ?_
          exact J168 _ _ _ _ _ _ hf1 hH (lv_sub hl [0, 2, 3, 4] rfl)
        · replace hf1 := o_f hc hf1
          refine lv_iload hx hb d_MM_heal_162 (lv_at hl 4 rfl) ?_
          refine lv_goto (tgt := 168) hx hb d_MM_heal_164 (by decide) ?_
          exact J168 _ _ _ _ _ _ hf1 hH (lv_sub hl [0, 2, 3, 4] rfl)
      unfold f_MM_heal_W96 at he96
      refine loop_W (fun t => ∀ (H : Heap) (locs : List Loc) (ls : Array Slot), HW Z t.2 s H locs → lv_has ls 6 [(0, .ref (Z.2.2.1 0)), (1, .int x1), (2, .int x2), (3, .int x3), (4, .int x4), (5, .int t.1)] → W p l e R s m args below meth c H locs 0 0 Q (F0 m 96 ls [])) ?_ he96 H locs ls hH hl
      rintro ⟨x5, M⟩ o2 hf2 hG2 hR2 H locs ls hH hl
      replace hH : HW Z M s H locs := hH
      replace hl : lv_has ls 6 [(0, .ref (Z.2.2.1 0)), (1, .int x1), (2, .int x2), (3, .int x3), (4, .int x4), (5, .int x5)] := hl
      replace hf2 : f_MM_heal_L96 x2 x4 x5 M = some o2 := hf2
      unfold f_MM_heal_L96 at hf2
      have J138 : ∀ (M : Mem) (x5 : Int32) (s0 : Int32) (s1 : Int32) (H : Heap) (locs : List Loc) (ls : Array Slot), f_MM_heal_J138 M x2 x4 x5 s0 s1 = some o2 → HW Z M s H locs → lv_has ls 6 [(0, .ref (Z.2.2.1 0)), (1, .int x1), (2, .int x2), (3, .int x3), (4, .int x4), (5, .int x5)] → W p l e R s m args below meth c H locs 0 0 Q (F0 m 138 ls [.int s0, .int s1, .ref (Z.2.2.1 0)]) := by
        intro M x5 s0 s1 H locs ls hf2 hH hl
        unfold f_MM_heal_J138 at hf2
        obtain ⟨M4, hc3, hf2⟩ := o_b hf2
        refine q_cVv (As := [.int s1, .int s0]) (rest := []) S hX hH (c_MM_takesOut l hI hZ M s1 s0 hc3) (cw_MM_239 S.2.2.2.2 (Nat.le_trans (Nat.le_of_ble_eq_true rfl) hR.1) (Nat.le_trans (Nat.le_of_ble_eq_true rfl) hR.2)) (rc_MM hX hH hZ) rfl hl.1 rfl (Nat.le_of_ble_eq_true rfl) d_MM_heal_138 ⟨Nat.zero_le _, Nat.zero_le _⟩ (fun H locs hH => ?_)
        refine lv_iinc (v := x5 + (-1 : Int32)) (lv' := [(5, .int (x5 + (-1 : Int32))), (0, .ref (Z.2.2.1 0)), (1, .int x1), (2, .int x2), (3, .int x3), (4, .int x4)]) hx hb d_MM_heal_141 hl (k := 5) rfl rfl (by decide) rfl (fun ls hl => ?_)
        refine lv_goto (tgt := 96) hx hb d_MM_heal_144 (by decide) ?_
        exact hG2 _ (o_v hf2).symm _ _ _ hH (lv_sub hl [1, 2, 3, 4, 5, 0] rfl)
      have J123 : ∀ (M : Mem) (x5 : Int32) (s0 : Int32) (H : Heap) (locs : List Loc) (ls : Array Slot), f_MM_heal_J123 M x2 x4 x5 s0 = some o2 → HW Z M s H locs → lv_has ls 6 [(0, .ref (Z.2.2.1 0)), (1, .int x1), (2, .int x2), (3, .int x3), (4, .int x4), (5, .int x5)] → W p l e R s m args below meth c H locs 0 0 Q (F0 m 123 ls [.int s0, .ref (Z.2.2.1 0)]) := by
        intro M x5 s0 H locs ls hf2 hH hl
        unfold f_MM_heal_J123 at hf2
        refine lv_iload hx hb d_MM_heal_123 (lv_at hl 5 rfl) ?_
        refine lv_iload_n hx hb d_MM_heal_125 rfl (lv_at hl 2 rfl) ?_
        refine lv_icmp_ge (tgt := 134) hx hb d_MM_heal_126 (by decide) (fun hc => ?_) (fun hc => ?_)
        · replace hf2 := o_t hc hf2
          refine lv_iload hx hb d_MM_heal_134 (lv_at hl 5 rfl) ?_
          refine lv_iload_n hx hb d_MM_heal_136 rfl (lv_at hl 2 rfl) ?_
          refine lv_isub hx hb d_MM_heal_137 ?_
          exact J138 _ _ _ _ _ _ _ hf2 hH (lv_sub hl [0, 1, 2, 3, 4, 5] rfl)
        · replace hf2 := o_f hc hf2
          refine lv_iload hx hb d_MM_heal_129 (lv_at hl 5 rfl) ?_
          refine lv_goto (tgt := 138) hx hb d_MM_heal_131 (by decide) ?_
          exact J138 _ _ _ _ _ _ _ hf2 hH (lv_sub hl [0, 1, 2, 3, 4, 5] rfl)
      refine lv_iload hx hb d_MM_heal_96 (lv_at hl 5 rfl) ?_
      refine lv_if_lt (tgt := 147) hx hb d_MM_heal_98 (by decide) (fun hc => ?_) (fun hc => ?_)
      · replace hf2 := o_t hc hf2
        obtain rfl := hR2 _ (o_v hf2).symm
        exact KX96 _ _ _ hH (lv_sub hl [0, 1, 2, 3, 4] rfl)
      · replace hf2 := o_f hc hf2
        refine lv_iload hx hb d_MM_heal_101 (lv_at hl 4 rfl) ?_
        refine lv_iload hx hb d_MM_heal_103 (lv_at hl 5 rfl) ?_
        refine q_cSi (As := [.int x4, .int x5]) (rest := []) S hX hH (c_MM_has l hI M x4 x5 rfl) (cw_MM_201 S.2.2.2.2 (Nat.le_trans (Nat.le_of_ble_eq_true rfl) hR.1) (Nat.le_trans (Nat.le_of_ble_eq_true rfl) hR.2)) rfl hl.1 rfl (Nat.le_of_ble_eq_true rfl) d_MM_heal_105 ⟨Nat.zero_le _, Nat.zero_le _⟩ (fun H locs hH => ?_)
        refine lv_if_eq (tgt := 141) hx hb d_MM_heal_108 (by decide) (fun hc => ?_) (fun hc => ?_)
        · replace hf2 := o_t hc hf2
          refine lv_iinc (v := x5 + (-1 : Int32)) (lv' := [(5, .int (x5 + (-1 : Int32))), (0, .ref (Z.2.2.1 0)), (1, .int x1), (2, .int x2), (3, .int x3), (4, .int x4)]) hx hb d_MM_heal_141 hl (k := 5) rfl rfl (by decide) rfl (fun ls hl => ?_)
          refine lv_goto (tgt := 96) hx hb d_MM_heal_144 (by decide) ?_
          exact hG2 _ (o_v hf2).symm _ _ _ hH (lv_sub hl [1, 2, 3, 4, 5, 0] rfl)
        · replace hf2 := o_f hc hf2
          refine lv_aload_n hx hb d_MM_heal_111 rfl (lv_at hl 0 rfl) ?_
          refine lv_iload hx hb d_MM_heal_112 (lv_at hl 5 rfl) ?_
          refine lv_iload_n hx hb d_MM_heal_114 rfl (lv_at hl 2 rfl) ?_
          refine lv_icmp_ge (tgt := 122) hx hb d_MM_heal_115 (by decide) (fun hc => ?_) (fun hc => ?_)
          · replace hf2 := o_t hc hf2
            refine lv_iconst (v := (2 : Int32)) hx hb d_MM_heal_122 (by decide) ?_
            exact J123 _ _ _ _ _ _ hf2 hH (lv_sub hl [0, 1, 2, 3, 4, 5] rfl)
          · replace hf2 := o_f hc hf2
            refine lv_iconst (v := (1 : Int32)) hx hb d_MM_heal_118 (by decide) ?_
            refine lv_goto (tgt := 123) hx hb d_MM_heal_119 (by decide) ?_
            exact J123 _ _ _ _ _ _ hf2 hH (lv_sub hl [0, 1, 2, 3, 4, 5] rfl)
    have J89 : ∀ (M : Mem) (x1 : Int32) (x4 : Int32) (H : Heap) (locs : List Loc) (ls : Array Slot), f_MM_heal_J89 M x1 x2 x3 x4 = some o1 → HW Z M s H locs → lv_has ls 6 [(0, .ref (Z.2.2.1 0)), (1, .int x1), (2, .int x2), (3, .int x3), (4, .int x4)] → W p l e R s m args below meth c H locs 0 0 Q (F0 m 89 ls []) := by
      intro M x1 x4 H locs ls hf1 hH hl
      unfold f_MM_heal_J89 at hf1
      refine lv_iload_n hx hb d_MM_heal_89 rfl (lv_at hl 2 rfl) ?_
      refine lv_iload_n hx hb d_MM_heal_90 rfl (lv_at hl 3 rfl) ?_
      refine lv_iadd hx hb d_MM_heal_91 ?_
      refine lv_iconst (v := (1 : Int32)) hx hb d_MM_heal_92 (by decide) ?_
      refine lv_isub hx hb d_MM_heal_93 ?_
      refine lv_istore (lv' := [(5, .int ((x2 + x3) - (1 : Int32))), (0, .ref (Z.2.2.1 0)), (1, .int x1), (2, .int x2), (3, .int x3), (4, .int x4)]) hx hb d_MM_heal_94 hl (by decide) rfl (fun ls hl => ?_)
      exact J96 _ _ _ _ _ _ _ hf1 hH (lv_sub hl [1, 2, 3, 4, 5, 0] rfl)
    refine lv_iload hx hb d_MM_heal_58 (lv_at hl 4 rfl) ?_
    refine lv_iconst (v := (1 : Int32)) hx hb d_MM_heal_60 (by decide) ?_
    refine lv_iload_n hx hb d_MM_heal_61 rfl (lv_at hl 2 rfl) ?_
    refine lv_iload_n hx hb d_MM_heal_62 rfl (lv_at hl 3 rfl) ?_
    refine lv_iadd hx hb d_MM_heal_63 ?_
    refine lv_ishl hx hb d_MM_heal_64 ?_
    refine lv_icmp_ge (tgt := 188) hx hb d_MM_heal_65 (by decide) (fun hc => ?_) (fun hc => ?_)
    · replace hf1 := o_t hc hf1
      refine lv_iload_n hx hb d_MM_heal_188 rfl (lv_at hl 1 rfl) ?_
      obtain rfl := hR1 _ (o_v hf1).symm
      obtain ⟨rfl, rfl⟩ := o_p hf0
      exact hQ _ _ _ _ hH d_MM_heal_189
    · replace hf1 := o_f hc hf1
      refine lv_iload_n hx hb d_MM_heal_68 rfl (lv_at hl 1 rfl) ?_
      refine lv_bipush (v := (-2 : Int32)) hx hb d_MM_heal_69 (by decide) ?_
      refine lv_icmp_eq (tgt := 89) hx hb d_MM_heal_71 (by decide) (fun hc => ?_) (fun hc => ?_)
      · replace hf1 := o_t hc hf1
        exact J89 _ _ _ _ _ _ hf1 hH (lv_sub hl [0, 1, 2, 3, 4] rfl)
      · replace hf1 := o_f hc hf1
        refine lv_iload hx hb d_MM_heal_74 (lv_at hl 4 rfl) ?_
        refine q_cSi (As := [.int x4]) (rest := []) S hX hH (c_Int_bitCount l hI M x4 rfl) (cw_MM_255 S.2.2.2.2 (Nat.le_trans (Nat.le_of_ble_eq_true rfl) hR.1) (Nat.le_trans (Nat.le_of_ble_eq_true rfl) hR.2)) rfl hl.1 rfl (Nat.le_of_ble_eq_true rfl) d_MM_heal_76 ⟨Nat.zero_le _, Nat.zero_le _⟩ (fun H locs hH => ?_)
        refine lv_iload_n hx hb d_MM_heal_79 rfl (lv_at hl 1 rfl) ?_
        refine q_cSi (As := [.int x1]) (rest := [.int (f_Int_bitCount x4)]) S hX hH (c_Int_bitCount l hI M x1 rfl) (cw_MM_255 S.2.2.2.2 (Nat.le_trans (Nat.le_of_ble_eq_true rfl) hR.1) (Nat.le_trans (Nat.le_of_ble_eq_true rfl) hR.2)) rfl hl.1 rfl (Nat.le_of_ble_eq_true rfl) d_MM_heal_80 ⟨Nat.zero_le _, Nat.zero_le _⟩ (fun H locs hH => ?_)
        refine lv_icmp_lt (tgt := 89) hx hb d_MM_heal_83 (by decide) (fun hc => ?_) (fun hc => ?_)
        · replace hf1 := o_t hc hf1
          exact J89 _ _ _ _ _ _ hf1 hH (lv_sub hl [0, 1, 2, 3, 4] rfl)
        · replace hf1 := o_f hc hf1
          refine lv_goto (tgt := 182) hx hb d_MM_heal_86 (by decide) ?_
          refine lv_iinc (v := x4 + (1 : Int32)) (lv' := [(4, .int (x4 + (1 : Int32))), (0, .ref (Z.2.2.1 0)), (1, .int x1), (2, .int x2), (3, .int x3)]) hx hb d_MM_heal_182 hl (k := 4) rfl rfl (by decide) rfl (fun ls hl => ?_)
          refine lv_goto (tgt := 58) hx hb d_MM_heal_185 (by decide) ?_
          exact hG1 _ (o_v hf1).symm _ _ _ hH (lv_sub hl [1, 2, 3, 4, 0] rfl)
  refine lv_aload_n hx hb d_MM_heal_0 rfl (lv_at hl 0 rfl) ?_
  refine g_MM_9 S hX hH hZ d_MM_heal_1 ?_
  refine lv_iconst (v := (0 : Int32)) hx hb d_MM_heal_4 (by decide) ?_
  refine q_iald (j := 0) hx hb hX hH (aa_MM_1 hZ) (vp_c (by decide)) (by decide) d_MM_heal_5 ?_
  refine lv_if_ne (tgt := 11) hx hb d_MM_heal_6 (by decide) (fun hc => ?_) (fun hc => ?_)
  · replace hf0 := o_f hc hf0
    refine lv_aload_n hx hb d_MM_heal_11 rfl (lv_at hl 0 rfl) ?_
    refine g_MM_9 S hX hH hZ d_MM_heal_12 ?_
    refine lv_iconst (v := (0 : Int32)) hx hb d_MM_heal_15 (by decide) ?_
    refine lv_aload_n hx hb d_MM_heal_16 rfl (lv_at hl 0 rfl) ?_
    refine g_MM_16 S hX hH hZ d_MM_heal_17 ?_
    refine lv_iconst (v := (0 : Int32)) hx hb d_MM_heal_20 (by decide) ?_
    obtain ⟨M12, hc11, hf0⟩ := o_b hf0
    refine q_cSv (As := [.ref (Z.2.2.1 1), .int (0 : Int32), .ref (Z.2.2.1 3), .int (0 : Int32)]) (rest := []) S hX hH (c_MM_moves l hI 1 302 3 302 M (0 : Int32) (0 : Int32) (aa_MM_1 hZ) (aa_MM_3 hZ) hc11) (cw_MM_190 S.2.2.2.2 (Nat.le_trans (Nat.le_of_ble_eq_true rfl) hR.1) (Nat.le_trans (Nat.le_of_ble_eq_true rfl) hR.2)) rfl hl.1 rfl (Nat.le_of_ble_eq_true rfl) d_MM_heal_21 ⟨Nat.zero_le _, Nat.zero_le _⟩ (fun H locs hH => ?_)
    refine lv_bipush (v := (-2 : Int32)) hx hb d_MM_heal_24 (by decide) ?_
    refine lv_istore_n (lv' := [(1, .int (-2 : Int32)), (0, .ref (Z.2.2.1 0))]) hx hb d_MM_heal_26 rfl hl (by decide) rfl (fun ls hl => ?_)
    refine lv_bipush (v := (6 : Int32)) hx hb d_MM_heal_27 (by decide) ?_
    refine lv_aload_n hx hb d_MM_heal_29 rfl (lv_at hl 1 rfl) ?_
    refine g_MM_9 S hX hH hZ d_MM_heal_30 ?_
    refine lv_bipush (v := (8 : Int32)) hx hb d_MM_heal_33 (by decide) ?_
    refine q_iald (j := 8) hx hb hX hH (aa_MM_1 hZ) (vp_c (by decide)) (by decide) d_MM_heal_35 ?_
    refine q_min S hl.1 w5_105 w2_61 w1_9 w2_62 (Nat.le_trans (Nat.le_of_ble_eq_true rfl) hR.1) (Nat.le_trans (Nat.le_of_ble_eq_true rfl) hR.2) d_MM_heal_36 ?_
    refine lv_istore_n (lv' := [(2, .int (miI (6 : Int32) (M12 1 8))), (1, .int (-2 : Int32)), (0, .ref (Z.2.2.1 0))]) hx hb d_MM_heal_39 rfl hl (by decide) rfl (fun ls hl => ?_)
    refine lv_bipush (v := (6 : Int32)) hx hb d_MM_heal_40 (by decide) ?_
    refine lv_iload_n hx hb d_MM_heal_42 rfl (lv_at hl 0 rfl) ?_
    refine lv_isub hx hb d_MM_heal_43 ?_
    refine lv_aload_n hx hb d_MM_heal_44 rfl (lv_at hl 2 rfl) ?_
    refine g_MM_9 S hX hH hZ d_MM_heal_45 ?_
    refine lv_bipush (v := (9 : Int32)) hx hb d_MM_heal_48 (by decide) ?_
    refine q_iald (j := 9) hx hb hX hH (aa_MM_1 hZ) (vp_c (by decide)) (by decide) d_MM_heal_50 ?_
    refine q_min S hl.1 w5_105 w2_61 w1_9 w2_62 (Nat.le_trans (Nat.le_of_ble_eq_true rfl) hR.1) (Nat.le_trans (Nat.le_of_ble_eq_true rfl) hR.2) d_MM_heal_51 ?_
    refine lv_istore_n (lv' := [(3, .int (miI ((6 : Int32) - (miI (6 : Int32) (M12 1 8))) (M12 1 9))), (2, .int (miI (6 : Int32) (M12 1 8))), (1, .int (-2 : Int32)), (0, .ref (Z.2.2.1 0))]) hx hb d_MM_heal_54 rfl hl (by decide) rfl (fun ls hl => ?_)
    refine lv_iconst (v := (0 : Int32)) hx hb d_MM_heal_55 (by decide) ?_
    refine lv_istore (lv' := [(4, .int (0 : Int32)), (3, .int (miI ((6 : Int32) - (miI (6 : Int32) (M12 1 8))) (M12 1 9))), (2, .int (miI (6 : Int32) (M12 1 8))), (1, .int (-2 : Int32)), (0, .ref (Z.2.2.1 0))]) hx hb d_MM_heal_56 hl (by decide) rfl (fun ls hl => ?_)
    exact J58 _ _ _ _ _ _ _ _ hf0 hH (lv_sub hl [4, 3, 2, 1, 0] rfl)
  · replace hf0 := o_t hc hf0
    refine lv_iconst (v := (-1 : Int32)) hx hb d_MM_heal_9 (by decide) ?_
    obtain ⟨rfl, rfl⟩ := o_p hf0
    exact hQ _ _ _ _ hH d_MM_heal_10
theorem c_MM_heal (l : Launch) {Z : WD} (hI : wI Z) (hZ : IsM Z) (M : Mem) {r : Int32} {M' : Mem} (hf : f_MM_heal M = some (r, M')) : Ci l Z y_MM_heal b_MM_heal 6 (some .int) 6 148 [.ref (Z.2.2.1 0)] M M' r := by
  refine Met.ofW (cc := b_MM_heal) (maxL := 6) (ret := (some .int)) (by decide) rfl ?_
  intro p e s m args below meth c s₁ B hml hv
  obtain ⟨rfl, hP, hX⟩ := hv
  have S : CallFix p m c b_MM_heal 6 s ([.ref (Z.2.2.1 0)] : List Value).toArray gtb R_MM := ⟨B.exec, B.bytes, hml, findClass_of_methodNamed B.named, fun w hw => atoms_spec (ws := .code y_MM_heal b_MM_heal 6 (some .int) :: gtb) B.pre w (List.mem_cons_of_mem _ hw)⟩
  have hl := lv_entry ([.ref (Z.2.2.1 0)]) (n := 6) (Nat.le_of_ble_eq_true rfl)
  rw [lg_entry_eq]
  exact wk_MM_heal hI hZ M S hX ⟨Nat.le_refl _, Nat.le_refl _⟩ (fun pc H locs ls hH d => q_ri S.1 S.2.1 B.returns B.notSynchronized hH rfl rfl d) hf ⟨hP, va_S.rf⟩ hl
noncomputable def f_MM_holders_J91 (M : Mem) (x1 : Int32) (x2 : Int32) (x4 : Int32) (s0 : Int32) (s1 : Int32) : Option ((Int32 × Int32) ⊕ (Int32 × Mem)) := some (.inl (s1 ||| s0, x4 + (1 : Int32)))
noncomputable def f_MM_holders_J90 (M : Mem) (x1 : Int32) (x2 : Int32) (x4 : Int32) (s0 : Int32) : Option ((Int32 × Int32) ⊕ (Int32 × Mem)) := f_MM_holders_J91 M x1 x2 x4 (0 : Int32) s0
noncomputable def f_MM_holders_L48 (M : Mem) (x1 : Int32) (x2 : Int32) (x3 : Int32) (x4 : Int32) : Option ((Int32 × Int32) ⊕ (Int32 × Mem)) := if (M 1 0) ≤ x4 then some (.inr (x3, M)) else 
    if (bI (f_MM_isLiar M x4)) = 0 then 
    bnd (f_MM_setOf M x4 x2) (fun y2 => 
    if (bI (f_MM_has y2 x1)) = 0 then f_MM_holders_J90 M x1 x2 x4 x3 else f_MM_holders_J91 M x1 x2 x4 ((1 : Int32) <<< (x4 &&& 31)) x3) else f_MM_holders_J90 M x1 x2 x4 x3
noncomputable def f_MM_holders_W48 (M : Mem) (x1 : Int32) (x2 : Int32) (u : (Int32 × Int32)) : Option (Int32 × Mem) := loop (fun t => f_MM_holders_L48 M x1 x2 t.1 t.2) u
noncomputable def f_MM_holders_J48 (M : Mem) (x1 : Int32) (x2 : Int32) (x3 : Int32) (x4 : Int32) : Option (Int32 × Mem) := bnd (f_MM_holders_W48 M x1 x2 (x3, x4)) (fun e48 => some e48)
noncomputable def f_MM_holders (M : Mem) (x1 : Int32) (x2 : Int32) : Option (Int32 × Mem) := 
    if (M 1 0) = 0 then some ((-1 : Int32), M) else 
    if (bI (f_MM_in x1.toInt64 (0 : Int64) (3 : Int64))) = 0 then some ((-1 : Int32), M) else 
    if (bI (f_MM_in x2.toInt64 (0 : Int64) ((M 1 3).toInt64))) = 0 then some ((-1 : Int32), M) else bnd (f_MM_runs M) (fun M4 => f_MM_holders_J48 M4 x1 x2 (0 : Int32) (0 : Int32))
set_option maxHeartbeats 4000000 in
theorem wk_MM_holders {l : Launch} {Z : WD} (hI : wI Z) (hZ : IsM Z) (M : Mem) (x1 : Int32) (x2 : Int32) {r : Int32} {M' : Mem} {p : Program} {e : Env} {R : Room} {s : State} {m : MethodId} {args : Array Value} {below : List Frame} {meth : Method} {c : Code} {H : Heap} {locs : List Loc} {ls : Array Slot} {Q : State → Prop} (S : CallFix p m c b_MM_holders 5 s args gtb R_MM) (hX : wX Z s) (hR : 6 ≤ R.frames ∧ 148 ≤ R.locals) (hQ : ∀ (pc : Nat) (H : Heap) (locs : List Loc) (ls : Array Slot), HW Z M' s H locs → decode b_MM_holders pc = .ok (.ireturn, 1) → W p l e R s m args below meth c H locs 0 0 Q (F0 m pc ls [.int r])) (hf0 : f_MM_holders M x1 x2 = some (r, M')) (hH : HW Z M s H locs) (hl : lv_has ls 5 [(0, .ref (Z.2.2.1 0)), (1, .int x1), (2, .int x2)]) : W p l e R s m args below meth c H locs 0 0 Q (F0 m 0 ls []) := by
  have hx := S.1
  have hb := S.2.1
  have hown := S.2.2.2.1
  have ht := S.2.2.2.2
  unfold f_MM_holders at hf0
  have J48 : ∀ (M : Mem) (x1 : Int32) (x2 : Int32) (x3 : Int32) (x4 : Int32) (H : Heap) (locs : List Loc) (ls : Array Slot), f_MM_holders_J48 M x1 x2 x3 x4 = some (r, M') → HW Z M s H locs → lv_has ls 5 [(0, .ref (Z.2.2.1 0)), (1, .int x1), (2, .int x2), (3, .int x3), (4, .int x4)] → W p l e R s m args below meth c H locs 0 0 Q (F0 m 48 ls []) := by
    intro M x1 x2 x3 x4 H locs ls hf0 hH hl
    unfold f_MM_holders_J48 at hf0
    obtain ⟨e48, he48, hf0⟩ := o_b hf0
    unfold f_MM_holders_W48 at he48
    refine loop_W (fun t => ∀ (H : Heap) (locs : List Loc) (ls : Array Slot), HW Z M s H locs → lv_has ls 5 [(0, .ref (Z.2.2.1 0)), (1, .int x1), (2, .int x2), (3, .int t.1), (4, .int t.2)] → W p l e R s m args below meth c H locs 0 0 Q (F0 m 48 ls [])) ?_ he48 H locs ls hH hl
    rintro ⟨x3, x4⟩ o1 hf1 hG1 hR1 H locs ls hH hl
    replace hH : HW Z M s H locs := hH
    replace hl : lv_has ls 5 [(0, .ref (Z.2.2.1 0)), (1, .int x1), (2, .int x2), (3, .int x3), (4, .int x4)] := hl
    replace hf1 : f_MM_holders_L48 M x1 x2 x3 x4 = some o1 := hf1
    unfold f_MM_holders_L48 at hf1
    have J91 : ∀ (x4 : Int32) (s0 : Int32) (s1 : Int32) (H : Heap) (locs : List Loc) (ls : Array Slot), f_MM_holders_J91 M x1 x2 x4 s0 s1 = some o1 → HW Z M s H locs → lv_has ls 5 [(0, .ref (Z.2.2.1 0)), (1, .int x1), (2, .int x2), (4, .int x4)] → W p l e R s m args below meth c H locs 0 0 Q (F0 m 91 ls [.int s0, .int s1]) := by
      intro x4 s0 s1 H locs ls hf1 hH hl
      unfold f_MM_holders_J91 at hf1
      refine lv_ior hx hb d_MM_holders_91 ?_
      refine lv_istore_n (lv' := [(3, .int (s1 ||| s0)), (0, .ref (Z.2.2.1 0)), (1, .int x1), (2, .int x2), (4, .int x4)]) hx hb d_MM_holders_92 rfl hl (by decide) rfl (fun ls hl => ?_)
      refine lv_iinc (v := x4 + (1 : Int32)) (lv' := [(4, .int (x4 + (1 : Int32))), (3, .int (s1 ||| s0)), (0, .ref (Z.2.2.1 0)), (1, .int x1), (2, .int x2)]) hx hb d_MM_holders_93 hl (k := 4) rfl rfl (by decide) rfl (fun ls hl => ?_)
      refine lv_goto (tgt := 48) hx hb d_MM_holders_96 (by decide) ?_
      exact hG1 _ (o_v hf1).symm _ _ _ hH (lv_sub hl [2, 3, 4, 1, 0] rfl)
    have J90 : ∀ (x4 : Int32) (s0 : Int32) (H : Heap) (locs : List Loc) (ls : Array Slot), f_MM_holders_J90 M x1 x2 x4 s0 = some o1 → HW Z M s H locs → lv_has ls 5 [(0, .ref (Z.2.2.1 0)), (1, .int x1), (2, .int x2), (4, .int x4)] → W p l e R s m args below meth c H locs 0 0 Q (F0 m 90 ls [.int s0]) := by
      intro x4 s0 H locs ls hf1 hH hl
      unfold f_MM_holders_J90 at hf1
      refine lv_iconst (v := (0 : Int32)) hx hb d_MM_holders_90 (by decide) ?_
      exact J91 _ _ _ _ _ _ hf1 hH (lv_sub hl [0, 1, 2, 3] rfl)
    refine lv_iload hx hb d_MM_holders_48 (lv_at hl 4 rfl) ?_
    refine lv_aload_n hx hb d_MM_holders_50 rfl (lv_at hl 0 rfl) ?_
    refine g_MM_9 S hX hH hZ d_MM_holders_51 ?_
    refine lv_iconst (v := (0 : Int32)) hx hb d_MM_holders_54 (by decide) ?_
    refine q_iald (j := 0) hx hb hX hH (aa_MM_1 hZ) (vp_c (by decide)) (by decide) d_MM_holders_55 ?_
    refine lv_icmp_ge (tgt := 99) hx hb d_MM_holders_56 (by decide) (fun hc => ?_) (fun hc => ?_)
    · replace hf1 := o_t hc hf1
      refine lv_iload_n hx hb d_MM_holders_99 rfl (lv_at hl 3 rfl) ?_
      obtain rfl := hR1 _ (o_v hf1).symm
      obtain ⟨rfl, rfl⟩ := o_p hf0
      exact hQ _ _ _ _ hH d_MM_holders_100
    · replace hf1 := o_f hc hf1
      refine lv_iload_n hx hb d_MM_holders_59 rfl (lv_at hl 3 rfl) ?_
      refine lv_aload_n hx hb d_MM_holders_60 rfl (lv_at hl 0 rfl) ?_
      refine lv_iload hx hb d_MM_holders_61 (lv_at hl 4 rfl) ?_
      refine q_cVi (As := [.int x4]) (rest := [.int x3]) S hX hH (c_MM_isLiar l hI hZ M x4 rfl) (cw_MM_205 S.2.2.2.2 (Nat.le_trans (Nat.le_of_ble_eq_true rfl) hR.1) (Nat.le_trans (Nat.le_of_ble_eq_true rfl) hR.2)) (rc_MM hX hH hZ) rfl hl.1 rfl (Nat.le_of_ble_eq_true rfl) d_MM_holders_63 ⟨Nat.zero_le _, Nat.zero_le _⟩ (fun H locs hH => ?_)
      refine lv_if_ne (tgt := 90) hx hb d_MM_holders_66 (by decide) (fun hc => ?_) (fun hc => ?_)
      · replace hf1 := o_f hc hf1
        exact J90 _ _ _ _ _ hf1 hH (lv_sub hl [0, 1, 2, 4] rfl)
      · replace hf1 := o_t hc hf1
        refine lv_aload_n hx hb d_MM_holders_69 rfl (lv_at hl 0 rfl) ?_
        refine lv_iload hx hb d_MM_holders_70 (lv_at hl 4 rfl) ?_
        refine lv_iload_n hx hb d_MM_holders_72 rfl (lv_at hl 2 rfl) ?_
        obtain ⟨y2, hc1, hf1⟩ := o_b hf1
        refine q_cVi (As := [.int x4, .int x2]) (rest := [.int x3]) S hX hH (c_MM_setOf l hI hZ M x4 x2 hc1) (cw_MM_312 S.2.2.2.2 (Nat.le_trans (Nat.le_of_ble_eq_true rfl) hR.1) (Nat.le_trans (Nat.le_of_ble_eq_true rfl) hR.2)) (rc_MM hX hH hZ) rfl hl.1 rfl (Nat.le_of_ble_eq_true rfl) d_MM_holders_73 ⟨Nat.zero_le _, Nat.zero_le _⟩ (fun H locs hH => ?_)
        refine lv_iload_n hx hb d_MM_holders_76 rfl (lv_at hl 1 rfl) ?_
        refine q_cSi (As := [.int y2, .int x1]) (rest := [.int x3]) S hX hH (c_MM_has l hI M y2 x1 rfl) (cw_MM_201 S.2.2.2.2 (Nat.le_trans (Nat.le_of_ble_eq_true rfl) hR.1) (Nat.le_trans (Nat.le_of_ble_eq_true rfl) hR.2)) rfl hl.1 rfl (Nat.le_of_ble_eq_true rfl) d_MM_holders_77 ⟨Nat.zero_le _, Nat.zero_le _⟩ (fun H locs hH => ?_)
        refine lv_if_eq (tgt := 90) hx hb d_MM_holders_80 (by decide) (fun hc => ?_) (fun hc => ?_)
        · replace hf1 := o_t hc hf1
          exact J90 _ _ _ _ _ hf1 hH (lv_sub hl [0, 1, 2, 4] rfl)
        · replace hf1 := o_f hc hf1
          refine lv_iconst (v := (1 : Int32)) hx hb d_MM_holders_83 (by decide) ?_
          refine lv_iload hx hb d_MM_holders_84 (lv_at hl 4 rfl) ?_
          refine lv_ishl hx hb d_MM_holders_86 ?_
          refine lv_goto (tgt := 91) hx hb d_MM_holders_87 (by decide) ?_
          exact J91 _ _ _ _ _ _ hf1 hH (lv_sub hl [0, 1, 2, 4] rfl)
  refine lv_aload_n hx hb d_MM_holders_0 rfl (lv_at hl 0 rfl) ?_
  refine g_MM_9 S hX hH hZ d_MM_holders_1 ?_
  refine lv_iconst (v := (0 : Int32)) hx hb d_MM_holders_4 (by decide) ?_
  refine q_iald (j := 0) hx hb hX hH (aa_MM_1 hZ) (vp_c (by decide)) (by decide) d_MM_holders_5 ?_
  refine lv_if_eq (tgt := 37) hx hb d_MM_holders_6 (by decide) (fun hc => ?_) (fun hc => ?_)
  · replace hf0 := o_t hc hf0
    refine lv_iconst (v := (-1 : Int32)) hx hb d_MM_holders_37 (by decide) ?_
    obtain ⟨rfl, rfl⟩ := o_p hf0
    exact hQ _ _ _ _ hH d_MM_holders_38
  · replace hf0 := o_f hc hf0
    refine lv_iload_n hx hb d_MM_holders_9 rfl (lv_at hl 1 rfl) ?_
    refine lv_i2l hx hb d_MM_holders_10 rfl ?_
    refine lv_lconst (v := (0 : Int64)) hx hb d_MM_holders_11 (by decide) ?_
    refine lv_ldc2 (v := (3 : Int64)) hx hb hown (ht _ w5_171) d_MM_holders_12 ?_
    refine q_cSi (As := [.long x1.toInt64, .long (0 : Int64), .long (3 : Int64)]) (rest := []) S hX hH (c_MM_in l hI M x1.toInt64 (0 : Int64) (3 : Int64) rfl) (cw_MM_108 S.2.2.2.2 (Nat.le_trans (Nat.le_of_ble_eq_true rfl) hR.1) (Nat.le_trans (Nat.le_of_ble_eq_true rfl) hR.2)) rfl hl.1 rfl (Nat.le_of_ble_eq_true rfl) d_MM_holders_15 ⟨Nat.zero_le _, Nat.zero_le _⟩ (fun H locs hH => ?_)
    refine lv_if_eq (tgt := 37) hx hb d_MM_holders_18 (by decide) (fun hc => ?_) (fun hc => ?_)
    · replace hf0 := o_t hc hf0
      refine lv_iconst (v := (-1 : Int32)) hx hb d_MM_holders_37 (by decide) ?_
      obtain ⟨rfl, rfl⟩ := o_p hf0
      exact hQ _ _ _ _ hH d_MM_holders_38
    · replace hf0 := o_f hc hf0
      refine lv_iload_n hx hb d_MM_holders_21 rfl (lv_at hl 2 rfl) ?_
      refine lv_i2l hx hb d_MM_holders_22 rfl ?_
      refine lv_lconst (v := (0 : Int64)) hx hb d_MM_holders_23 (by decide) ?_
      refine lv_aload_n hx hb d_MM_holders_24 rfl (lv_at hl 0 rfl) ?_
      refine g_MM_9 S hX hH hZ d_MM_holders_25 ?_
      refine lv_iconst (v := (3 : Int32)) hx hb d_MM_holders_28 (by decide) ?_
      refine q_iald (j := 3) hx hb hX hH (aa_MM_1 hZ) (vp_c (by decide)) (by decide) d_MM_holders_29 ?_
      refine lv_i2l hx hb d_MM_holders_30 rfl ?_
      refine q_cSi (As := [.long x2.toInt64, .long (0 : Int64), .long ((M 1 3).toInt64)]) (rest := []) S hX hH (c_MM_in l hI M x2.toInt64 (0 : Int64) ((M 1 3).toInt64) rfl) (cw_MM_108 S.2.2.2.2 (Nat.le_trans (Nat.le_of_ble_eq_true rfl) hR.1) (Nat.le_trans (Nat.le_of_ble_eq_true rfl) hR.2)) rfl hl.1 rfl (Nat.le_of_ble_eq_true rfl) d_MM_holders_31 ⟨Nat.zero_le _, Nat.zero_le _⟩ (fun H locs hH => ?_)
      refine lv_if_ne (tgt := 39) hx hb d_MM_holders_34 (by decide) (fun hc => ?_) (fun hc => ?_)
      · replace hf0 := o_f hc hf0
        refine lv_aload_n hx hb d_MM_holders_39 rfl (lv_at hl 0 rfl) ?_
        obtain ⟨M4, hc3, hf0⟩ := o_b hf0
        refine q_cVv (As := []) (rest := []) S hX hH (c_MM_runs l hI hZ M hc3) (cw_MM_321 S.2.2.2.2 (Nat.le_trans (Nat.le_of_ble_eq_true rfl) hR.1) (Nat.le_trans (Nat.le_of_ble_eq_true rfl) hR.2)) (rc_MM hX hH hZ) rfl hl.1 rfl (Nat.le_of_ble_eq_true rfl) d_MM_holders_40 ⟨Nat.zero_le _, Nat.zero_le _⟩ (fun H locs hH => ?_)
        refine lv_iconst (v := (0 : Int32)) hx hb d_MM_holders_43 (by decide) ?_
        refine lv_istore_n (lv' := [(3, .int (0 : Int32)), (0, .ref (Z.2.2.1 0)), (1, .int x1), (2, .int x2)]) hx hb d_MM_holders_44 rfl hl (by decide) rfl (fun ls hl => ?_)
        refine lv_iconst (v := (0 : Int32)) hx hb d_MM_holders_45 (by decide) ?_
        refine lv_istore (lv' := [(4, .int (0 : Int32)), (3, .int (0 : Int32)), (0, .ref (Z.2.2.1 0)), (1, .int x1), (2, .int x2)]) hx hb d_MM_holders_46 hl (by decide) rfl (fun ls hl => ?_)
        exact J48 _ _ _ _ _ _ _ _ hf0 hH (lv_sub hl [2, 3, 4, 1, 0] rfl)
      · replace hf0 := o_t hc hf0
        refine lv_iconst (v := (-1 : Int32)) hx hb d_MM_holders_37 (by decide) ?_
        obtain ⟨rfl, rfl⟩ := o_p hf0
        exact hQ _ _ _ _ hH d_MM_holders_38
theorem c_MM_holders (l : Launch) {Z : WD} (hI : wI Z) (hZ : IsM Z) (M : Mem) (x1 : Int32) (x2 : Int32) {r : Int32} {M' : Mem} (hf : f_MM_holders M x1 x2 = some (r, M')) : Ci l Z y_MM_holders b_MM_holders 5 (some .int) 6 148 [.ref (Z.2.2.1 0), .int x1, .int x2] M M' r := by
  refine Met.ofW (cc := b_MM_holders) (maxL := 5) (ret := (some .int)) (by decide) rfl ?_
  intro p e s m args below meth c s₁ B hml hv
  obtain ⟨rfl, hP, hX⟩ := hv
  have S : CallFix p m c b_MM_holders 5 s ([.ref (Z.2.2.1 0), .int x1, .int x2] : List Value).toArray gtb R_MM := ⟨B.exec, B.bytes, hml, findClass_of_methodNamed B.named, fun w hw => atoms_spec (ws := .code y_MM_holders b_MM_holders 5 (some .int) :: gtb) B.pre w (List.mem_cons_of_mem _ hw)⟩
  have hl := lv_entry ([.ref (Z.2.2.1 0), .int x1, .int x2]) (n := 5) (Nat.le_of_ble_eq_true rfl)
  rw [lg_entry_eq]
  exact wk_MM_holders hI hZ M x1 x2 S hX ⟨Nat.le_refl _, Nat.le_refl _⟩ (fun pc H locs ls hH d => q_ri S.1 S.2.1 B.returns B.notSynchronized hH rfl rfl d) hf ⟨hP, va_S.rf⟩ hl
noncomputable def f_MM_path_J77 (M : Mem) (x3 : Int32) (x4 : Int32) (s0 : Int32) : Option (Int32 × Mem) := if x3 = (-1 : Int32) then some (s0, M) else 
    if s0 ≤ x3 then some ((-2 : Int32), M) else gIn (((8 : Int32) * x4) + x3) 2080 (some (M 16 (((8 : Int32) * x4) + x3).toNatClampNeg, M))
noncomputable def f_MM_path (M : Mem) (x1 : Int32) (x2 : Int32) (x3 : Int32) : Option (Int32 × Mem) := 
    if (bI (f_MM_isHonest M x1)) = 0 then some ((-1 : Int32), M) else 
    if (bI (f_MM_in x2.toInt64 (0 : Int64) (3 : Int64))) = 0 then some ((-1 : Int32), M) else 
    if (-1 : Int32) ≤ x3 then 
    bnd (f_MM_runs M) (fun M3 => 
    gIn (f_MM_cell x1 x2) 32 (if (M3 17 (f_MM_cell x1 x2).toNatClampNeg) = (-1 : Int32) then some ((-2 : Int32), M3) else 
    if (M3 18 (f_MM_cell x1 x2).toNatClampNeg) = (-1 : Int32) then f_MM_path_J77 M3 x3 (M3 18 (f_MM_cell x1 x2).toNatClampNeg) (0 : Int32) else 
    gIn (M3 18 (f_MM_cell x1 x2).toNatClampNeg) 260 (f_MM_path_J77 M3 x3 (M3 18 (f_MM_cell x1 x2).toNatClampNeg) (M3 13 (M3 18 (f_MM_cell x1 x2).toNatClampNeg).toNatClampNeg)))) else some ((-1 : Int32), M)
set_option maxHeartbeats 4000000 in
theorem wk_MM_path {l : Launch} {Z : WD} (hI : wI Z) (hZ : IsM Z) (M : Mem) (x1 : Int32) (x2 : Int32) (x3 : Int32) {r : Int32} {M' : Mem} {p : Program} {e : Env} {R : Room} {s : State} {m : MethodId} {args : Array Value} {below : List Frame} {meth : Method} {c : Code} {H : Heap} {locs : List Loc} {ls : Array Slot} {Q : State → Prop} (S : CallFix p m c b_MM_path 6 s args gtb R_MM) (hX : wX Z s) (hR : 6 ≤ R.frames ∧ 148 ≤ R.locals) (hQ : ∀ (pc : Nat) (H : Heap) (locs : List Loc) (ls : Array Slot), HW Z M' s H locs → decode b_MM_path pc = .ok (.ireturn, 1) → W p l e R s m args below meth c H locs 0 0 Q (F0 m pc ls [.int r])) (hf0 : f_MM_path M x1 x2 x3 = some (r, M')) (hH : HW Z M s H locs) (hl : lv_has ls 6 [(0, .ref (Z.2.2.1 0)), (1, .int x1), (2, .int x2), (3, .int x3)]) : W p l e R s m args below meth c H locs 0 0 Q (F0 m 0 ls []) := by
  have hx := S.1
  have hb := S.2.1
  have hown := S.2.2.2.1
  have ht := S.2.2.2.2
  unfold f_MM_path at hf0
  have J77 : ∀ (M : Mem) (x3 : Int32) (x4 : Int32) (s0 : Int32) (H : Heap) (locs : List Loc) (ls : Array Slot), f_MM_path_J77 M x3 x4 s0 = some (r, M') → HW Z M s H locs → lv_has ls 6 [(0, .ref (Z.2.2.1 0)), (3, .int x3), (4, .int x4)] → W p l e R s m args below meth c H locs 0 0 Q (F0 m 77 ls [.int s0]) := by
    intro M x3 x4 s0 H locs ls hf0 hH hl
    unfold f_MM_path_J77 at hf0
    refine lv_istore (lv' := [(5, .int s0), (0, .ref (Z.2.2.1 0)), (3, .int x3), (4, .int x4)]) hx hb d_MM_path_77 hl (by decide) rfl (fun ls hl => ?_)
    refine lv_iload_n hx hb d_MM_path_79 rfl (lv_at hl 2 rfl) ?_
    refine lv_iconst (v := (-1 : Int32)) hx hb d_MM_path_80 (by decide) ?_
    refine lv_icmp_ne (tgt := 87) hx hb d_MM_path_81 (by decide) (fun hc => ?_) (fun hc => ?_)
    · replace hf0 := o_f hc hf0
      refine lv_iload_n hx hb d_MM_path_87 rfl (lv_at hl 2 rfl) ?_
      refine lv_iload hx hb d_MM_path_88 (lv_at hl 0 rfl) ?_
      refine lv_icmp_ge (tgt := 108) hx hb d_MM_path_90 (by decide) (fun hc => ?_) (fun hc => ?_)
      · replace hf0 := o_t hc hf0
        refine lv_bipush (v := (-2 : Int32)) hx hb d_MM_path_108 (by decide) ?_
        obtain ⟨rfl, rfl⟩ := o_p hf0
        exact hQ _ _ _ _ hH d_MM_path_110
      · replace hf0 := o_f hc hf0
        refine lv_aload_n hx hb d_MM_path_93 rfl (lv_at hl 1 rfl) ?_
        refine g_MM_57 S hX hH hZ d_MM_path_94 ?_
        refine lv_bipush (v := (8 : Int32)) hx hb d_MM_path_97 (by decide) ?_
        refine lv_iload hx hb d_MM_path_99 (lv_at hl 3 rfl) ?_
        refine lv_imul hx hb d_MM_path_101 ?_
        refine lv_iload_n hx hb d_MM_path_102 rfl (lv_at hl 2 rfl) ?_
        refine lv_iadd hx hb d_MM_path_103 ?_
        obtain ⟨hn1, hf0⟩ := o_in hf0
        refine q_iald (j := (((8 : Int32) * x4) + x3).toNatClampNeg) hx hb hX hH (aa_MM_16 hZ) hn1 rfl d_MM_path_104 ?_
        refine lv_goto (tgt := 110) hx hb d_MM_path_105 (by decide) ?_
        obtain ⟨rfl, rfl⟩ := o_p hf0
        exact hQ _ _ _ _ hH d_MM_path_110
    · replace hf0 := o_t hc hf0
      refine lv_iload hx hb d_MM_path_84 (lv_at hl 0 rfl) ?_
      obtain ⟨rfl, rfl⟩ := o_p hf0
      exact hQ _ _ _ _ hH d_MM_path_86
  refine lv_aload_n hx hb d_MM_path_0 rfl (lv_at hl 0 rfl) ?_
  refine lv_iload_n hx hb d_MM_path_1 rfl (lv_at hl 1 rfl) ?_
  refine q_cVi (As := [.int x1]) (rest := []) S hX hH (c_MM_isHonest l hI hZ M x1 rfl) (cw_MM_300 S.2.2.2.2 (Nat.le_trans (Nat.le_of_ble_eq_true rfl) hR.1) (Nat.le_trans (Nat.le_of_ble_eq_true rfl) hR.2)) (rc_MM hX hH hZ) rfl hl.1 rfl (Nat.le_of_ble_eq_true rfl) d_MM_path_2 ⟨Nat.zero_le _, Nat.zero_le _⟩ (fun H locs hH => ?_)
  refine lv_if_eq (tgt := 25) hx hb d_MM_path_5 (by decide) (fun hc => ?_) (fun hc => ?_)
  · replace hf0 := o_t hc hf0
    refine lv_iconst (v := (-1 : Int32)) hx hb d_MM_path_25 (by decide) ?_
    obtain ⟨rfl, rfl⟩ := o_p hf0
    exact hQ _ _ _ _ hH d_MM_path_26
  · replace hf0 := o_f hc hf0
    refine lv_iload_n hx hb d_MM_path_8 rfl (lv_at hl 2 rfl) ?_
    refine lv_i2l hx hb d_MM_path_9 rfl ?_
    refine lv_lconst (v := (0 : Int64)) hx hb d_MM_path_10 (by decide) ?_
    refine lv_ldc2 (v := (3 : Int64)) hx hb hown (ht _ w5_171) d_MM_path_11 ?_
    refine q_cSi (As := [.long x2.toInt64, .long (0 : Int64), .long (3 : Int64)]) (rest := []) S hX hH (c_MM_in l hI M x2.toInt64 (0 : Int64) (3 : Int64) rfl) (cw_MM_108 S.2.2.2.2 (Nat.le_trans (Nat.le_of_ble_eq_true rfl) hR.1) (Nat.le_trans (Nat.le_of_ble_eq_true rfl) hR.2)) rfl hl.1 rfl (Nat.le_of_ble_eq_true rfl) d_MM_path_14 ⟨Nat.zero_le _, Nat.zero_le _⟩ (fun H locs hH => ?_)
    refine lv_if_eq (tgt := 25) hx hb d_MM_path_17 (by decide) (fun hc => ?_) (fun hc => ?_)
    · replace hf0 := o_t hc hf0
      refine lv_iconst (v := (-1 : Int32)) hx hb d_MM_path_25 (by decide) ?_
      obtain ⟨rfl, rfl⟩ := o_p hf0
      exact hQ _ _ _ _ hH d_MM_path_26
    · replace hf0 := o_f hc hf0
      refine lv_iload_n hx hb d_MM_path_20 rfl (lv_at hl 3 rfl) ?_
      refine lv_iconst (v := (-1 : Int32)) hx hb d_MM_path_21 (by decide) ?_
      refine lv_icmp_ge (tgt := 27) hx hb d_MM_path_22 (by decide) (fun hc => ?_) (fun hc => ?_)
      · replace hf0 := o_t hc hf0
        refine lv_aload_n hx hb d_MM_path_27 rfl (lv_at hl 0 rfl) ?_
        obtain ⟨M3, hc2, hf0⟩ := o_b hf0
        refine q_cVv (As := []) (rest := []) S hX hH (c_MM_runs l hI hZ M hc2) (cw_MM_321 S.2.2.2.2 (Nat.le_trans (Nat.le_of_ble_eq_true rfl) hR.1) (Nat.le_trans (Nat.le_of_ble_eq_true rfl) hR.2)) (rc_MM hX hH hZ) rfl hl.1 rfl (Nat.le_of_ble_eq_true rfl) d_MM_path_28 ⟨Nat.zero_le _, Nat.zero_le _⟩ (fun H locs hH => ?_)
        refine lv_aload_n hx hb d_MM_path_31 rfl (lv_at hl 0 rfl) ?_
        refine g_MM_60 S hX hH hZ d_MM_path_32 ?_
        refine lv_iload_n hx hb d_MM_path_35 rfl (lv_at hl 1 rfl) ?_
        refine lv_iload_n hx hb d_MM_path_36 rfl (lv_at hl 2 rfl) ?_
        refine q_cSi (As := [.int x1, .int x2]) (rest := [.ref (Z.2.2.1 17)]) S hX hH (c_MM_cell l hI M3 x1 x2 rfl) (cw_MM_276 S.2.2.2.2 (Nat.le_trans (Nat.le_of_ble_eq_true rfl) hR.1) (Nat.le_trans (Nat.le_of_ble_eq_true rfl) hR.2)) rfl hl.1 rfl (Nat.le_of_ble_eq_true rfl) d_MM_path_37 ⟨Nat.zero_le _, Nat.zero_le _⟩ (fun H locs hH => ?_)
        obtain ⟨hn4, hf0⟩ := o_in hf0
        refine q_iald (j := (f_MM_cell x1 x2).toNatClampNeg) hx hb hX hH (aa_MM_17 hZ) hn4 rfl d_MM_path_40 ?_
        refine lv_iconst (v := (-1 : Int32)) hx hb d_MM_path_41 (by decide) ?_
        refine lv_icmp_ne (tgt := 48) hx hb d_MM_path_42 (by decide) (fun hc => ?_) (fun hc => ?_)
        · replace hf0 := o_f hc hf0
          refine lv_aload_n hx hb d_MM_path_48 rfl (lv_at hl 0 rfl) ?_
          refine g_MM_63 S hX hH hZ d_MM_path_49 ?_
          refine lv_iload_n hx hb d_MM_path_52 rfl (lv_at hl 1 rfl) ?_
          refine lv_iload_n hx hb d_MM_path_53 rfl (lv_at hl 2 rfl) ?_
          refine q_cSi (As := [.int x1, .int x2]) (rest := [.ref (Z.2.2.1 18)]) S hX hH (c_MM_cell l hI M3 x1 x2 rfl) (cw_MM_276 S.2.2.2.2 (Nat.le_trans (Nat.le_of_ble_eq_true rfl) hR.1) (Nat.le_trans (Nat.le_of_ble_eq_true rfl) hR.2)) rfl hl.1 rfl (Nat.le_of_ble_eq_true rfl) d_MM_path_54 ⟨Nat.zero_le _, Nat.zero_le _⟩ (fun H locs hH => ?_)
          refine q_iald (j := (f_MM_cell x1 x2).toNatClampNeg) hx hb hX hH (aa_MM_18 hZ) hn4 rfl d_MM_path_57 ?_
          refine lv_istore (lv' := [(4, .int (M3 18 (f_MM_cell x1 x2).toNatClampNeg)), (0, .ref (Z.2.2.1 0)), (1, .int x1), (2, .int x2), (3, .int x3)]) hx hb d_MM_path_58 hl (by decide) rfl (fun ls hl => ?_)
          refine lv_iload hx hb d_MM_path_60 (lv_at hl 0 rfl) ?_
          refine lv_iconst (v := (-1 : Int32)) hx hb d_MM_path_62 (by decide) ?_
          refine lv_icmp_ne (tgt := 70) hx hb d_MM_path_63 (by decide) (fun hc => ?_) (fun hc => ?_)
          · replace hf0 := o_f hc hf0
            refine lv_aload_n hx hb d_MM_path_70 rfl (lv_at hl 1 rfl) ?_
            refine g_MM_48 S hX hH hZ d_MM_path_71 ?_
            refine lv_iload hx hb d_MM_path_74 (lv_at hl 0 rfl) ?_
            obtain ⟨hn5, hf0⟩ := o_in hf0
            refine q_iald (j := (M3 18 (f_MM_cell x1 x2).toNatClampNeg).toNatClampNeg) hx hb hX hH (aa_MM_13 hZ) hn5 rfl d_MM_path_76 ?_
            exact J77 _ _ _ _ _ _ _ hf0 hH (lv_sub hl [1, 4, 0] rfl)
          · replace hf0 := o_t hc hf0
            refine lv_iconst (v := (0 : Int32)) hx hb d_MM_path_66 (by decide) ?_
            refine lv_goto (tgt := 77) hx hb d_MM_path_67 (by decide) ?_
            exact J77 _ _ _ _ _ _ _ hf0 hH (lv_sub hl [1, 4, 0] rfl)
        · replace hf0 := o_t hc hf0
          refine lv_bipush (v := (-2 : Int32)) hx hb d_MM_path_45 (by decide) ?_
          obtain ⟨rfl, rfl⟩ := o_p hf0
          exact hQ _ _ _ _ hH d_MM_path_47
      · replace hf0 := o_f hc hf0
        refine lv_iconst (v := (-1 : Int32)) hx hb d_MM_path_25 (by decide) ?_
        obtain ⟨rfl, rfl⟩ := o_p hf0
        exact hQ _ _ _ _ hH d_MM_path_26
theorem c_MM_path (l : Launch) {Z : WD} (hI : wI Z) (hZ : IsM Z) (M : Mem) (x1 : Int32) (x2 : Int32) (x3 : Int32) {r : Int32} {M' : Mem} (hf : f_MM_path M x1 x2 x3 = some (r, M')) : Ci l Z y_MM_path b_MM_path 6 (some .int) 6 148 [.ref (Z.2.2.1 0), .int x1, .int x2, .int x3] M M' r := by
  refine Met.ofW (cc := b_MM_path) (maxL := 6) (ret := (some .int)) (by decide) rfl ?_
  intro p e s m args below meth c s₁ B hml hv
  obtain ⟨rfl, hP, hX⟩ := hv
  have S : CallFix p m c b_MM_path 6 s ([.ref (Z.2.2.1 0), .int x1, .int x2, .int x3] : List Value).toArray gtb R_MM := ⟨B.exec, B.bytes, hml, findClass_of_methodNamed B.named, fun w hw => atoms_spec (ws := .code y_MM_path b_MM_path 6 (some .int) :: gtb) B.pre w (List.mem_cons_of_mem _ hw)⟩
  have hl := lv_entry ([.ref (Z.2.2.1 0), .int x1, .int x2, .int x3]) (n := 6) (Nat.le_of_ble_eq_true rfl)
  rw [lg_entry_eq]
  exact wk_MM_path hI hZ M x1 x2 x3 S hX ⟨Nat.le_refl _, Nat.le_refl _⟩ (fun pc H locs ls hH d => q_ri S.1 S.2.1 B.returns B.notSynchronized hH rfl rfl d) hf ⟨hP, va_S.rf⟩ hl
noncomputable def f_MM_bears_L2 (M : Mem) (x1 : Int32) (x2 : Int32) (x3 : Int32) : Option (Int32 ⊕ Bool) := gIn x1 260 (if (M 13 x1.toNatClampNeg) ≤ x3 then some (.inr false) else 
    gIn (((8 : Int32) * x1) + x3) 2080 (if (M 16 (((8 : Int32) * x1) + x3).toNatClampNeg) = x2 then some (.inr true) else some (.inl (x3 + (1 : Int32)))))
noncomputable def f_MM_bears_W2 (M : Mem) (x1 : Int32) (x2 : Int32) (u : Int32) : Option Bool := loop (fun t => f_MM_bears_L2 M x1 x2 t) u
noncomputable def f_MM_bears_J2 (M : Mem) (x1 : Int32) (x2 : Int32) (x3 : Int32) : Option (Bool) := bnd (f_MM_bears_W2 M x1 x2 x3) (fun e2 => some e2)
noncomputable def f_MM_bears (M : Mem) (x1 : Int32) (x2 : Int32) : Option Bool := f_MM_bears_J2 M x1 x2 (0 : Int32)
set_option maxHeartbeats 4000000 in
theorem wk_MM_bears {l : Launch} {Z : WD} (hI : wI Z) (hZ : IsM Z) (M : Mem) (x1 : Int32) (x2 : Int32) {r : Bool} {p : Program} {e : Env} {R : Room} {s : State} {m : MethodId} {args : Array Value} {below : List Frame} {meth : Method} {c : Code} {H : Heap} {locs : List Loc} {ls : Array Slot} {Q : State → Prop} (S : CallFix p m c b_MM_bears 4 s args gtb R_MM) (hX : wX Z s) (hR : 0 ≤ R.frames ∧ 0 ≤ R.locals) (hQ : ∀ (pc : Nat) (H : Heap) (locs : List Loc) (ls : Array Slot), HW Z M s H locs → decode b_MM_bears pc = .ok (.ireturn, 1) → W p l e R s m args below meth c H locs 0 0 Q (F0 m pc ls [.int (bI r)])) (hf0 : f_MM_bears M x1 x2 = some r) (hH : HW Z M s H locs) (hl : lv_has ls 4 [(0, .ref (Z.2.2.1 0)), (1, .int x1), (2, .int x2)]) : W p l e R s m args below meth c H locs 0 0 Q (F0 m 0 ls []) := by
  have hx := S.1
  have hb := S.2.1
  have hown := S.2.2.2.1
  have ht := S.2.2.2.2
  unfold f_MM_bears at hf0
  have J2 : ∀ (x1 : Int32) (x2 : Int32) (x3 : Int32) (H : Heap) (locs : List Loc) (ls : Array Slot), f_MM_bears_J2 M x1 x2 x3 = some r → HW Z M s H locs → lv_has ls 4 [(0, .ref (Z.2.2.1 0)), (1, .int x1), (2, .int x2), (3, .int x3)] → W p l e R s m args below meth c H locs 0 0 Q (F0 m 2 ls []) := by
    intro x1 x2 x3 H locs ls hf0 hH hl
    unfold f_MM_bears_J2 at hf0
    obtain ⟨e2, he2, hf0⟩ := o_b hf0
    unfold f_MM_bears_W2 at he2
    refine loop_W (fun t => ∀ (H : Heap) (locs : List Loc) (ls : Array Slot), HW Z M s H locs → lv_has ls 4 [(0, .ref (Z.2.2.1 0)), (1, .int x1), (2, .int x2), (3, .int t)] → W p l e R s m args below meth c H locs 0 0 Q (F0 m 2 ls [])) ?_ he2 H locs ls hH hl
    rintro x3 o1 hf1 hG1 hR1 H locs ls hH hl
    replace hH : HW Z M s H locs := hH
    replace hl : lv_has ls 4 [(0, .ref (Z.2.2.1 0)), (1, .int x1), (2, .int x2), (3, .int x3)] := hl
    replace hf1 : f_MM_bears_L2 M x1 x2 x3 = some o1 := hf1
    unfold f_MM_bears_L2 at hf1
    refine lv_iload_n hx hb d_MM_bears_2 rfl (lv_at hl 3 rfl) ?_
    refine lv_aload_n hx hb d_MM_bears_3 rfl (lv_at hl 0 rfl) ?_
    refine g_MM_48 S hX hH hZ d_MM_bears_4 ?_
    refine lv_iload_n hx hb d_MM_bears_7 rfl (lv_at hl 1 rfl) ?_
    obtain ⟨hn1, hf1⟩ := o_in hf1
    refine q_iald (j := x1.toNatClampNeg) hx hb hX hH (aa_MM_13 hZ) hn1 rfl d_MM_bears_8 ?_
    refine lv_icmp_ge (tgt := 35) hx hb d_MM_bears_9 (by decide) (fun hc => ?_) (fun hc => ?_)
    · replace hf1 := o_t hc hf1
      refine lv_iconst (v := (0 : Int32)) hx hb d_MM_bears_35 (by decide) ?_
      obtain rfl := hR1 _ (o_v hf1).symm
      obtain rfl := o_v hf0
      exact hQ _ _ _ _ hH d_MM_bears_36
    · replace hf1 := o_f hc hf1
      refine lv_aload_n hx hb d_MM_bears_12 rfl (lv_at hl 0 rfl) ?_
      refine g_MM_57 S hX hH hZ d_MM_bears_13 ?_
      refine lv_bipush (v := (8 : Int32)) hx hb d_MM_bears_16 (by decide) ?_
      refine lv_iload_n hx hb d_MM_bears_18 rfl (lv_at hl 1 rfl) ?_
      refine lv_imul hx hb d_MM_bears_19 ?_
      refine lv_iload_n hx hb d_MM_bears_20 rfl (lv_at hl 3 rfl) ?_
      refine lv_iadd hx hb d_MM_bears_21 ?_
      obtain ⟨hn2, hf1⟩ := o_in hf1
      refine q_iald (j := (((8 : Int32) * x1) + x3).toNatClampNeg) hx hb hX hH (aa_MM_16 hZ) hn2 rfl d_MM_bears_22 ?_
      refine lv_iload_n hx hb d_MM_bears_23 rfl (lv_at hl 2 rfl) ?_
      refine lv_icmp_ne (tgt := 29) hx hb d_MM_bears_24 (by decide) (fun hc => ?_) (fun hc => ?_)
      · replace hf1 := o_f hc hf1
        refine lv_iinc (v := x3 + (1 : Int32)) (lv' := [(3, .int (x3 + (1 : Int32))), (0, .ref (Z.2.2.1 0)), (1, .int x1), (2, .int x2)]) hx hb d_MM_bears_29 hl (k := 3) rfl rfl (by decide) rfl (fun ls hl => ?_)
        refine lv_goto (tgt := 2) hx hb d_MM_bears_32 (by decide) ?_
        exact hG1 _ (o_v hf1).symm _ _ _ hH (lv_sub hl [1, 2, 3, 0] rfl)
      · replace hf1 := o_t hc hf1
        refine lv_iconst (v := (1 : Int32)) hx hb d_MM_bears_27 (by decide) ?_
        obtain rfl := hR1 _ (o_v hf1).symm
        obtain rfl := o_v hf0
        exact hQ _ _ _ _ hH d_MM_bears_28
  refine lv_iconst (v := (0 : Int32)) hx hb d_MM_bears_0 (by decide) ?_
  refine lv_istore_n (lv' := [(3, .int (0 : Int32)), (0, .ref (Z.2.2.1 0)), (1, .int x1), (2, .int x2)]) hx hb d_MM_bears_1 rfl hl (by decide) rfl (fun ls hl => ?_)
  exact J2 _ _ _ _ _ _ hf0 hH (lv_sub hl [1, 2, 3, 0] rfl)
theorem c_MM_bears (l : Launch) {Z : WD} (hI : wI Z) (hZ : IsM Z) (M : Mem) (x1 : Int32) (x2 : Int32) {r : Bool} (hf : f_MM_bears M x1 x2 = some r) : Ci l Z y_MM_bears b_MM_bears 4 (some .boolean) 0 0 [.ref (Z.2.2.1 0), .int x1, .int x2] M M (bI r) := by
  refine Met.ofW (cc := b_MM_bears) (maxL := 4) (ret := (some .boolean)) (by decide) rfl ?_
  intro p e s m args below meth c s₁ B hml hv
  obtain ⟨rfl, hP, hX⟩ := hv
  have S : CallFix p m c b_MM_bears 4 s ([.ref (Z.2.2.1 0), .int x1, .int x2] : List Value).toArray gtb R_MM := ⟨B.exec, B.bytes, hml, findClass_of_methodNamed B.named, fun w hw => atoms_spec (ws := .code y_MM_bears b_MM_bears 4 (some .boolean) :: gtb) B.pre w (List.mem_cons_of_mem _ hw)⟩
  have hl := lv_entry ([.ref (Z.2.2.1 0), .int x1, .int x2]) (n := 4) (Nat.le_of_ble_eq_true rfl)
  rw [lg_entry_eq]
  exact wk_MM_bears hI hZ M x1 x2 S hX ⟨Nat.le_refl _, Nat.le_refl _⟩ (fun pc H locs ls hH d => q_rz S.1 S.2.1 B.returns B.notSynchronized hH rfl rfl d) hf ⟨hP, va_S.rf⟩ hl
theorem cw_MM_353 {R : Room} {s : State} {args : Array Value} (ht : ∀ w ∈ gtb, w.before args s = true) (h1 : 0 + 1 ≤ R.frames) (h2 : 8 + (4 + 11) + 0 ≤ R.locals) : CallW R s args R_MM R_MM 353 y_MM_bears b_MM_bears 4 (some .boolean) (.code y_MM_bears b_MM_bears 4 (some .boolean) :: gtb) { frames := 0, cells := 0, slots := 0, locals := 0 } 0 0 2 := cwV 2 ht (gV w6_182 w6_184 ws_MM_bears w1_10 w6_185) rfl rfl rfl ⟨rfl, by decide, by decide, by decide +kernel⟩ ⟨h1, h2⟩
noncomputable def f_MM_caught_J112 (M : Mem) (x1 : Int32) (x3 : Int32) (x4 : Int32) (s0 : Int32) (s1 : Int32) : Option ((Int32 × Int32) ⊕ Int32) := some (.inl (s1 ||| s0, x4 + (1 : Int32)))
noncomputable def f_MM_caught_J111 (M : Mem) (x1 : Int32) (x3 : Int32) (x4 : Int32) (s0 : Int32) : Option ((Int32 × Int32) ⊕ Int32) := f_MM_caught_J112 M x1 x3 x4 (0 : Int32) s0
noncomputable def f_MM_caught_L52 (M : Mem) (x1 : Int32) (x3 : Int32) (x2 : Int32) (x4 : Int32) : Option ((Int32 × Int32) ⊕ Int32) := if (M 0 21) ≤ x4 then some (.inr x2) else 
    gIn x4 260 (if (M 14 x4.toNatClampNeg) = x3 then 
    if (M 11 x4.toNatClampNeg) = x1 then 
    bnd (f_MM_bears M x4 (M 1 1)) (fun y3 => 
    if (bI y3) = 0 then f_MM_caught_J111 M x1 x3 x4 x2 else f_MM_caught_J112 M x1 x3 x4 ((1 : Int32) <<< ((M 12 x4.toNatClampNeg) &&& 31)) x2) else f_MM_caught_J111 M x1 x3 x4 x2 else f_MM_caught_J111 M x1 x3 x4 x2)
noncomputable def f_MM_caught_W52 (M : Mem) (x1 : Int32) (x3 : Int32) (u : (Int32 × Int32)) : Option Int32 := loop (fun t => f_MM_caught_L52 M x1 x3 t.1 t.2) u
noncomputable def f_MM_caught_J52 (M : Mem) (x1 : Int32) (x2 : Int32) (x3 : Int32) (x4 : Int32) : Option ((Int32 × Int32) ⊕ (Int32 × Mem)) := bnd (f_MM_caught_W52 M x1 x3 (x2, x4)) (fun e52 => if (f_Int_bitCount e52) ≤ (1 : Int32) then some (.inl (e52, x3 + (1 : Int32))) else some (.inr (x3, M)))
noncomputable def f_MM_caught_L39 (M : Mem) (x1 : Int32) (x2 : Int32) (x3 : Int32) : Option ((Int32 × Int32) ⊕ (Int32 × Mem)) := if (M 1 3) < x3 then some (.inr ((-2 : Int32), M)) else f_MM_caught_J52 M x1 x2 x3 (0 : Int32)
noncomputable def f_MM_caught_W39 (M : Mem) (x1 : Int32) (u : (Int32 × Int32)) : Option (Int32 × Mem) := loop (fun t => f_MM_caught_L39 M x1 t.1 t.2) u
noncomputable def f_MM_caught_J39 (M : Mem) (x1 : Int32) (x2 : Int32) (x3 : Int32) : Option (Int32 × Mem) := bnd (f_MM_caught_W39 M x1 (x2, x3)) (fun e39 => some e39)
noncomputable def f_MM_caught_J36 (M : Mem) (x1 : Int32) (s0 : Int32) : Option (Int32 × Mem) := f_MM_caught_J39 M x1 s0 (1 : Int32)
noncomputable def f_MM_caught (M : Mem) (x1 : Int32) : Option (Int32 × Mem) := 
    if (bI (f_MM_isHonest M x1)) = 0 then some ((-1 : Int32), M) else 
    bnd (f_MM_runs M) (fun M5 => 
    if x1 = (M5 1 1) then f_MM_caught_J36 M5 x1 ((1 : Int32) <<< ((M5 1 2) &&& 31)) else f_MM_caught_J36 M5 x1 (0 : Int32))
set_option maxHeartbeats 4000000 in
theorem wk_MM_caught {l : Launch} {Z : WD} (hI : wI Z) (hZ : IsM Z) (M : Mem) (x1 : Int32) {r : Int32} {M' : Mem} {p : Program} {e : Env} {R : Room} {s : State} {m : MethodId} {args : Array Value} {below : List Frame} {meth : Method} {c : Code} {H : Heap} {locs : List Loc} {ls : Array Slot} {Q : State → Prop} (S : CallFix p m c b_MM_caught 5 s args gtb R_MM) (hX : wX Z s) (hR : 6 ≤ R.frames ∧ 148 ≤ R.locals) (hQ : ∀ (pc : Nat) (H : Heap) (locs : List Loc) (ls : Array Slot), HW Z M' s H locs → decode b_MM_caught pc = .ok (.ireturn, 1) → W p l e R s m args below meth c H locs 0 0 Q (F0 m pc ls [.int r])) (hf0 : f_MM_caught M x1 = some (r, M')) (hH : HW Z M s H locs) (hl : lv_has ls 5 [(0, .ref (Z.2.2.1 0)), (1, .int x1)]) : W p l e R s m args below meth c H locs 0 0 Q (F0 m 0 ls []) := by
  have hx := S.1
  have hb := S.2.1
  have hown := S.2.2.2.1
  have ht := S.2.2.2.2
  unfold f_MM_caught at hf0
  have J39 : ∀ (M : Mem) (x1 : Int32) (x2 : Int32) (x3 : Int32) (H : Heap) (locs : List Loc) (ls : Array Slot), f_MM_caught_J39 M x1 x2 x3 = some (r, M') → HW Z M s H locs → lv_has ls 5 [(0, .ref (Z.2.2.1 0)), (1, .int x1), (2, .int x2), (3, .int x3)] → W p l e R s m args below meth c H locs 0 0 Q (F0 m 39 ls []) := by
    intro M x1 x2 x3 H locs ls hf0 hH hl
    unfold f_MM_caught_J39 at hf0
    obtain ⟨e39, he39, hf0⟩ := o_b hf0
    unfold f_MM_caught_W39 at he39
    refine loop_W (fun t => ∀ (H : Heap) (locs : List Loc) (ls : Array Slot), HW Z M s H locs → lv_has ls 5 [(0, .ref (Z.2.2.1 0)), (1, .int x1), (2, .int t.1), (3, .int t.2)] → W p l e R s m args below meth c H locs 0 0 Q (F0 m 39 ls [])) ?_ he39 H locs ls hH hl
    rintro ⟨x2, x3⟩ o1 hf1 hG1 hR1 H locs ls hH hl
    replace hH : HW Z M s H locs := hH
    replace hl : lv_has ls 5 [(0, .ref (Z.2.2.1 0)), (1, .int x1), (2, .int x2), (3, .int x3)] := hl
    replace hf1 : f_MM_caught_L39 M x1 x2 x3 = some o1 := hf1
    unfold f_MM_caught_L39 at hf1
    have J52 : ∀ (x2 : Int32) (x3 : Int32) (x4 : Int32) (H : Heap) (locs : List Loc) (ls : Array Slot), f_MM_caught_J52 M x1 x2 x3 x4 = some o1 → HW Z M s H locs → lv_has ls 5 [(0, .ref (Z.2.2.1 0)), (1, .int x1), (2, .int x2), (3, .int x3), (4, .int x4)] → W p l e R s m args below meth c H locs 0 0 Q (F0 m 52 ls []) := by
      intro x2 x3 x4 H locs ls hf1 hH hl
      unfold f_MM_caught_J52 at hf1
      obtain ⟨e52, he52, hf1⟩ := o_b hf1
      have KX52 : ∀ (H : Heap) (locs : List Loc) (ls : Array Slot), HW Z M s H locs → lv_has ls 5 [(0, .ref (Z.2.2.1 0)), (1, .int x1), (2, .int e52), (3, .int x3)] → W p l e R s m args below meth c H locs 0 0 Q (F0 m 120 ls []) := by
        intro H locs ls hH hl
        refine lv_iload_n hx hb d_MM_caught_120 rfl (lv_at hl 2 rfl) ?_
        refine q_cSi (As := [.int e52]) (rest := []) S hX hH (c_Int_bitCount l hI M e52 rfl) (cw_MM_255 S.2.2.2.2 (Nat.le_trans (Nat.le_of_ble_eq_true rfl) hR.1) (Nat.le_trans (Nat.le_of_ble_eq_true rfl) hR.2)) rfl hl.1 rfl (Nat.le_of_ble_eq_true rfl) d_MM_caught_121 ⟨Nat.zero_le _, Nat.zero_le _⟩ (fun H locs hH => ?_)
        refine lv_iconst (v := (1 : Int32)) hx hb d_MM_caught_124 (by decide) ?_
        refine lv_icmp_le (tgt := 130) hx hb d_MM_caught_125 (by decide) (fun hc => ?_) (fun hc => ?_)
        · replace hf1 := o_t hc hf1
          refine lv_iinc (v := x3 + (1 : Int32)) (lv' := [(3, .int (x3 + (1 : Int32))), (0, .ref (Z.2.2.1 0)), (1, .int x1), (2, .int e52)]) hx hb d_MM_caught_130 hl (k := 3) rfl rfl (by decide) rfl (fun ls hl => ?_)
          refine lv_goto (tgt := 39) hx hb d_MM_caught_133 (by decide) ?_
          exact hG1 _ (o_v hf1).symm _ _ _ hH (lv_sub hl [1, 2, 3, 0] rfl)
        · replace hf1 := o_f hc hf1
          refine lv_iload_n hx hb d_MM_caught_128 rfl (lv_at hl 3 rfl) ?_
          obtain rfl := hR1 _ (o_v hf1).symm
          obtain ⟨rfl, rfl⟩ := o_p hf0
          exact hQ _ _ _ _ hH d_MM_caught_129
      unfold f_MM_caught_W52 at he52
      refine loop_W (fun t => ∀ (H : Heap) (locs : List Loc) (ls : Array Slot), HW Z M s H locs → lv_has ls 5 [(0, .ref (Z.2.2.1 0)), (1, .int x1), (2, .int t.1), (3, .int x3), (4, .int t.2)] → W p l e R s m args below meth c H locs 0 0 Q (F0 m 52 ls [])) ?_ he52 H locs ls hH hl
      rintro ⟨x2, x4⟩ o2 hf2 hG2 hR2 H locs ls hH hl
      replace hH : HW Z M s H locs := hH
      replace hl : lv_has ls 5 [(0, .ref (Z.2.2.1 0)), (1, .int x1), (2, .int x2), (3, .int x3), (4, .int x4)] := hl
      replace hf2 : f_MM_caught_L52 M x1 x3 x2 x4 = some o2 := hf2
      unfold f_MM_caught_L52 at hf2
      have J112 : ∀ (x4 : Int32) (s0 : Int32) (s1 : Int32) (H : Heap) (locs : List Loc) (ls : Array Slot), f_MM_caught_J112 M x1 x3 x4 s0 s1 = some o2 → HW Z M s H locs → lv_has ls 5 [(0, .ref (Z.2.2.1 0)), (1, .int x1), (3, .int x3), (4, .int x4)] → W p l e R s m args below meth c H locs 0 0 Q (F0 m 112 ls [.int s0, .int s1]) := by
        intro x4 s0 s1 H locs ls hf2 hH hl
        unfold f_MM_caught_J112 at hf2
        refine lv_ior hx hb d_MM_caught_112 ?_
        refine lv_istore_n (lv' := [(2, .int (s1 ||| s0)), (0, .ref (Z.2.2.1 0)), (1, .int x1), (3, .int x3), (4, .int x4)]) hx hb d_MM_caught_113 rfl hl (by decide) rfl (fun ls hl => ?_)
        refine lv_iinc (v := x4 + (1 : Int32)) (lv' := [(4, .int (x4 + (1 : Int32))), (2, .int (s1 ||| s0)), (0, .ref (Z.2.2.1 0)), (1, .int x1), (3, .int x3)]) hx hb d_MM_caught_114 hl (k := 4) rfl rfl (by decide) rfl (fun ls hl => ?_)
        refine lv_goto (tgt := 52) hx hb d_MM_caught_117 (by decide) ?_
        exact hG2 _ (o_v hf2).symm _ _ _ hH (lv_sub hl [2, 3, 1, 4, 0] rfl)
      have J111 : ∀ (x4 : Int32) (s0 : Int32) (H : Heap) (locs : List Loc) (ls : Array Slot), f_MM_caught_J111 M x1 x3 x4 s0 = some o2 → HW Z M s H locs → lv_has ls 5 [(0, .ref (Z.2.2.1 0)), (1, .int x1), (3, .int x3), (4, .int x4)] → W p l e R s m args below meth c H locs 0 0 Q (F0 m 111 ls [.int s0]) := by
        intro x4 s0 H locs ls hf2 hH hl
        unfold f_MM_caught_J111 at hf2
        refine lv_iconst (v := (0 : Int32)) hx hb d_MM_caught_111 (by decide) ?_
        exact J112 _ _ _ _ _ _ hf2 hH (lv_sub hl [0, 1, 2, 3] rfl)
      refine lv_iload hx hb d_MM_caught_52 (lv_at hl 4 rfl) ?_
      refine lv_aload_n hx hb d_MM_caught_54 rfl (lv_at hl 0 rfl) ?_
      refine g_MM_264 S hX hH hZ d_MM_caught_55 ?_
      refine lv_icmp_ge (tgt := 120) hx hb d_MM_caught_58 (by decide) (fun hc => ?_) (fun hc => ?_)
      · replace hf2 := o_t hc hf2
        obtain rfl := hR2 _ (o_v hf2).symm
        exact KX52 _ _ _ hH (lv_sub hl [0, 1, 2, 3] rfl)
      · replace hf2 := o_f hc hf2
        refine lv_iload_n hx hb d_MM_caught_61 rfl (lv_at hl 2 rfl) ?_
        refine lv_aload_n hx hb d_MM_caught_62 rfl (lv_at hl 0 rfl) ?_
        refine g_MM_51 S hX hH hZ d_MM_caught_63 ?_
        refine lv_iload hx hb d_MM_caught_66 (lv_at hl 4 rfl) ?_
        obtain ⟨hn1, hf2⟩ := o_in hf2
        refine q_iald (j := x4.toNatClampNeg) hx hb hX hH (aa_MM_14 hZ) hn1 rfl d_MM_caught_68 ?_
        refine lv_iload_n hx hb d_MM_caught_69 rfl (lv_at hl 3 rfl) ?_
        refine lv_icmp_ne (tgt := 111) hx hb d_MM_caught_70 (by decide) (fun hc => ?_) (fun hc => ?_)
        · replace hf2 := o_f hc hf2
          exact J111 _ _ _ _ _ hf2 hH (lv_sub hl [0, 1, 3, 4] rfl)
        · replace hf2 := o_t hc hf2
          refine lv_aload_n hx hb d_MM_caught_73 rfl (lv_at hl 0 rfl) ?_
          refine g_MM_42 S hX hH hZ d_MM_caught_74 ?_
          refine lv_iload hx hb d_MM_caught_77 (lv_at hl 4 rfl) ?_
          refine q_iald (j := x4.toNatClampNeg) hx hb hX hH (aa_MM_11 hZ) hn1 rfl d_MM_caught_79 ?_
          refine lv_iload_n hx hb d_MM_caught_80 rfl (lv_at hl 1 rfl) ?_
          refine lv_icmp_ne (tgt := 111) hx hb d_MM_caught_81 (by decide) (fun hc => ?_) (fun hc => ?_)
          · replace hf2 := o_f hc hf2
            exact J111 _ _ _ _ _ hf2 hH (lv_sub hl [0, 1, 3, 4] rfl)
          · replace hf2 := o_t hc hf2
            refine lv_aload_n hx hb d_MM_caught_84 rfl (lv_at hl 0 rfl) ?_
            refine lv_iload hx hb d_MM_caught_85 (lv_at hl 4 rfl) ?_
            refine lv_aload_n hx hb d_MM_caught_87 rfl (lv_at hl 0 rfl) ?_
            refine g_MM_9 S hX hH hZ d_MM_caught_88 ?_
            refine lv_iconst (v := (1 : Int32)) hx hb d_MM_caught_91 (by decide) ?_
            refine q_iald (j := 1) hx hb hX hH (aa_MM_1 hZ) (vp_c (by decide)) (by decide) d_MM_caught_92 ?_
            obtain ⟨y3, hc2, hf2⟩ := o_b hf2
            refine q_cVi (As := [.int x4, .int (M 1 1)]) (rest := [.int x2]) S hX hH (c_MM_bears l hI hZ M x4 (M 1 1) hc2) (cw_MM_353 S.2.2.2.2 (Nat.le_trans (Nat.le_of_ble_eq_true rfl) hR.1) (Nat.le_trans (Nat.le_of_ble_eq_true rfl) hR.2)) (rc_MM hX hH hZ) rfl hl.1 rfl (Nat.le_of_ble_eq_true rfl) d_MM_caught_93 ⟨Nat.zero_le _, Nat.zero_le _⟩ (fun H locs hH => ?_)
            refine lv_if_eq (tgt := 111) hx hb d_MM_caught_96 (by decide) (fun hc => ?_) (fun hc => ?_)
            · replace hf2 := o_t hc hf2
              exact J111 _ _ _ _ _ hf2 hH (lv_sub hl [0, 1, 3, 4] rfl)
            · replace hf2 := o_f hc hf2
              refine lv_iconst (v := (1 : Int32)) hx hb d_MM_caught_99 (by decide) ?_
              refine lv_aload_n hx hb d_MM_caught_100 rfl (lv_at hl 0 rfl) ?_
              refine g_MM_45 S hX hH hZ d_MM_caught_101 ?_
              refine lv_iload hx hb d_MM_caught_104 (lv_at hl 4 rfl) ?_
              refine q_iald (j := x4.toNatClampNeg) hx hb hX hH (aa_MM_12 hZ) hn1 rfl d_MM_caught_106 ?_
              refine lv_ishl hx hb d_MM_caught_107 ?_
              refine lv_goto (tgt := 112) hx hb d_MM_caught_108 (by decide) ?_
              exact J112 _ _ _ _ _ _ hf2 hH (lv_sub hl [0, 1, 3, 4] rfl)
    refine lv_iload_n hx hb d_MM_caught_39 rfl (lv_at hl 3 rfl) ?_
    refine lv_aload_n hx hb d_MM_caught_40 rfl (lv_at hl 0 rfl) ?_
    refine g_MM_9 S hX hH hZ d_MM_caught_41 ?_
    refine lv_iconst (v := (3 : Int32)) hx hb d_MM_caught_44 (by decide) ?_
    refine q_iald (j := 3) hx hb hX hH (aa_MM_1 hZ) (vp_c (by decide)) (by decide) d_MM_caught_45 ?_
    refine lv_icmp_gt (tgt := 136) hx hb d_MM_caught_46 (by decide) (fun hc => ?_) (fun hc => ?_)
    · replace hf1 := o_t hc hf1
      refine lv_bipush (v := (-2 : Int32)) hx hb d_MM_caught_136 (by decide) ?_
      obtain rfl := hR1 _ (o_v hf1).symm
      obtain ⟨rfl, rfl⟩ := o_p hf0
      exact hQ _ _ _ _ hH d_MM_caught_138
    · replace hf1 := o_f hc hf1
      refine lv_iconst (v := (0 : Int32)) hx hb d_MM_caught_49 (by decide) ?_
      refine lv_istore (lv' := [(4, .int (0 : Int32)), (0, .ref (Z.2.2.1 0)), (1, .int x1), (2, .int x2), (3, .int x3)]) hx hb d_MM_caught_50 hl (by decide) rfl (fun ls hl => ?_)
      exact J52 _ _ _ _ _ _ hf1 hH (lv_sub hl [1, 2, 3, 4, 0] rfl)
  have J36 : ∀ (M : Mem) (x1 : Int32) (s0 : Int32) (H : Heap) (locs : List Loc) (ls : Array Slot), f_MM_caught_J36 M x1 s0 = some (r, M') → HW Z M s H locs → lv_has ls 5 [(0, .ref (Z.2.2.1 0)), (1, .int x1)] → W p l e R s m args below meth c H locs 0 0 Q (F0 m 36 ls [.int s0]) := by
    intro M x1 s0 H locs ls hf0 hH hl
    unfold f_MM_caught_J36 at hf0
    refine lv_istore_n (lv' := [(2, .int s0), (0, .ref (Z.2.2.1 0)), (1, .int x1)]) hx hb d_MM_caught_36 rfl hl (by decide) rfl (fun ls hl => ?_)
    refine lv_iconst (v := (1 : Int32)) hx hb d_MM_caught_37 (by decide) ?_
    refine lv_istore_n (lv' := [(3, .int (1 : Int32)), (2, .int s0), (0, .ref (Z.2.2.1 0)), (1, .int x1)]) hx hb d_MM_caught_38 rfl hl (by decide) rfl (fun ls hl => ?_)
    exact J39 _ _ _ _ _ _ _ hf0 hH (lv_sub hl [2, 3, 1, 0] rfl)
  refine lv_aload_n hx hb d_MM_caught_0 rfl (lv_at hl 0 rfl) ?_
  refine lv_iload_n hx hb d_MM_caught_1 rfl (lv_at hl 1 rfl) ?_
  refine q_cVi (As := [.int x1]) (rest := []) S hX hH (c_MM_isHonest l hI hZ M x1 rfl) (cw_MM_300 S.2.2.2.2 (Nat.le_trans (Nat.le_of_ble_eq_true rfl) hR.1) (Nat.le_trans (Nat.le_of_ble_eq_true rfl) hR.2)) (rc_MM hX hH hZ) rfl hl.1 rfl (Nat.le_of_ble_eq_true rfl) d_MM_caught_2 ⟨Nat.zero_le _, Nat.zero_le _⟩ (fun H locs hH => ?_)
  refine lv_if_ne (tgt := 10) hx hb d_MM_caught_5 (by decide) (fun hc => ?_) (fun hc => ?_)
  · replace hf0 := o_f hc hf0
    refine lv_aload_n hx hb d_MM_caught_10 rfl (lv_at hl 0 rfl) ?_
    obtain ⟨M5, hc4, hf0⟩ := o_b hf0
    refine q_cVv (As := []) (rest := []) S hX hH (c_MM_runs l hI hZ M hc4) (cw_MM_321 S.2.2.2.2 (Nat.le_trans (Nat.le_of_ble_eq_true rfl) hR.1) (Nat.le_trans (Nat.le_of_ble_eq_true rfl) hR.2)) (rc_MM hX hH hZ) rfl hl.1 rfl (Nat.le_of_ble_eq_true rfl) d_MM_caught_11 ⟨Nat.zero_le _, Nat.zero_le _⟩ (fun H locs hH => ?_)
    refine lv_iload_n hx hb d_MM_caught_14 rfl (lv_at hl 1 rfl) ?_
    refine lv_aload_n hx hb d_MM_caught_15 rfl (lv_at hl 0 rfl) ?_
    refine g_MM_9 S hX hH hZ d_MM_caught_16 ?_
    refine lv_iconst (v := (1 : Int32)) hx hb d_MM_caught_19 (by decide) ?_
    refine q_iald (j := 1) hx hb hX hH (aa_MM_1 hZ) (vp_c (by decide)) (by decide) d_MM_caught_20 ?_
    refine lv_icmp_ne (tgt := 35) hx hb d_MM_caught_21 (by decide) (fun hc => ?_) (fun hc => ?_)
    · replace hf0 := o_f hc hf0
      refine lv_iconst (v := (0 : Int32)) hx hb d_MM_caught_35 (by decide) ?_
      exact J36 _ _ _ _ _ _ hf0 hH (lv_sub hl [0, 1] rfl)
    · replace hf0 := o_t hc hf0
      refine lv_iconst (v := (1 : Int32)) hx hb d_MM_caught_24 (by decide) ?_
      refine lv_aload_n hx hb d_MM_caught_25 rfl (lv_at hl 0 rfl) ?_
      refine g_MM_9 S hX hH hZ d_MM_caught_26 ?_
      refine lv_iconst (v := (2 : Int32)) hx hb d_MM_caught_29 (by decide) ?_
      refine q_iald (j := 2) hx hb hX hH (aa_MM_1 hZ) (vp_c (by decide)) (by decide) d_MM_caught_30 ?_
      refine lv_ishl hx hb d_MM_caught_31 ?_
      refine lv_goto (tgt := 36) hx hb d_MM_caught_32 (by decide) ?_
      exact J36 _ _ _ _ _ _ hf0 hH (lv_sub hl [0, 1] rfl)
  · replace hf0 := o_t hc hf0
    refine lv_iconst (v := (-1 : Int32)) hx hb d_MM_caught_8 (by decide) ?_
    obtain ⟨rfl, rfl⟩ := o_p hf0
    exact hQ _ _ _ _ hH d_MM_caught_9
theorem c_MM_caught (l : Launch) {Z : WD} (hI : wI Z) (hZ : IsM Z) (M : Mem) (x1 : Int32) {r : Int32} {M' : Mem} (hf : f_MM_caught M x1 = some (r, M')) : Ci l Z y_MM_caught b_MM_caught 5 (some .int) 6 148 [.ref (Z.2.2.1 0), .int x1] M M' r := by
  refine Met.ofW (cc := b_MM_caught) (maxL := 5) (ret := (some .int)) (by decide) rfl ?_
  intro p e s m args below meth c s₁ B hml hv
  obtain ⟨rfl, hP, hX⟩ := hv
  have S : CallFix p m c b_MM_caught 5 s ([.ref (Z.2.2.1 0), .int x1] : List Value).toArray gtb R_MM := ⟨B.exec, B.bytes, hml, findClass_of_methodNamed B.named, fun w hw => atoms_spec (ws := .code y_MM_caught b_MM_caught 5 (some .int) :: gtb) B.pre w (List.mem_cons_of_mem _ hw)⟩
  have hl := lv_entry ([.ref (Z.2.2.1 0), .int x1]) (n := 5) (Nat.le_of_ble_eq_true rfl)
  rw [lg_entry_eq]
  exact wk_MM_caught hI hZ M x1 S hX ⟨Nat.le_refl _, Nat.le_refl _⟩ (fun pc H locs ls hH d => q_ri S.1 S.2.1 B.returns B.notSynchronized hH rfl rfl d) hf ⟨hP, va_S.rf⟩ hl
noncomputable def f_MM_bits_J86 (M : Mem) (x1 : Int32) (x3 : Int32) (x4 : Int32) (s0 : Int32) (s1 : Int32) : Option ((Int32 × Int32 × Int32) ⊕ (Int32 × Int32)) := some (.inl (s1 + s0, x3, x4 + (1 : Int32)))
noncomputable def f_MM_bits_L39 (M : Mem) (x1 : Int32) (x2 : Int32) (x3 : Int32) (x4 : Int32) : Option ((Int32 × Int32 × Int32) ⊕ (Int32 × Int32)) := if (M 0 21) ≤ x4 then some (.inr (x2, x3)) else 
    gIn x4 260 (if (M 9 x4.toNatClampNeg) = x1 then 
    f_MM_bits_J86 M x1 (maI x3 ((5 : Int32) + ((3 : Int32) * (M 13 x4.toNatClampNeg)))) x4 ((5 : Int32) + ((3 : Int32) * (M 13 x4.toNatClampNeg))) x2 else 
    f_MM_bits_J86 M x1 (maI x3 ((5 : Int32) + ((3 : Int32) * (M 13 x4.toNatClampNeg)))) x4 (0 : Int32) x2)
noncomputable def f_MM_bits_W39 (M : Mem) (x1 : Int32) (u : (Int32 × Int32 × Int32)) : Option (Int32 × Int32) := loop (fun t => f_MM_bits_L39 M x1 t.1 t.2.1 t.2.2) u
noncomputable def f_MM_bits_J39 (M : Mem) (x1 : Int32) (x2 : Int32) (x3 : Int32) (x4 : Int32) : Option (Int32 × Mem) := bnd (f_MM_bits_W39 M x1 (x2, x3, x4)) (fun e39 => if x1 = (-1 : Int32) then some (e39.2, M) else some (e39.1, M))
noncomputable def f_MM_bits_J28 (M : Mem) (x1 : Int32) : Option (Int32 × Mem) := bnd (f_MM_runs M) (fun M3 => f_MM_bits_J39 M3 x1 (0 : Int32) (0 : Int32) (0 : Int32))
noncomputable def f_MM_bits (M : Mem) (x1 : Int32) : Option (Int32 × Mem) := 
    if (M 1 0) = 0 then some ((-1 : Int32), M) else 
    if x1 = (-1 : Int32) then f_MM_bits_J28 M x1 else 
    if (bI (f_MM_in x1.toInt64 (1 : Int64) (8 : Int64))) = 0 then some ((-1 : Int32), M) else f_MM_bits_J28 M x1
set_option maxHeartbeats 4000000 in
theorem wk_MM_bits {l : Launch} {Z : WD} (hI : wI Z) (hZ : IsM Z) (M : Mem) (x1 : Int32) {r : Int32} {M' : Mem} {p : Program} {e : Env} {R : Room} {s : State} {m : MethodId} {args : Array Value} {below : List Frame} {meth : Method} {c : Code} {H : Heap} {locs : List Loc} {ls : Array Slot} {Q : State → Prop} (S : CallFix p m c b_MM_bits 6 s args gtb R_MM) (hX : wX Z s) (hR : 6 ≤ R.frames ∧ 148 ≤ R.locals) (hQ : ∀ (pc : Nat) (H : Heap) (locs : List Loc) (ls : Array Slot), HW Z M' s H locs → decode b_MM_bits pc = .ok (.ireturn, 1) → W p l e R s m args below meth c H locs 0 0 Q (F0 m pc ls [.int r])) (hf0 : f_MM_bits M x1 = some (r, M')) (hH : HW Z M s H locs) (hl : lv_has ls 6 [(0, .ref (Z.2.2.1 0)), (1, .int x1)]) : W p l e R s m args below meth c H locs 0 0 Q (F0 m 0 ls []) := by
  have hx := S.1
  have hb := S.2.1
  have hown := S.2.2.2.1
  have ht := S.2.2.2.2
  unfold f_MM_bits at hf0
  have J39 : ∀ (M : Mem) (x1 : Int32) (x2 : Int32) (x3 : Int32) (x4 : Int32) (H : Heap) (locs : List Loc) (ls : Array Slot), f_MM_bits_J39 M x1 x2 x3 x4 = some (r, M') → HW Z M s H locs → lv_has ls 6 [(0, .ref (Z.2.2.1 0)), (1, .int x1), (2, .int x2), (3, .int x3), (4, .int x4)] → W p l e R s m args below meth c H locs 0 0 Q (F0 m 39 ls []) := by
    intro M x1 x2 x3 x4 H locs ls hf0 hH hl
    unfold f_MM_bits_J39 at hf0
    obtain ⟨e39, he39, hf0⟩ := o_b hf0
    have KX39 : ∀ (H : Heap) (locs : List Loc) (ls : Array Slot), HW Z M s H locs → lv_has ls 6 [(1, .int x1), (2, .int e39.1), (3, .int e39.2)] → W p l e R s m args below meth c H locs 0 0 Q (F0 m 94 ls []) := by
      intro H locs ls hH hl
      refine lv_iload_n hx hb d_MM_bits_94 rfl (lv_at hl 0 rfl) ?_
      refine lv_iconst (v := (-1 : Int32)) hx hb d_MM_bits_95 (by decide) ?_
      refine lv_icmp_ne (tgt := 103) hx hb d_MM_bits_96 (by decide) (fun hc => ?_) (fun hc => ?_)
      · replace hf0 := o_f hc hf0
        refine lv_iload_n hx hb d_MM_bits_103 rfl (lv_at hl 1 rfl) ?_
        obtain ⟨rfl, rfl⟩ := o_p hf0
        exact hQ _ _ _ _ hH d_MM_bits_104
      · replace hf0 := o_t hc hf0
        refine lv_iload_n hx hb d_MM_bits_99 rfl (lv_at hl 2 rfl) ?_
        refine lv_goto (tgt := 104) hx hb d_MM_bits_100 (by decide) ?_
        obtain ⟨rfl, rfl⟩ := o_p hf0
        exact hQ _ _ _ _ hH d_MM_bits_104
    unfold f_MM_bits_W39 at he39
    refine loop_W (fun t => ∀ (H : Heap) (locs : List Loc) (ls : Array Slot), HW Z M s H locs → lv_has ls 6 [(0, .ref (Z.2.2.1 0)), (1, .int x1), (2, .int t.1), (3, .int t.2.1), (4, .int t.2.2)] → W p l e R s m args below meth c H locs 0 0 Q (F0 m 39 ls [])) ?_ he39 H locs ls hH hl
    rintro ⟨x2, x3, x4⟩ o1 hf1 hG1 hR1 H locs ls hH hl
    replace hH : HW Z M s H locs := hH
    replace hl : lv_has ls 6 [(0, .ref (Z.2.2.1 0)), (1, .int x1), (2, .int x2), (3, .int x3), (4, .int x4)] := hl
    replace hf1 : f_MM_bits_L39 M x1 x2 x3 x4 = some o1 := hf1
    unfold f_MM_bits_L39 at hf1
    have J86 : ∀ (x3 : Int32) (x4 : Int32) (s0 : Int32) (s1 : Int32) (H : Heap) (locs : List Loc) (ls : Array Slot), f_MM_bits_J86 M x1 x3 x4 s0 s1 = some o1 → HW Z M s H locs → lv_has ls 6 [(0, .ref (Z.2.2.1 0)), (1, .int x1), (3, .int x3), (4, .int x4)] → W p l e R s m args below meth c H locs 0 0 Q (F0 m 86 ls [.int s0, .int s1]) := by
      intro x3 x4 s0 s1 H locs ls hf1 hH hl
      unfold f_MM_bits_J86 at hf1
      refine lv_iadd hx hb d_MM_bits_86 ?_
      refine lv_istore_n (lv' := [(2, .int (s1 + s0)), (0, .ref (Z.2.2.1 0)), (1, .int x1), (3, .int x3), (4, .int x4)]) hx hb d_MM_bits_87 rfl hl (by decide) rfl (fun ls hl => ?_)
      refine lv_iinc (v := x4 + (1 : Int32)) (lv' := [(4, .int (x4 + (1 : Int32))), (2, .int (s1 + s0)), (0, .ref (Z.2.2.1 0)), (1, .int x1), (3, .int x3)]) hx hb d_MM_bits_88 hl (k := 4) rfl rfl (by decide) rfl (fun ls hl => ?_)
      refine lv_goto (tgt := 39) hx hb d_MM_bits_91 (by decide) ?_
      exact hG1 _ (o_v hf1).symm _ _ _ hH (lv_sub hl [2, 3, 1, 4, 0] rfl)
    refine lv_iload hx hb d_MM_bits_39 (lv_at hl 4 rfl) ?_
    refine lv_aload_n hx hb d_MM_bits_41 rfl (lv_at hl 0 rfl) ?_
    refine g_MM_264 S hX hH hZ d_MM_bits_42 ?_
    refine lv_icmp_ge (tgt := 94) hx hb d_MM_bits_45 (by decide) (fun hc => ?_) (fun hc => ?_)
    · replace hf1 := o_t hc hf1
      obtain rfl := hR1 _ (o_v hf1).symm
      exact KX39 _ _ _ hH (lv_sub hl [1, 2, 3] rfl)
    · replace hf1 := o_f hc hf1
      refine lv_iconst (v := (5 : Int32)) hx hb d_MM_bits_48 (by decide) ?_
      refine lv_iconst (v := (3 : Int32)) hx hb d_MM_bits_49 (by decide) ?_
      refine lv_aload_n hx hb d_MM_bits_50 rfl (lv_at hl 0 rfl) ?_
      refine g_MM_48 S hX hH hZ d_MM_bits_51 ?_
      refine lv_iload hx hb d_MM_bits_54 (lv_at hl 4 rfl) ?_
      obtain ⟨hn1, hf1⟩ := o_in hf1
      refine q_iald (j := x4.toNatClampNeg) hx hb hX hH (aa_MM_13 hZ) hn1 rfl d_MM_bits_56 ?_
      refine lv_imul hx hb d_MM_bits_57 ?_
      refine lv_iadd hx hb d_MM_bits_58 ?_
      refine lv_istore (lv' := [(5, .int ((5 : Int32) + ((3 : Int32) * (M 13 x4.toNatClampNeg)))), (0, .ref (Z.2.2.1 0)), (1, .int x1), (2, .int x2), (3, .int x3), (4, .int x4)]) hx hb d_MM_bits_59 hl (by decide) rfl (fun ls hl => ?_)
      refine lv_iload_n hx hb d_MM_bits_61 rfl (lv_at hl 4 rfl) ?_
      refine lv_iload hx hb d_MM_bits_62 (lv_at hl 0 rfl) ?_
      refine q_max S hl.1 w6_190 w3_108 w1_9 w3_109 (Nat.le_trans (Nat.le_of_ble_eq_true rfl) hR.1) (Nat.le_trans (Nat.le_of_ble_eq_true rfl) hR.2) d_MM_bits_64 ?_
      refine lv_istore_n (lv' := [(3, .int (maI x3 ((5 : Int32) + ((3 : Int32) * (M 13 x4.toNatClampNeg))))), (5, .int ((5 : Int32) + ((3 : Int32) * (M 13 x4.toNatClampNeg)))), (0, .ref (Z.2.2.1 0)), (1, .int x1), (2, .int x2), (4, .int x4)]) hx hb d_MM_bits_67 rfl hl (by decide) rfl (fun ls hl => ?_)
      refine lv_iload_n hx hb d_MM_bits_68 rfl (lv_at hl 4 rfl) ?_
      refine lv_aload_n hx hb d_MM_bits_69 rfl (lv_at hl 2 rfl) ?_
      refine g_MM_36 S hX hH hZ d_MM_bits_70 ?_
      refine lv_iload hx hb d_MM_bits_73 (lv_at hl 5 rfl) ?_
      refine q_iald (j := x4.toNatClampNeg) hx hb hX hH (aa_MM_9 hZ) hn1 rfl d_MM_bits_75 ?_
      refine lv_iload_n hx hb d_MM_bits_76 rfl (lv_at hl 3 rfl) ?_
      refine lv_icmp_ne (tgt := 85) hx hb d_MM_bits_77 (by decide) (fun hc => ?_) (fun hc => ?_)
      · replace hf1 := o_f hc hf1
        refine lv_iconst (v := (0 : Int32)) hx hb d_MM_bits_85 (by decide) ?_
        exact J86 _ _ _ _ _ _ _ hf1 hH (lv_sub hl [2, 3, 0, 5] rfl)
      · replace hf1 := o_t hc hf1
        refine lv_iload hx hb d_MM_bits_80 (lv_at hl 1 rfl) ?_
        refine lv_goto (tgt := 86) hx hb d_MM_bits_82 (by decide) ?_
        exact J86 _ _ _ _ _ _ _ hf1 hH (lv_sub hl [2, 3, 0, 5] rfl)
  have J28 : ∀ (M : Mem) (x1 : Int32) (H : Heap) (locs : List Loc) (ls : Array Slot), f_MM_bits_J28 M x1 = some (r, M') → HW Z M s H locs → lv_has ls 6 [(0, .ref (Z.2.2.1 0)), (1, .int x1)] → W p l e R s m args below meth c H locs 0 0 Q (F0 m 28 ls []) := by
    intro M x1 H locs ls hf0 hH hl
    unfold f_MM_bits_J28 at hf0
    refine lv_aload_n hx hb d_MM_bits_28 rfl (lv_at hl 0 rfl) ?_
    obtain ⟨M3, hc2, hf0⟩ := o_b hf0
    refine q_cVv (As := []) (rest := []) S hX hH (c_MM_runs l hI hZ M hc2) (cw_MM_321 S.2.2.2.2 (Nat.le_trans (Nat.le_of_ble_eq_true rfl) hR.1) (Nat.le_trans (Nat.le_of_ble_eq_true rfl) hR.2)) (rc_MM hX hH hZ) rfl hl.1 rfl (Nat.le_of_ble_eq_true rfl) d_MM_bits_29 ⟨Nat.zero_le _, Nat.zero_le _⟩ (fun H locs hH => ?_)
    refine lv_iconst (v := (0 : Int32)) hx hb d_MM_bits_32 (by decide) ?_
    refine lv_istore_n (lv' := [(2, .int (0 : Int32)), (0, .ref (Z.2.2.1 0)), (1, .int x1)]) hx hb d_MM_bits_33 rfl hl (by decide) rfl (fun ls hl => ?_)
    refine lv_iconst (v := (0 : Int32)) hx hb d_MM_bits_34 (by decide) ?_
    refine lv_istore_n (lv' := [(3, .int (0 : Int32)), (2, .int (0 : Int32)), (0, .ref (Z.2.2.1 0)), (1, .int x1)]) hx hb d_MM_bits_35 rfl hl (by decide) rfl (fun ls hl => ?_)
    refine lv_iconst (v := (0 : Int32)) hx hb d_MM_bits_36 (by decide) ?_
    refine lv_istore (lv' := [(4, .int (0 : Int32)), (3, .int (0 : Int32)), (2, .int (0 : Int32)), (0, .ref (Z.2.2.1 0)), (1, .int x1)]) hx hb d_MM_bits_37 hl (by decide) rfl (fun ls hl => ?_)
    exact J39 _ _ _ _ _ _ _ _ hf0 hH (lv_sub hl [3, 4, 2, 1, 0] rfl)
  refine lv_aload_n hx hb d_MM_bits_0 rfl (lv_at hl 0 rfl) ?_
  refine g_MM_9 S hX hH hZ d_MM_bits_1 ?_
  refine lv_iconst (v := (0 : Int32)) hx hb d_MM_bits_4 (by decide) ?_
  refine q_iald (j := 0) hx hb hX hH (aa_MM_1 hZ) (vp_c (by decide)) (by decide) d_MM_bits_5 ?_
  refine lv_if_eq (tgt := 26) hx hb d_MM_bits_6 (by decide) (fun hc => ?_) (fun hc => ?_)
  · replace hf0 := o_t hc hf0
    refine lv_iconst (v := (-1 : Int32)) hx hb d_MM_bits_26 (by decide) ?_
    obtain ⟨rfl, rfl⟩ := o_p hf0
    exact hQ _ _ _ _ hH d_MM_bits_27
  · replace hf0 := o_f hc hf0
    refine lv_iload_n hx hb d_MM_bits_9 rfl (lv_at hl 1 rfl) ?_
    refine lv_iconst (v := (-1 : Int32)) hx hb d_MM_bits_10 (by decide) ?_
    refine lv_icmp_eq (tgt := 28) hx hb d_MM_bits_11 (by decide) (fun hc => ?_) (fun hc => ?_)
    · replace hf0 := o_t hc hf0
      exact J28 _ _ _ _ _ hf0 hH (lv_sub hl [0, 1] rfl)
    · replace hf0 := o_f hc hf0
      refine lv_iload_n hx hb d_MM_bits_14 rfl (lv_at hl 1 rfl) ?_
      refine lv_i2l hx hb d_MM_bits_15 rfl ?_
      refine lv_lconst (v := (1 : Int64)) hx hb d_MM_bits_16 (by decide) ?_
      refine lv_ldc2 (v := (8 : Int64)) hx hb hown (ht _ w5_170) d_MM_bits_17 ?_
      refine q_cSi (As := [.long x1.toInt64, .long (1 : Int64), .long (8 : Int64)]) (rest := []) S hX hH (c_MM_in l hI M x1.toInt64 (1 : Int64) (8 : Int64) rfl) (cw_MM_108 S.2.2.2.2 (Nat.le_trans (Nat.le_of_ble_eq_true rfl) hR.1) (Nat.le_trans (Nat.le_of_ble_eq_true rfl) hR.2)) rfl hl.1 rfl (Nat.le_of_ble_eq_true rfl) d_MM_bits_20 ⟨Nat.zero_le _, Nat.zero_le _⟩ (fun H locs hH => ?_)
      refine lv_if_ne (tgt := 28) hx hb d_MM_bits_23 (by decide) (fun hc => ?_) (fun hc => ?_)
      · replace hf0 := o_f hc hf0
        exact J28 _ _ _ _ _ hf0 hH (lv_sub hl [0, 1] rfl)
      · replace hf0 := o_t hc hf0
        refine lv_iconst (v := (-1 : Int32)) hx hb d_MM_bits_26 (by decide) ?_
        obtain ⟨rfl, rfl⟩ := o_p hf0
        exact hQ _ _ _ _ hH d_MM_bits_27
theorem c_MM_bits (l : Launch) {Z : WD} (hI : wI Z) (hZ : IsM Z) (M : Mem) (x1 : Int32) {r : Int32} {M' : Mem} (hf : f_MM_bits M x1 = some (r, M')) : Ci l Z y_MM_bits b_MM_bits 6 (some .int) 6 148 [.ref (Z.2.2.1 0), .int x1] M M' r := by
  refine Met.ofW (cc := b_MM_bits) (maxL := 6) (ret := (some .int)) (by decide) rfl ?_
  intro p e s m args below meth c s₁ B hml hv
  obtain ⟨rfl, hP, hX⟩ := hv
  have S : CallFix p m c b_MM_bits 6 s ([.ref (Z.2.2.1 0), .int x1] : List Value).toArray gtb R_MM := ⟨B.exec, B.bytes, hml, findClass_of_methodNamed B.named, fun w hw => atoms_spec (ws := .code y_MM_bits b_MM_bits 6 (some .int) :: gtb) B.pre w (List.mem_cons_of_mem _ hw)⟩
  have hl := lv_entry ([.ref (Z.2.2.1 0), .int x1]) (n := 6) (Nat.le_of_ble_eq_true rfl)
  rw [lg_entry_eq]
  exact wk_MM_bits hI hZ M x1 S hX ⟨Nat.le_refl _, Nat.le_refl _⟩ (fun pc H locs ls hH d => q_ri S.1 S.2.1 B.returns B.notSynchronized hH rfl rfl d) hf ⟨hP, va_S.rf⟩ hl
noncomputable def f_MM_loadOf_J42 (M : Mem) (x1 : Int32) (x2 : Int32) (x4 : Int32) (s0 : Int32) (s1 : Int32) : Option ((Int32 × Int32) ⊕ Int32) := some (.inl (s1 + (f_MM_truth s0), x4 + (1 : Int32)))
noncomputable def f_MM_loadOf_J41 (M : Mem) (x1 : Int32) (x2 : Int32) (x4 : Int32) (s0 : Int32) : Option ((Int32 × Int32) ⊕ Int32) := f_MM_loadOf_J42 M x1 x2 x4 (0 : Int32) s0
noncomputable def f_MM_loadOf_L5 (M : Mem) (x1 : Int32) (x2 : Int32) (x3 : Int32) (x4 : Int32) : Option ((Int32 × Int32) ⊕ Int32) := if (M 0 21) ≤ x4 then some (.inr x3) else 
    gIn x4 260 (if (M 10 x4.toNatClampNeg) = x1 then 
    if (M 11 x4.toNatClampNeg) = x2 then f_MM_loadOf_J42 M x1 x2 x4 (1 : Int32) x3 else f_MM_loadOf_J41 M x1 x2 x4 x3 else f_MM_loadOf_J41 M x1 x2 x4 x3)
noncomputable def f_MM_loadOf_W5 (M : Mem) (x1 : Int32) (x2 : Int32) (u : (Int32 × Int32)) : Option Int32 := loop (fun t => f_MM_loadOf_L5 M x1 x2 t.1 t.2) u
noncomputable def f_MM_loadOf_J5 (M : Mem) (x1 : Int32) (x2 : Int32) (x3 : Int32) (x4 : Int32) : Option (Int32) := bnd (f_MM_loadOf_W5 M x1 x2 (x3, x4)) (fun e5 => some e5)
noncomputable def f_MM_loadOf (M : Mem) (x1 : Int32) (x2 : Int32) : Option Int32 := f_MM_loadOf_J5 M x1 x2 (0 : Int32) (0 : Int32)
set_option maxHeartbeats 4000000 in
theorem wk_MM_loadOf {l : Launch} {Z : WD} (hI : wI Z) (hZ : IsM Z) (M : Mem) (x1 : Int32) (x2 : Int32) {r : Int32} {p : Program} {e : Env} {R : Room} {s : State} {m : MethodId} {args : Array Value} {below : List Frame} {meth : Method} {c : Code} {H : Heap} {locs : List Loc} {ls : Array Slot} {Q : State → Prop} (S : CallFix p m c b_MM_loadOf 5 s args gtb R_MM) (hX : wX Z s) (hR : 1 ≤ R.frames ∧ 20 ≤ R.locals) (hQ : ∀ (pc : Nat) (H : Heap) (locs : List Loc) (ls : Array Slot), HW Z M s H locs → decode b_MM_loadOf pc = .ok (.ireturn, 1) → W p l e R s m args below meth c H locs 0 0 Q (F0 m pc ls [.int r])) (hf0 : f_MM_loadOf M x1 x2 = some r) (hH : HW Z M s H locs) (hl : lv_has ls 5 [(0, .ref (Z.2.2.1 0)), (1, .int x1), (2, .int x2)]) : W p l e R s m args below meth c H locs 0 0 Q (F0 m 0 ls []) := by
  have hx := S.1
  have hb := S.2.1
  have hown := S.2.2.2.1
  have ht := S.2.2.2.2
  unfold f_MM_loadOf at hf0
  have J5 : ∀ (x1 : Int32) (x2 : Int32) (x3 : Int32) (x4 : Int32) (H : Heap) (locs : List Loc) (ls : Array Slot), f_MM_loadOf_J5 M x1 x2 x3 x4 = some r → HW Z M s H locs → lv_has ls 5 [(0, .ref (Z.2.2.1 0)), (1, .int x1), (2, .int x2), (3, .int x3), (4, .int x4)] → W p l e R s m args below meth c H locs 0 0 Q (F0 m 5 ls []) := by
    intro x1 x2 x3 x4 H locs ls hf0 hH hl
    unfold f_MM_loadOf_J5 at hf0
    obtain ⟨e5, he5, hf0⟩ := o_b hf0
    unfold f_MM_loadOf_W5 at he5
    refine loop_W (fun t => ∀ (H : Heap) (locs : List Loc) (ls : Array Slot), HW Z M s H locs → lv_has ls 5 [(0, .ref (Z.2.2.1 0)), (1, .int x1), (2, .int x2), (3, .int t.1), (4, .int t.2)] → W p l e R s m args below meth c H locs 0 0 Q (F0 m 5 ls [])) ?_ he5 H locs ls hH hl
    rintro ⟨x3, x4⟩ o1 hf1 hG1 hR1 H locs ls hH hl
    replace hH : HW Z M s H locs := hH
    replace hl : lv_has ls 5 [(0, .ref (Z.2.2.1 0)), (1, .int x1), (2, .int x2), (3, .int x3), (4, .int x4)] := hl
    replace hf1 : f_MM_loadOf_L5 M x1 x2 x3 x4 = some o1 := hf1
    unfold f_MM_loadOf_L5 at hf1
    have J42 : ∀ (x4 : Int32) (s0 : Int32) (s1 : Int32) (H : Heap) (locs : List Loc) (ls : Array Slot), f_MM_loadOf_J42 M x1 x2 x4 s0 s1 = some o1 → HW Z M s H locs → lv_has ls 5 [(0, .ref (Z.2.2.1 0)), (1, .int x1), (2, .int x2), (4, .int x4)] → W p l e R s m args below meth c H locs 0 0 Q (F0 m 42 ls [.int s0, .int s1]) := by
      intro x4 s0 s1 H locs ls hf1 hH hl
      unfold f_MM_loadOf_J42 at hf1
      refine q_cSi (As := [.int s0]) (rest := [.int s1]) S hX hH (c_MM_truth l hI M s0 rfl) (cw_MM_150 S.2.2.2.2 (Nat.le_trans (Nat.le_of_ble_eq_true rfl) hR.1) (Nat.le_trans (Nat.le_of_ble_eq_true rfl) hR.2)) rfl hl.1 rfl (Nat.le_of_ble_eq_true rfl) d_MM_loadOf_42 ⟨Nat.zero_le _, Nat.zero_le _⟩ (fun H locs hH => ?_)
      refine lv_iadd hx hb d_MM_loadOf_45 ?_
      refine lv_istore_n (lv' := [(3, .int (s1 + (f_MM_truth s0))), (0, .ref (Z.2.2.1 0)), (1, .int x1), (2, .int x2), (4, .int x4)]) hx hb d_MM_loadOf_46 rfl hl (by decide) rfl (fun ls hl => ?_)
      refine lv_iinc (v := x4 + (1 : Int32)) (lv' := [(4, .int (x4 + (1 : Int32))), (3, .int (s1 + (f_MM_truth s0))), (0, .ref (Z.2.2.1 0)), (1, .int x1), (2, .int x2)]) hx hb d_MM_loadOf_47 hl (k := 4) rfl rfl (by decide) rfl (fun ls hl => ?_)
      refine lv_goto (tgt := 5) hx hb d_MM_loadOf_50 (by decide) ?_
      exact hG1 _ (o_v hf1).symm _ _ _ hH (lv_sub hl [2, 3, 4, 1, 0] rfl)
    have J41 : ∀ (x4 : Int32) (s0 : Int32) (H : Heap) (locs : List Loc) (ls : Array Slot), f_MM_loadOf_J41 M x1 x2 x4 s0 = some o1 → HW Z M s H locs → lv_has ls 5 [(0, .ref (Z.2.2.1 0)), (1, .int x1), (2, .int x2), (4, .int x4)] → W p l e R s m args below meth c H locs 0 0 Q (F0 m 41 ls [.int s0]) := by
      intro x4 s0 H locs ls hf1 hH hl
      unfold f_MM_loadOf_J41 at hf1
      refine lv_iconst (v := (0 : Int32)) hx hb d_MM_loadOf_41 (by decide) ?_
      exact J42 _ _ _ _ _ _ hf1 hH (lv_sub hl [0, 1, 2, 3] rfl)
    refine lv_iload hx hb d_MM_loadOf_5 (lv_at hl 4 rfl) ?_
    refine lv_aload_n hx hb d_MM_loadOf_7 rfl (lv_at hl 0 rfl) ?_
    refine g_MM_264 S hX hH hZ d_MM_loadOf_8 ?_
    refine lv_icmp_ge (tgt := 53) hx hb d_MM_loadOf_11 (by decide) (fun hc => ?_) (fun hc => ?_)
    · replace hf1 := o_t hc hf1
      refine lv_iload_n hx hb d_MM_loadOf_53 rfl (lv_at hl 3 rfl) ?_
      obtain rfl := hR1 _ (o_v hf1).symm
      obtain rfl := o_v hf0
      exact hQ _ _ _ _ hH d_MM_loadOf_54
    · replace hf1 := o_f hc hf1
      refine lv_iload_n hx hb d_MM_loadOf_14 rfl (lv_at hl 3 rfl) ?_
      refine lv_aload_n hx hb d_MM_loadOf_15 rfl (lv_at hl 0 rfl) ?_
      refine g_MM_39 S hX hH hZ d_MM_loadOf_16 ?_
      refine lv_iload hx hb d_MM_loadOf_19 (lv_at hl 4 rfl) ?_
      obtain ⟨hn1, hf1⟩ := o_in hf1
      refine q_iald (j := x4.toNatClampNeg) hx hb hX hH (aa_MM_10 hZ) hn1 rfl d_MM_loadOf_21 ?_
      refine lv_iload_n hx hb d_MM_loadOf_22 rfl (lv_at hl 1 rfl) ?_
      refine lv_icmp_ne (tgt := 41) hx hb d_MM_loadOf_23 (by decide) (fun hc => ?_) (fun hc => ?_)
      · replace hf1 := o_f hc hf1
        exact J41 _ _ _ _ _ hf1 hH (lv_sub hl [0, 1, 2, 4] rfl)
      · replace hf1 := o_t hc hf1
        refine lv_aload_n hx hb d_MM_loadOf_26 rfl (lv_at hl 0 rfl) ?_
        refine g_MM_42 S hX hH hZ d_MM_loadOf_27 ?_
        refine lv_iload hx hb d_MM_loadOf_30 (lv_at hl 4 rfl) ?_
        refine q_iald (j := x4.toNatClampNeg) hx hb hX hH (aa_MM_11 hZ) hn1 rfl d_MM_loadOf_32 ?_
        refine lv_iload_n hx hb d_MM_loadOf_33 rfl (lv_at hl 2 rfl) ?_
        refine lv_icmp_ne (tgt := 41) hx hb d_MM_loadOf_34 (by decide) (fun hc => ?_) (fun hc => ?_)
        · replace hf1 := o_f hc hf1
          exact J41 _ _ _ _ _ hf1 hH (lv_sub hl [0, 1, 2, 4] rfl)
        · replace hf1 := o_t hc hf1
          refine lv_iconst (v := (1 : Int32)) hx hb d_MM_loadOf_37 (by decide) ?_
          refine lv_goto (tgt := 42) hx hb d_MM_loadOf_38 (by decide) ?_
          exact J42 _ _ _ _ _ _ hf1 hH (lv_sub hl [0, 1, 2, 4] rfl)
  refine lv_iconst (v := (0 : Int32)) hx hb d_MM_loadOf_0 (by decide) ?_
  refine lv_istore_n (lv' := [(3, .int (0 : Int32)), (0, .ref (Z.2.2.1 0)), (1, .int x1), (2, .int x2)]) hx hb d_MM_loadOf_1 rfl hl (by decide) rfl (fun ls hl => ?_)
  refine lv_iconst (v := (0 : Int32)) hx hb d_MM_loadOf_2 (by decide) ?_
  refine lv_istore (lv' := [(4, .int (0 : Int32)), (3, .int (0 : Int32)), (0, .ref (Z.2.2.1 0)), (1, .int x1), (2, .int x2)]) hx hb d_MM_loadOf_3 hl (by decide) rfl (fun ls hl => ?_)
  exact J5 _ _ _ _ _ _ _ hf0 hH (lv_sub hl [2, 3, 4, 1, 0] rfl)
theorem c_MM_loadOf (l : Launch) {Z : WD} (hI : wI Z) (hZ : IsM Z) (M : Mem) (x1 : Int32) (x2 : Int32) {r : Int32} (hf : f_MM_loadOf M x1 x2 = some r) : Ci l Z y_MM_loadOf b_MM_loadOf 5 (some .int) 1 20 [.ref (Z.2.2.1 0), .int x1, .int x2] M M r := by
  refine Met.ofW (cc := b_MM_loadOf) (maxL := 5) (ret := (some .int)) (by decide) rfl ?_
  intro p e s m args below meth c s₁ B hml hv
  obtain ⟨rfl, hP, hX⟩ := hv
  have S : CallFix p m c b_MM_loadOf 5 s ([.ref (Z.2.2.1 0), .int x1, .int x2] : List Value).toArray gtb R_MM := ⟨B.exec, B.bytes, hml, findClass_of_methodNamed B.named, fun w hw => atoms_spec (ws := .code y_MM_loadOf b_MM_loadOf 5 (some .int) :: gtb) B.pre w (List.mem_cons_of_mem _ hw)⟩
  have hl := lv_entry ([.ref (Z.2.2.1 0), .int x1, .int x2]) (n := 5) (Nat.le_of_ble_eq_true rfl)
  rw [lg_entry_eq]
  exact wk_MM_loadOf hI hZ M x1 x2 S hX ⟨Nat.le_refl _, Nat.le_refl _⟩ (fun pc H locs ls hH d => q_ri S.1 S.2.1 B.returns B.notSynchronized hH rfl rfl d) hf ⟨hP, va_S.rf⟩ hl
theorem cw_MM_359 {R : Room} {s : State} {args : Array Value} (ht : ∀ w ∈ gtb, w.before args s = true) (h1 : 1 + 1 ≤ R.frames) (h2 : 8 + (5 + 11) + 20 ≤ R.locals) : CallW R s args R_MM R_MM 359 y_MM_loadOf b_MM_loadOf 5 (some .int) (.code y_MM_loadOf b_MM_loadOf 5 (some .int) :: gtb) { frames := 1, cells := 0, slots := 0, locals := 20 } 0 0 2 := cwV 2 ht (gV w6_195 w6_197 ws_MM_loadOf w1_10 w6_198) rfl rfl rfl ⟨rfl, by decide, by decide, by decide +kernel⟩ ⟨h1, h2⟩
noncomputable def f_MM_load_L60 (M : Mem) (x4 : Int32) (x3 : Int32) (x5 : Int32) : Option ((Int32 × Int32) ⊕ Int32) := if (M 1 0) ≤ x5 then some (.inr x3) else bnd (f_MM_loadOf M x4 x5) (fun y2 => some (.inl (maI x3 y2, x5 + (1 : Int32))))
noncomputable def f_MM_load_W60 (M : Mem) (x4 : Int32) (u : (Int32 × Int32)) : Option Int32 := loop (fun t => f_MM_load_L60 M x4 t.1 t.2) u
noncomputable def f_MM_load_J60 (M : Mem) (x3 : Int32) (x4 : Int32) (x5 : Int32) : Option ((Int32 × Int32) ⊕ (Int32 × Mem)) := bnd (f_MM_load_W60 M x4 (x3, x5)) (fun e60 => some (.inl (e60, x4 + (1 : Int32))))
noncomputable def f_MM_load_L46 (M : Mem) (x3 : Int32) (x4 : Int32) : Option ((Int32 × Int32) ⊕ (Int32 × Mem)) := if (M 1 0) ≤ x4 then some (.inr (x3, M)) else f_MM_load_J60 M x3 x4 (0 : Int32)
noncomputable def f_MM_load_W46 (M : Mem) (u : (Int32 × Int32)) : Option (Int32 × Mem) := loop (fun t => f_MM_load_L46 M t.1 t.2) u
noncomputable def f_MM_load_J46 (M : Mem) (x3 : Int32) (x4 : Int32) : Option (Int32 × Mem) := bnd (f_MM_load_W46 M (x3, x4)) (fun e46 => some e46)
noncomputable def f_MM_load_J25 (M : Mem) (x1 : Int32) (x2 : Int32) : Option (Int32 × Mem) := bnd (f_MM_runs M) (fun M4 => 
    if x1 = (-1 : Int32) then f_MM_load_J46 M4 (0 : Int32) (0 : Int32) else bnd (f_MM_loadOf M4 x1 x2) (fun y6 => some (y6, M4)))
noncomputable def f_MM_load (M : Mem) (x1 : Int32) (x2 : Int32) : Option (Int32 × Mem) := 
    if (M 1 0) = 0 then some ((-1 : Int32), M) else 
    if x1 = (-1 : Int32) then f_MM_load_J25 M x1 x2 else if (bI (f_MM_areUnlike M x1 x2)) = 0 then some ((-1 : Int32), M) else f_MM_load_J25 M x1 x2
set_option maxHeartbeats 4000000 in
theorem wk_MM_load {l : Launch} {Z : WD} (hI : wI Z) (hZ : IsM Z) (M : Mem) (x1 : Int32) (x2 : Int32) {r : Int32} {M' : Mem} {p : Program} {e : Env} {R : Room} {s : State} {m : MethodId} {args : Array Value} {below : List Frame} {meth : Method} {c : Code} {H : Heap} {locs : List Loc} {ls : Array Slot} {Q : State → Prop} (S : CallFix p m c b_MM_load 6 s args gtb R_MM) (hX : wX Z s) (hR : 6 ≤ R.frames ∧ 148 ≤ R.locals) (hQ : ∀ (pc : Nat) (H : Heap) (locs : List Loc) (ls : Array Slot), HW Z M' s H locs → decode b_MM_load pc = .ok (.ireturn, 1) → W p l e R s m args below meth c H locs 0 0 Q (F0 m pc ls [.int r])) (hf0 : f_MM_load M x1 x2 = some (r, M')) (hH : HW Z M s H locs) (hl : lv_has ls 6 [(0, .ref (Z.2.2.1 0)), (1, .int x1), (2, .int x2)]) : W p l e R s m args below meth c H locs 0 0 Q (F0 m 0 ls []) := by
  have hx := S.1
  have hb := S.2.1
  have hown := S.2.2.2.1
  have ht := S.2.2.2.2
  unfold f_MM_load at hf0
  have J46 : ∀ (M : Mem) (x3 : Int32) (x4 : Int32) (H : Heap) (locs : List Loc) (ls : Array Slot), f_MM_load_J46 M x3 x4 = some (r, M') → HW Z M s H locs → lv_has ls 6 [(0, .ref (Z.2.2.1 0)), (3, .int x3), (4, .int x4)] → W p l e R s m args below meth c H locs 0 0 Q (F0 m 46 ls []) := by
    intro M x3 x4 H locs ls hf0 hH hl
    unfold f_MM_load_J46 at hf0
    obtain ⟨e46, he46, hf0⟩ := o_b hf0
    unfold f_MM_load_W46 at he46
    refine loop_W (fun t => ∀ (H : Heap) (locs : List Loc) (ls : Array Slot), HW Z M s H locs → lv_has ls 6 [(0, .ref (Z.2.2.1 0)), (3, .int t.1), (4, .int t.2)] → W p l e R s m args below meth c H locs 0 0 Q (F0 m 46 ls [])) ?_ he46 H locs ls hH hl
    rintro ⟨x3, x4⟩ o1 hf1 hG1 hR1 H locs ls hH hl
    replace hH : HW Z M s H locs := hH
    replace hl : lv_has ls 6 [(0, .ref (Z.2.2.1 0)), (3, .int x3), (4, .int x4)] := hl
    replace hf1 : f_MM_load_L46 M x3 x4 = some o1 := hf1
    unfold f_MM_load_L46 at hf1
    have J60 : ∀ (x3 : Int32) (x4 : Int32) (x5 : Int32) (H : Heap) (locs : List Loc) (ls : Array Slot), f_MM_load_J60 M x3 x4 x5 = some o1 → HW Z M s H locs → lv_has ls 6 [(0, .ref (Z.2.2.1 0)), (3, .int x3), (4, .int x4), (5, .int x5)] → W p l e R s m args below meth c H locs 0 0 Q (F0 m 60 ls []) := by
      intro x3 x4 x5 H locs ls hf1 hH hl
      unfold f_MM_load_J60 at hf1
      obtain ⟨e60, he60, hf1⟩ := o_b hf1
      have KX60 : ∀ (H : Heap) (locs : List Loc) (ls : Array Slot), HW Z M s H locs → lv_has ls 6 [(0, .ref (Z.2.2.1 0)), (3, .int e60), (4, .int x4)] → W p l e R s m args below meth c H locs 0 0 Q (F0 m 90 ls []) := by
        intro H locs ls hH hl
        refine lv_iinc (v := x4 + (1 : Int32)) (lv' := [(4, .int (x4 + (1 : Int32))), (0, .ref (Z.2.2.1 0)), (3, .int e60)]) hx hb d_MM_load_90 hl (k := 2) rfl rfl (by decide) rfl (fun ls hl => ?_)
        refine lv_goto (tgt := 46) hx hb d_MM_load_93 (by decide) ?_
        exact hG1 _ (o_v hf1).symm _ _ _ hH (lv_sub hl [1, 2, 0] rfl)
      unfold f_MM_load_W60 at he60
      refine loop_W (fun t => ∀ (H : Heap) (locs : List Loc) (ls : Array Slot), HW Z M s H locs → lv_has ls 6 [(0, .ref (Z.2.2.1 0)), (3, .int t.1), (4, .int x4), (5, .int t.2)] → W p l e R s m args below meth c H locs 0 0 Q (F0 m 60 ls [])) ?_ he60 H locs ls hH hl
      rintro ⟨x3, x5⟩ o2 hf2 hG2 hR2 H locs ls hH hl
      replace hH : HW Z M s H locs := hH
      replace hl : lv_has ls 6 [(0, .ref (Z.2.2.1 0)), (3, .int x3), (4, .int x4), (5, .int x5)] := hl
      replace hf2 : f_MM_load_L60 M x4 x3 x5 = some o2 := hf2
      unfold f_MM_load_L60 at hf2
      refine lv_iload hx hb d_MM_load_60 (lv_at hl 3 rfl) ?_
      refine lv_aload_n hx hb d_MM_load_62 rfl (lv_at hl 0 rfl) ?_
      refine g_MM_9 S hX hH hZ d_MM_load_63 ?_
      refine lv_iconst (v := (0 : Int32)) hx hb d_MM_load_66 (by decide) ?_
      refine q_iald (j := 0) hx hb hX hH (aa_MM_1 hZ) (vp_c (by decide)) (by decide) d_MM_load_67 ?_
      refine lv_icmp_ge (tgt := 90) hx hb d_MM_load_68 (by decide) (fun hc => ?_) (fun hc => ?_)
      · replace hf2 := o_t hc hf2
        obtain rfl := hR2 _ (o_v hf2).symm
        exact KX60 _ _ _ hH (lv_sub hl [0, 1, 2] rfl)
      · replace hf2 := o_f hc hf2
        refine lv_iload_n hx hb d_MM_load_71 rfl (lv_at hl 1 rfl) ?_
        refine lv_aload_n hx hb d_MM_load_72 rfl (lv_at hl 0 rfl) ?_
        refine lv_iload hx hb d_MM_load_73 (lv_at hl 2 rfl) ?_
        refine lv_iload hx hb d_MM_load_75 (lv_at hl 3 rfl) ?_
        obtain ⟨y2, hc1, hf2⟩ := o_b hf2
        refine q_cVi (As := [.int x4, .int x5]) (rest := [.int x3]) S hX hH (c_MM_loadOf l hI hZ M x4 x5 hc1) (cw_MM_359 S.2.2.2.2 (Nat.le_trans (Nat.le_of_ble_eq_true rfl) hR.1) (Nat.le_trans (Nat.le_of_ble_eq_true rfl) hR.2)) (rc_MM hX hH hZ) rfl hl.1 rfl (Nat.le_of_ble_eq_true rfl) d_MM_load_77 ⟨Nat.zero_le _, Nat.zero_le _⟩ (fun H locs hH => ?_)
        refine q_max S hl.1 w6_190 w3_108 w1_9 w3_109 (Nat.le_trans (Nat.le_of_ble_eq_true rfl) hR.1) (Nat.le_trans (Nat.le_of_ble_eq_true rfl) hR.2) d_MM_load_80 ?_
        refine lv_istore_n (lv' := [(3, .int (maI x3 y2)), (0, .ref (Z.2.2.1 0)), (4, .int x4), (5, .int x5)]) hx hb d_MM_load_83 rfl hl (by decide) rfl (fun ls hl => ?_)
        refine lv_iinc (v := x5 + (1 : Int32)) (lv' := [(5, .int (x5 + (1 : Int32))), (3, .int (maI x3 y2)), (0, .ref (Z.2.2.1 0)), (4, .int x4)]) hx hb d_MM_load_84 hl (k := 3) rfl rfl (by decide) rfl (fun ls hl => ?_)
        refine lv_goto (tgt := 60) hx hb d_MM_load_87 (by decide) ?_
        exact hG2 _ (o_v hf2).symm _ _ _ hH (lv_sub hl [2, 1, 3, 0] rfl)
    refine lv_iload hx hb d_MM_load_46 (lv_at hl 2 rfl) ?_
    refine lv_aload_n hx hb d_MM_load_48 rfl (lv_at hl 0 rfl) ?_
    refine g_MM_9 S hX hH hZ d_MM_load_49 ?_
    refine lv_iconst (v := (0 : Int32)) hx hb d_MM_load_52 (by decide) ?_
    refine q_iald (j := 0) hx hb hX hH (aa_MM_1 hZ) (vp_c (by decide)) (by decide) d_MM_load_53 ?_
    refine lv_icmp_ge (tgt := 96) hx hb d_MM_load_54 (by decide) (fun hc => ?_) (fun hc => ?_)
    · replace hf1 := o_t hc hf1
      refine lv_iload_n hx hb d_MM_load_96 rfl (lv_at hl 1 rfl) ?_
      obtain rfl := hR1 _ (o_v hf1).symm
      obtain ⟨rfl, rfl⟩ := o_p hf0
      exact hQ _ _ _ _ hH d_MM_load_97
    · replace hf1 := o_f hc hf1
      refine lv_iconst (v := (0 : Int32)) hx hb d_MM_load_57 (by decide) ?_
      refine lv_istore (lv' := [(5, .int (0 : Int32)), (0, .ref (Z.2.2.1 0)), (3, .int x3), (4, .int x4)]) hx hb d_MM_load_58 hl (by decide) rfl (fun ls hl => ?_)
      exact J60 _ _ _ _ _ _ hf1 hH (lv_sub hl [1, 2, 3, 0] rfl)
  have J25 : ∀ (M : Mem) (x1 : Int32) (x2 : Int32) (H : Heap) (locs : List Loc) (ls : Array Slot), f_MM_load_J25 M x1 x2 = some (r, M') → HW Z M s H locs → lv_has ls 6 [(0, .ref (Z.2.2.1 0)), (1, .int x1), (2, .int x2)] → W p l e R s m args below meth c H locs 0 0 Q (F0 m 25 ls []) := by
    intro M x1 x2 H locs ls hf0 hH hl
    unfold f_MM_load_J25 at hf0
    refine lv_aload_n hx hb d_MM_load_25 rfl (lv_at hl 0 rfl) ?_
    obtain ⟨M4, hc3, hf0⟩ := o_b hf0
    refine q_cVv (As := []) (rest := []) S hX hH (c_MM_runs l hI hZ M hc3) (cw_MM_321 S.2.2.2.2 (Nat.le_trans (Nat.le_of_ble_eq_true rfl) hR.1) (Nat.le_trans (Nat.le_of_ble_eq_true rfl) hR.2)) (rc_MM hX hH hZ) rfl hl.1 rfl (Nat.le_of_ble_eq_true rfl) d_MM_load_26 ⟨Nat.zero_le _, Nat.zero_le _⟩ (fun H locs hH => ?_)
    refine lv_iload_n hx hb d_MM_load_29 rfl (lv_at hl 1 rfl) ?_
    refine lv_iconst (v := (-1 : Int32)) hx hb d_MM_load_30 (by decide) ?_
    refine lv_icmp_eq (tgt := 41) hx hb d_MM_load_31 (by decide) (fun hc => ?_) (fun hc => ?_)
    · replace hf0 := o_t hc hf0
      refine lv_iconst (v := (0 : Int32)) hx hb d_MM_load_41 (by decide) ?_
      refine lv_istore_n (lv' := [(3, .int (0 : Int32)), (0, .ref (Z.2.2.1 0)), (1, .int x1), (2, .int x2)]) hx hb d_MM_load_42 rfl hl (by decide) rfl (fun ls hl => ?_)
      refine lv_iconst (v := (0 : Int32)) hx hb d_MM_load_43 (by decide) ?_
      refine lv_istore (lv' := [(4, .int (0 : Int32)), (3, .int (0 : Int32)), (0, .ref (Z.2.2.1 0)), (1, .int x1), (2, .int x2)]) hx hb d_MM_load_44 hl (by decide) rfl (fun ls hl => ?_)
      exact J46 _ _ _ _ _ _ hf0 hH (lv_sub hl [2, 1, 0] rfl)
    · replace hf0 := o_f hc hf0
      refine lv_aload_n hx hb d_MM_load_34 rfl (lv_at hl 0 rfl) ?_
      refine lv_iload_n hx hb d_MM_load_35 rfl (lv_at hl 1 rfl) ?_
      refine lv_iload_n hx hb d_MM_load_36 rfl (lv_at hl 2 rfl) ?_
      obtain ⟨y6, hc5, hf0⟩ := o_b hf0
      refine q_cVi (As := [.int x1, .int x2]) (rest := []) S hX hH (c_MM_loadOf l hI hZ M4 x1 x2 hc5) (cw_MM_359 S.2.2.2.2 (Nat.le_trans (Nat.le_of_ble_eq_true rfl) hR.1) (Nat.le_trans (Nat.le_of_ble_eq_true rfl) hR.2)) (rc_MM hX hH hZ) rfl hl.1 rfl (Nat.le_of_ble_eq_true rfl) d_MM_load_37 ⟨Nat.zero_le _, Nat.zero_le _⟩ (fun H locs hH => ?_)
      obtain ⟨rfl, rfl⟩ := o_p hf0
      exact hQ _ _ _ _ hH d_MM_load_40
  refine lv_aload_n hx hb d_MM_load_0 rfl (lv_at hl 0 rfl) ?_
  refine g_MM_9 S hX hH hZ d_MM_load_1 ?_
  refine lv_iconst (v := (0 : Int32)) hx hb d_MM_load_4 (by decide) ?_
  refine q_iald (j := 0) hx hb hX hH (aa_MM_1 hZ) (vp_c (by decide)) (by decide) d_MM_load_5 ?_
  refine lv_if_eq (tgt := 23) hx hb d_MM_load_6 (by decide) (fun hc => ?_) (fun hc => ?_)
  · replace hf0 := o_t hc hf0
    refine lv_iconst (v := (-1 : Int32)) hx hb d_MM_load_23 (by decide) ?_
    obtain ⟨rfl, rfl⟩ := o_p hf0
    exact hQ _ _ _ _ hH d_MM_load_24
  · replace hf0 := o_f hc hf0
    refine lv_iload_n hx hb d_MM_load_9 rfl (lv_at hl 1 rfl) ?_
    refine lv_iconst (v := (-1 : Int32)) hx hb d_MM_load_10 (by decide) ?_
    refine lv_icmp_eq (tgt := 25) hx hb d_MM_load_11 (by decide) (fun hc => ?_) (fun hc => ?_)
    · replace hf0 := o_t hc hf0
      exact J25 _ _ _ _ _ _ hf0 hH (lv_sub hl [0, 1, 2] rfl)
    · replace hf0 := o_f hc hf0
      refine lv_aload_n hx hb d_MM_load_14 rfl (lv_at hl 0 rfl) ?_
      refine lv_iload_n hx hb d_MM_load_15 rfl (lv_at hl 1 rfl) ?_
      refine lv_iload_n hx hb d_MM_load_16 rfl (lv_at hl 2 rfl) ?_
      refine q_cVi (As := [.int x1, .int x2]) (rest := []) S hX hH (c_MM_areUnlike l hI hZ M x1 x2 rfl) (cw_MM_224 S.2.2.2.2 (Nat.le_trans (Nat.le_of_ble_eq_true rfl) hR.1) (Nat.le_trans (Nat.le_of_ble_eq_true rfl) hR.2)) (rc_MM hX hH hZ) rfl hl.1 rfl (Nat.le_of_ble_eq_true rfl) d_MM_load_17 ⟨Nat.zero_le _, Nat.zero_le _⟩ (fun H locs hH => ?_)
      refine lv_if_ne (tgt := 25) hx hb d_MM_load_20 (by decide) (fun hc => ?_) (fun hc => ?_)
      · replace hf0 := o_f hc hf0
        exact J25 _ _ _ _ _ _ hf0 hH (lv_sub hl [0, 1, 2] rfl)
      · replace hf0 := o_t hc hf0
        refine lv_iconst (v := (-1 : Int32)) hx hb d_MM_load_23 (by decide) ?_
        obtain ⟨rfl, rfl⟩ := o_p hf0
        exact hQ _ _ _ _ hH d_MM_load_24
theorem c_MM_load (l : Launch) {Z : WD} (hI : wI Z) (hZ : IsM Z) (M : Mem) (x1 : Int32) (x2 : Int32) {r : Int32} {M' : Mem} (hf : f_MM_load M x1 x2 = some (r, M')) : Ci l Z y_MM_load b_MM_load 6 (some .int) 6 148 [.ref (Z.2.2.1 0), .int x1, .int x2] M M' r := by
  refine Met.ofW (cc := b_MM_load) (maxL := 6) (ret := (some .int)) (by decide) rfl ?_
  intro p e s m args below meth c s₁ B hml hv
  obtain ⟨rfl, hP, hX⟩ := hv
  have S : CallFix p m c b_MM_load 6 s ([.ref (Z.2.2.1 0), .int x1, .int x2] : List Value).toArray gtb R_MM := ⟨B.exec, B.bytes, hml, findClass_of_methodNamed B.named, fun w hw => atoms_spec (ws := .code y_MM_load b_MM_load 6 (some .int) :: gtb) B.pre w (List.mem_cons_of_mem _ hw)⟩
  have hl := lv_entry ([.ref (Z.2.2.1 0), .int x1, .int x2]) (n := 6) (Nat.le_of_ble_eq_true rfl)
  rw [lg_entry_eq]
  exact wk_MM_load hI hZ M x1 x2 S hX ⟨Nat.le_refl _, Nat.le_refl _⟩ (fun pc H locs ls hH d => q_ri S.1 S.2.1 B.returns B.notSynchronized hH rfl rfl d) hf ⟨hP, va_S.rf⟩ hl
noncomputable def f_MM_isCalm_J93 (M : Mem) (x1 : Int32) (x2 : Int32) (x3 : Int32) (x5 : Int32) : Option ((Int32 × Int32) ⊕ Bool) := bnd (f_MM_setOf M x5 x2) (fun y2 => some (.inl (y2, x5 + (1 : Int32))))
noncomputable def f_MM_isCalm_J59 (M : Mem) (x1 : Int32) (x2 : Int32) (x3 : Int32) (x4 : Int32) (x5 : Int32) : Option ((Int32 × Int32) ⊕ Bool) := if x1 = (1 : Int32) then 
    if (bI (f_MM_has x3 x5)) = 0 then some (.inl (x4, x5 + (1 : Int32))) else 
    if x4 = (-1 : Int32) then f_MM_isCalm_J93 M x1 x2 x3 x5 else 
    bnd (f_MM_setOf M x5 x2) (fun y4 => if y4 = x4 then f_MM_isCalm_J93 M x1 x2 x3 x5 else some (.inr false)) else some (.inl (x4, x5 + (1 : Int32)))
noncomputable def f_MM_isCalm_L11 (M : Mem) (x1 : Int32) (x2 : Int32) (x3 : Int32) (x4 : Int32) (x5 : Int32) : Option ((Int32 × Int32) ⊕ Bool) := if (M 1 0) ≤ x5 then some (.inr true) else 
    if x1 = 0 then 
    if (bI (f_MM_isLiar M x5)) = 0 then 
    bnd (f_MM_setOf M x5 x2) (fun y6 => 
    bnd (f_MM_setOf M x5 (M 1 3)) (fun y8 => if y6 = y8 then f_MM_isCalm_J59 M x1 x2 x3 x4 x5 else some (.inr false))) else f_MM_isCalm_J59 M x1 x2 x3 x4 x5 else f_MM_isCalm_J59 M x1 x2 x3 x4 x5
noncomputable def f_MM_isCalm_W11 (M : Mem) (x1 : Int32) (x2 : Int32) (x3 : Int32) (u : (Int32 × Int32)) : Option Bool := loop (fun t => f_MM_isCalm_L11 M x1 x2 x3 t.1 t.2) u
noncomputable def f_MM_isCalm_J11 (M : Mem) (x1 : Int32) (x2 : Int32) (x3 : Int32) (x4 : Int32) (x5 : Int32) : Option (Bool) := bnd (f_MM_isCalm_W11 M x1 x2 x3 (x4, x5)) (fun e11 => some e11)
noncomputable def f_MM_isCalm (M : Mem) (x1 : Int32) (x2 : Int32) : Option Bool := bnd (f_MM_soundSet M) (fun y10 => f_MM_isCalm_J11 M x1 x2 y10 (-1 : Int32) (0 : Int32))
set_option maxHeartbeats 4000000 in
theorem wk_MM_isCalm {l : Launch} {Z : WD} (hI : wI Z) (hZ : IsM Z) (M : Mem) (x1 : Int32) (x2 : Int32) {r : Bool} {p : Program} {e : Env} {R : Room} {s : State} {m : MethodId} {args : Array Value} {below : List Frame} {meth : Method} {c : Code} {H : Heap} {locs : List Loc} {ls : Array Slot} {Q : State → Prop} (S : CallFix p m c b_MM_isCalm 6 s args gtb R_MM) (hX : wX Z s) (hR : 3 ≤ R.frames ∧ 66 ≤ R.locals) (hQ : ∀ (pc : Nat) (H : Heap) (locs : List Loc) (ls : Array Slot), HW Z M s H locs → decode b_MM_isCalm pc = .ok (.ireturn, 1) → W p l e R s m args below meth c H locs 0 0 Q (F0 m pc ls [.int (bI r)])) (hf0 : f_MM_isCalm M x1 x2 = some r) (hH : HW Z M s H locs) (hl : lv_has ls 6 [(0, .ref (Z.2.2.1 0)), (1, .int x1), (2, .int x2)]) : W p l e R s m args below meth c H locs 0 0 Q (F0 m 0 ls []) := by
  have hx := S.1
  have hb := S.2.1
  have hown := S.2.2.2.1
  have ht := S.2.2.2.2
  unfold f_MM_isCalm at hf0
  have J11 : ∀ (x1 : Int32) (x2 : Int32) (x3 : Int32) (x4 : Int32) (x5 : Int32) (H : Heap) (locs : List Loc) (ls : Array Slot), f_MM_isCalm_J11 M x1 x2 x3 x4 x5 = some r → HW Z M s H locs → lv_has ls 6 [(0, .ref (Z.2.2.1 0)), (1, .int x1), (2, .int x2), (3, .int x3), (4, .int x4), (5, .int x5)] → W p l e R s m args below meth c H locs 0 0 Q (F0 m 11 ls []) := by
    intro x1 x2 x3 x4 x5 H locs ls hf0 hH hl
    unfold f_MM_isCalm_J11 at hf0
    obtain ⟨e11, he11, hf0⟩ := o_b hf0
    unfold f_MM_isCalm_W11 at he11
    refine loop_W (fun t => ∀ (H : Heap) (locs : List Loc) (ls : Array Slot), HW Z M s H locs → lv_has ls 6 [(0, .ref (Z.2.2.1 0)), (1, .int x1), (2, .int x2), (3, .int x3), (4, .int t.1), (5, .int t.2)] → W p l e R s m args below meth c H locs 0 0 Q (F0 m 11 ls [])) ?_ he11 H locs ls hH hl
    rintro ⟨x4, x5⟩ o1 hf1 hG1 hR1 H locs ls hH hl
    replace hH : HW Z M s H locs := hH
    replace hl : lv_has ls 6 [(0, .ref (Z.2.2.1 0)), (1, .int x1), (2, .int x2), (3, .int x3), (4, .int x4), (5, .int x5)] := hl
    replace hf1 : f_MM_isCalm_L11 M x1 x2 x3 x4 x5 = some o1 := hf1
    unfold f_MM_isCalm_L11 at hf1
    have J93 : ∀ (x5 : Int32) (H : Heap) (locs : List Loc) (ls : Array Slot), f_MM_isCalm_J93 M x1 x2 x3 x5 = some o1 → HW Z M s H locs → lv_has ls 6 [(0, .ref (Z.2.2.1 0)), (1, .int x1), (2, .int x2), (3, .int x3), (5, .int x5)] → W p l e R s m args below meth c H locs 0 0 Q (F0 m 93 ls []) := by
      intro x5 H locs ls hf1 hH hl
      unfold f_MM_isCalm_J93 at hf1
      refine lv_aload_n hx hb d_MM_isCalm_93 rfl (lv_at hl 0 rfl) ?_
      refine lv_iload hx hb d_MM_isCalm_94 (lv_at hl 4 rfl) ?_
      refine lv_iload_n hx hb d_MM_isCalm_96 rfl (lv_at hl 2 rfl) ?_
      obtain ⟨y2, hc1, hf1⟩ := o_b hf1
      refine q_cVi (As := [.int x5, .int x2]) (rest := []) S hX hH (c_MM_setOf l hI hZ M x5 x2 hc1) (cw_MM_312 S.2.2.2.2 (Nat.le_trans (Nat.le_of_ble_eq_true rfl) hR.1) (Nat.le_trans (Nat.le_of_ble_eq_true rfl) hR.2)) (rc_MM hX hH hZ) rfl hl.1 rfl (Nat.le_of_ble_eq_true rfl) d_MM_isCalm_97 ⟨Nat.zero_le _, Nat.zero_le _⟩ (fun H locs hH => ?_)
      refine lv_istore (lv' := [(4, .int y2), (0, .ref (Z.2.2.1 0)), (1, .int x1), (2, .int x2), (3, .int x3), (5, .int x5)]) hx hb d_MM_isCalm_100 hl (by decide) rfl (fun ls hl => ?_)
      refine lv_iinc (v := x5 + (1 : Int32)) (lv' := [(5, .int (x5 + (1 : Int32))), (4, .int y2), (0, .ref (Z.2.2.1 0)), (1, .int x1), (2, .int x2), (3, .int x3)]) hx hb d_MM_isCalm_102 hl (k := 5) rfl rfl (by decide) rfl (fun ls hl => ?_)
      refine lv_goto (tgt := 11) hx hb d_MM_isCalm_105 (by decide) ?_
      exact hG1 _ (o_v hf1).symm _ _ _ hH (lv_sub hl [2, 3, 4, 5, 1, 0] rfl)
    have J59 : ∀ (x4 : Int32) (x5 : Int32) (H : Heap) (locs : List Loc) (ls : Array Slot), f_MM_isCalm_J59 M x1 x2 x3 x4 x5 = some o1 → HW Z M s H locs → lv_has ls 6 [(0, .ref (Z.2.2.1 0)), (1, .int x1), (2, .int x2), (3, .int x3), (4, .int x4), (5, .int x5)] → W p l e R s m args below meth c H locs 0 0 Q (F0 m 59 ls []) := by
      intro x4 x5 H locs ls hf1 hH hl
      unfold f_MM_isCalm_J59 at hf1
      refine lv_iload_n hx hb d_MM_isCalm_59 rfl (lv_at hl 1 rfl) ?_
      refine lv_iconst (v := (1 : Int32)) hx hb d_MM_isCalm_60 (by decide) ?_
      refine lv_icmp_ne (tgt := 102) hx hb d_MM_isCalm_61 (by decide) (fun hc => ?_) (fun hc => ?_)
      · replace hf1 := o_f hc hf1
        refine lv_iinc (v := x5 + (1 : Int32)) (lv' := [(5, .int (x5 + (1 : Int32))), (0, .ref (Z.2.2.1 0)), (1, .int x1), (2, .int x2), (3, .int x3), (4, .int x4)]) hx hb d_MM_isCalm_102 hl (k := 5) rfl rfl (by decide) rfl (fun ls hl => ?_)
        refine lv_goto (tgt := 11) hx hb d_MM_isCalm_105 (by decide) ?_
        exact hG1 _ (o_v hf1).symm _ _ _ hH (lv_sub hl [1, 2, 3, 4, 5, 0] rfl)
      · replace hf1 := o_t hc hf1
        refine lv_iload_n hx hb d_MM_isCalm_64 rfl (lv_at hl 3 rfl) ?_
        refine lv_iload hx hb d_MM_isCalm_65 (lv_at hl 5 rfl) ?_
        refine q_cSi (As := [.int x3, .int x5]) (rest := []) S hX hH (c_MM_has l hI M x3 x5 rfl) (cw_MM_201 S.2.2.2.2 (Nat.le_trans (Nat.le_of_ble_eq_true rfl) hR.1) (Nat.le_trans (Nat.le_of_ble_eq_true rfl) hR.2)) rfl hl.1 rfl (Nat.le_of_ble_eq_true rfl) d_MM_isCalm_67 ⟨Nat.zero_le _, Nat.zero_le _⟩ (fun H locs hH => ?_)
        refine lv_if_eq (tgt := 102) hx hb d_MM_isCalm_70 (by decide) (fun hc => ?_) (fun hc => ?_)
        · replace hf1 := o_t hc hf1
          refine lv_iinc (v := x5 + (1 : Int32)) (lv' := [(5, .int (x5 + (1 : Int32))), (0, .ref (Z.2.2.1 0)), (1, .int x1), (2, .int x2), (3, .int x3), (4, .int x4)]) hx hb d_MM_isCalm_102 hl (k := 5) rfl rfl (by decide) rfl (fun ls hl => ?_)
          refine lv_goto (tgt := 11) hx hb d_MM_isCalm_105 (by decide) ?_
          exact hG1 _ (o_v hf1).symm _ _ _ hH (lv_sub hl [1, 2, 3, 4, 5, 0] rfl)
        · replace hf1 := o_f hc hf1
          refine lv_iload hx hb d_MM_isCalm_73 (lv_at hl 4 rfl) ?_
          refine lv_iconst (v := (-1 : Int32)) hx hb d_MM_isCalm_75 (by decide) ?_
          refine lv_icmp_eq (tgt := 93) hx hb d_MM_isCalm_76 (by decide) (fun hc => ?_) (fun hc => ?_)
          · replace hf1 := o_t hc hf1
            exact J93 _ _ _ _ hf1 hH (lv_sub hl [0, 1, 2, 3, 5] rfl)
          · replace hf1 := o_f hc hf1
            refine lv_aload_n hx hb d_MM_isCalm_79 rfl (lv_at hl 0 rfl) ?_
            refine lv_iload hx hb d_MM_isCalm_80 (lv_at hl 5 rfl) ?_
            refine lv_iload_n hx hb d_MM_isCalm_82 rfl (lv_at hl 2 rfl) ?_
            obtain ⟨y4, hc3, hf1⟩ := o_b hf1
            refine q_cVi (As := [.int x5, .int x2]) (rest := []) S hX hH (c_MM_setOf l hI hZ M x5 x2 hc3) (cw_MM_312 S.2.2.2.2 (Nat.le_trans (Nat.le_of_ble_eq_true rfl) hR.1) (Nat.le_trans (Nat.le_of_ble_eq_true rfl) hR.2)) (rc_MM hX hH hZ) rfl hl.1 rfl (Nat.le_of_ble_eq_true rfl) d_MM_isCalm_83 ⟨Nat.zero_le _, Nat.zero_le _⟩ (fun H locs hH => ?_)
            refine lv_iload hx hb d_MM_isCalm_86 (lv_at hl 4 rfl) ?_
            refine lv_icmp_eq (tgt := 93) hx hb d_MM_isCalm_88 (by decide) (fun hc => ?_) (fun hc => ?_)
            · replace hf1 := o_t hc hf1
              exact J93 _ _ _ _ hf1 hH (lv_sub hl [0, 1, 2, 3, 5] rfl)
            · replace hf1 := o_f hc hf1
              refine lv_iconst (v := (0 : Int32)) hx hb d_MM_isCalm_91 (by decide) ?_
              obtain rfl := hR1 _ (o_v hf1).symm
              obtain rfl := o_v hf0
              exact hQ _ _ _ _ hH d_MM_isCalm_92
    refine lv_iload hx hb d_MM_isCalm_11 (lv_at hl 5 rfl) ?_
    refine lv_aload_n hx hb d_MM_isCalm_13 rfl (lv_at hl 0 rfl) ?_
    refine g_MM_9 S hX hH hZ d_MM_isCalm_14 ?_
    refine lv_iconst (v := (0 : Int32)) hx hb d_MM_isCalm_17 (by decide) ?_
    refine q_iald (j := 0) hx hb hX hH (aa_MM_1 hZ) (vp_c (by decide)) (by decide) d_MM_isCalm_18 ?_
    refine lv_icmp_ge (tgt := 108) hx hb d_MM_isCalm_19 (by decide) (fun hc => ?_) (fun hc => ?_)
    · replace hf1 := o_t hc hf1
      refine lv_iconst (v := (1 : Int32)) hx hb d_MM_isCalm_108 (by decide) ?_
      obtain rfl := hR1 _ (o_v hf1).symm
      obtain rfl := o_v hf0
      exact hQ _ _ _ _ hH d_MM_isCalm_109
    · replace hf1 := o_f hc hf1
      refine lv_iload_n hx hb d_MM_isCalm_22 rfl (lv_at hl 1 rfl) ?_
      refine lv_if_ne (tgt := 59) hx hb d_MM_isCalm_23 (by decide) (fun hc => ?_) (fun hc => ?_)
      · replace hf1 := o_f hc hf1
        exact J59 _ _ _ _ _ hf1 hH (lv_sub hl [0, 1, 2, 3, 4, 5] rfl)
      · replace hf1 := o_t hc hf1
        refine lv_aload_n hx hb d_MM_isCalm_26 rfl (lv_at hl 0 rfl) ?_
        refine lv_iload hx hb d_MM_isCalm_27 (lv_at hl 5 rfl) ?_
        refine q_cVi (As := [.int x5]) (rest := []) S hX hH (c_MM_isLiar l hI hZ M x5 rfl) (cw_MM_205 S.2.2.2.2 (Nat.le_trans (Nat.le_of_ble_eq_true rfl) hR.1) (Nat.le_trans (Nat.le_of_ble_eq_true rfl) hR.2)) (rc_MM hX hH hZ) rfl hl.1 rfl (Nat.le_of_ble_eq_true rfl) d_MM_isCalm_29 ⟨Nat.zero_le _, Nat.zero_le _⟩ (fun H locs hH => ?_)
        refine lv_if_ne (tgt := 59) hx hb d_MM_isCalm_32 (by decide) (fun hc => ?_) (fun hc => ?_)
        · replace hf1 := o_f hc hf1
          exact J59 _ _ _ _ _ hf1 hH (lv_sub hl [0, 1, 2, 3, 4, 5] rfl)
        · replace hf1 := o_t hc hf1
          refine lv_aload_n hx hb d_MM_isCalm_35 rfl (lv_at hl 0 rfl) ?_
          refine lv_iload hx hb d_MM_isCalm_36 (lv_at hl 5 rfl) ?_
          refine lv_iload_n hx hb d_MM_isCalm_38 rfl (lv_at hl 2 rfl) ?_
          obtain ⟨y6, hc5, hf1⟩ := o_b hf1
          refine q_cVi (As := [.int x5, .int x2]) (rest := []) S hX hH (c_MM_setOf l hI hZ M x5 x2 hc5) (cw_MM_312 S.2.2.2.2 (Nat.le_trans (Nat.le_of_ble_eq_true rfl) hR.1) (Nat.le_trans (Nat.le_of_ble_eq_true rfl) hR.2)) (rc_MM hX hH hZ) rfl hl.1 rfl (Nat.le_of_ble_eq_true rfl) d_MM_isCalm_39 ⟨Nat.zero_le _, Nat.zero_le _⟩ (fun H locs hH => ?_)
          refine lv_aload_n hx hb d_MM_isCalm_42 rfl (lv_at hl 0 rfl) ?_
          refine lv_iload hx hb d_MM_isCalm_43 (lv_at hl 5 rfl) ?_
          refine lv_aload_n hx hb d_MM_isCalm_45 rfl (lv_at hl 0 rfl) ?_
          refine g_MM_9 S hX hH hZ d_MM_isCalm_46 ?_
          refine lv_iconst (v := (3 : Int32)) hx hb d_MM_isCalm_49 (by decide) ?_
          refine q_iald (j := 3) hx hb hX hH (aa_MM_1 hZ) (vp_c (by decide)) (by decide) d_MM_isCalm_50 ?_
          obtain ⟨y8, hc7, hf1⟩ := o_b hf1
          refine q_cVi (As := [.int x5, .int (M 1 3)]) (rest := [.int y6]) S hX hH (c_MM_setOf l hI hZ M x5 (M 1 3) hc7) (cw_MM_312 S.2.2.2.2 (Nat.le_trans (Nat.le_of_ble_eq_true rfl) hR.1) (Nat.le_trans (Nat.le_of_ble_eq_true rfl) hR.2)) (rc_MM hX hH hZ) rfl hl.1 rfl (Nat.le_of_ble_eq_true rfl) d_MM_isCalm_51 ⟨Nat.zero_le _, Nat.zero_le _⟩ (fun H locs hH => ?_)
          refine lv_icmp_eq (tgt := 59) hx hb d_MM_isCalm_54 (by decide) (fun hc => ?_) (fun hc => ?_)
          · replace hf1 := o_t hc hf1
            exact J59 _ _ _ _ _ hf1 hH (lv_sub hl [0, 1, 2, 3, 4, 5] rfl)
          · replace hf1 := o_f hc hf1
            refine lv_iconst (v := (0 : Int32)) hx hb d_MM_isCalm_57 (by decide) ?_
            obtain rfl := hR1 _ (o_v hf1).symm
            obtain rfl := o_v hf0
            exact hQ _ _ _ _ hH d_MM_isCalm_58
  refine lv_aload_n hx hb d_MM_isCalm_0 rfl (lv_at hl 0 rfl) ?_
  obtain ⟨y10, hc9, hf0⟩ := o_b hf0
  refine q_cVi (As := []) (rest := []) S hX hH (c_MM_soundSet l hI hZ M hc9) (cw_MM_332 S.2.2.2.2 (Nat.le_trans (Nat.le_of_ble_eq_true rfl) hR.1) (Nat.le_trans (Nat.le_of_ble_eq_true rfl) hR.2)) (rc_MM hX hH hZ) rfl hl.1 rfl (Nat.le_of_ble_eq_true rfl) d_MM_isCalm_1 ⟨Nat.zero_le _, Nat.zero_le _⟩ (fun H locs hH => ?_)
  refine lv_istore_n (lv' := [(3, .int y10), (0, .ref (Z.2.2.1 0)), (1, .int x1), (2, .int x2)]) hx hb d_MM_isCalm_4 rfl hl (by decide) rfl (fun ls hl => ?_)
  refine lv_iconst (v := (-1 : Int32)) hx hb d_MM_isCalm_5 (by decide) ?_
  refine lv_istore (lv' := [(4, .int (-1 : Int32)), (3, .int y10), (0, .ref (Z.2.2.1 0)), (1, .int x1), (2, .int x2)]) hx hb d_MM_isCalm_6 hl (by decide) rfl (fun ls hl => ?_)
  refine lv_iconst (v := (0 : Int32)) hx hb d_MM_isCalm_8 (by decide) ?_
  refine lv_istore (lv' := [(5, .int (0 : Int32)), (4, .int (-1 : Int32)), (3, .int y10), (0, .ref (Z.2.2.1 0)), (1, .int x1), (2, .int x2)]) hx hb d_MM_isCalm_9 hl (by decide) rfl (fun ls hl => ?_)
  exact J11 _ _ _ _ _ _ _ _ hf0 hH (lv_sub hl [3, 4, 5, 2, 1, 0] rfl)
theorem c_MM_isCalm (l : Launch) {Z : WD} (hI : wI Z) (hZ : IsM Z) (M : Mem) (x1 : Int32) (x2 : Int32) {r : Bool} (hf : f_MM_isCalm M x1 x2 = some r) : Ci l Z y_MM_isCalm b_MM_isCalm 6 (some .boolean) 3 66 [.ref (Z.2.2.1 0), .int x1, .int x2] M M (bI r) := by
  refine Met.ofW (cc := b_MM_isCalm) (maxL := 6) (ret := (some .boolean)) (by decide) rfl ?_
  intro p e s m args below meth c s₁ B hml hv
  obtain ⟨rfl, hP, hX⟩ := hv
  have S : CallFix p m c b_MM_isCalm 6 s ([.ref (Z.2.2.1 0), .int x1, .int x2] : List Value).toArray gtb R_MM := ⟨B.exec, B.bytes, hml, findClass_of_methodNamed B.named, fun w hw => atoms_spec (ws := .code y_MM_isCalm b_MM_isCalm 6 (some .boolean) :: gtb) B.pre w (List.mem_cons_of_mem _ hw)⟩
  have hl := lv_entry ([.ref (Z.2.2.1 0), .int x1, .int x2]) (n := 6) (Nat.le_of_ble_eq_true rfl)
  rw [lg_entry_eq]
  exact wk_MM_isCalm hI hZ M x1 x2 S hX ⟨Nat.le_refl _, Nat.le_refl _⟩ (fun pc H locs ls hH d => q_rz S.1 S.2.1 B.returns B.notSynchronized hH rfl rfl d) hf ⟨hP, va_S.rf⟩ hl
theorem cw_MM_362 {R : Room} {s : State} {args : Array Value} (ht : ∀ w ∈ gtb, w.before args s = true) (h1 : 3 + 1 ≤ R.frames) (h2 : 8 + (6 + 11) + 66 ≤ R.locals) : CallW R s args R_MM R_MM 362 y_MM_isCalm b_MM_isCalm 6 (some .boolean) (.code y_MM_isCalm b_MM_isCalm 6 (some .boolean) :: gtb) { frames := 3, cells := 0, slots := 0, locals := 66 } 0 0 2 := cwV 2 ht (gV w6_203 w6_205 ws_MM_isCalm w1_10 w6_206) rfl rfl rfl ⟨rfl, by decide, by decide, by decide +kernel⟩ ⟨h1, h2⟩
noncomputable def f_MM_calm_L35 (M : Mem) (x1 : Int32) (x2 : Int32) (x3 : Int32) : Option ((Int32 × Int32) ⊕ (Int32 × Mem)) := if x3 < 0 then some (.inr (x2, M)) else 
    bnd (f_MM_isCalm M x1 x3) (fun y2 => if (bI y2) = 0 then some (.inr (x2, M)) else some (.inl (x3, x3 + (-1 : Int32))))
noncomputable def f_MM_calm_W35 (M : Mem) (x1 : Int32) (u : (Int32 × Int32)) : Option (Int32 × Mem) := loop (fun t => f_MM_calm_L35 M x1 t.1 t.2) u
noncomputable def f_MM_calm_J35 (M : Mem) (x1 : Int32) (x2 : Int32) (x3 : Int32) : Option (Int32 × Mem) := bnd (f_MM_calm_W35 M x1 (x2, x3)) (fun e35 => some e35)
noncomputable def f_MM_calm (M : Mem) (x1 : Int32) : Option (Int32 × Mem) := 
    if (M 1 0) = 0 then some ((-1 : Int32), M) else 
    if (bI (f_MM_in x1.toInt64 (0 : Int64) (1 : Int64))) = 0 then some ((-1 : Int32), M) else bnd (f_MM_runs M) (fun M4 => f_MM_calm_J35 M4 x1 (-2 : Int32) (M4 1 3))
set_option maxHeartbeats 4000000 in
theorem wk_MM_calm {l : Launch} {Z : WD} (hI : wI Z) (hZ : IsM Z) (M : Mem) (x1 : Int32) {r : Int32} {M' : Mem} {p : Program} {e : Env} {R : Room} {s : State} {m : MethodId} {args : Array Value} {below : List Frame} {meth : Method} {c : Code} {H : Heap} {locs : List Loc} {ls : Array Slot} {Q : State → Prop} (S : CallFix p m c b_MM_calm 4 s args gtb R_MM) (hX : wX Z s) (hR : 6 ≤ R.frames ∧ 148 ≤ R.locals) (hQ : ∀ (pc : Nat) (H : Heap) (locs : List Loc) (ls : Array Slot), HW Z M' s H locs → decode b_MM_calm pc = .ok (.ireturn, 1) → W p l e R s m args below meth c H locs 0 0 Q (F0 m pc ls [.int r])) (hf0 : f_MM_calm M x1 = some (r, M')) (hH : HW Z M s H locs) (hl : lv_has ls 4 [(0, .ref (Z.2.2.1 0)), (1, .int x1)]) : W p l e R s m args below meth c H locs 0 0 Q (F0 m 0 ls []) := by
  have hx := S.1
  have hb := S.2.1
  have hown := S.2.2.2.1
  have ht := S.2.2.2.2
  unfold f_MM_calm at hf0
  have J35 : ∀ (M : Mem) (x1 : Int32) (x2 : Int32) (x3 : Int32) (H : Heap) (locs : List Loc) (ls : Array Slot), f_MM_calm_J35 M x1 x2 x3 = some (r, M') → HW Z M s H locs → lv_has ls 4 [(0, .ref (Z.2.2.1 0)), (1, .int x1), (2, .int x2), (3, .int x3)] → W p l e R s m args below meth c H locs 0 0 Q (F0 m 35 ls []) := by
    intro M x1 x2 x3 H locs ls hf0 hH hl
    unfold f_MM_calm_J35 at hf0
    obtain ⟨e35, he35, hf0⟩ := o_b hf0
    unfold f_MM_calm_W35 at he35
    refine loop_W (fun t => ∀ (H : Heap) (locs : List Loc) (ls : Array Slot), HW Z M s H locs → lv_has ls 4 [(0, .ref (Z.2.2.1 0)), (1, .int x1), (2, .int t.1), (3, .int t.2)] → W p l e R s m args below meth c H locs 0 0 Q (F0 m 35 ls [])) ?_ he35 H locs ls hH hl
    rintro ⟨x2, x3⟩ o1 hf1 hG1 hR1 H locs ls hH hl
    replace hH : HW Z M s H locs := hH
    replace hl : lv_has ls 4 [(0, .ref (Z.2.2.1 0)), (1, .int x1), (2, .int x2), (3, .int x3)] := hl
    replace hf1 : f_MM_calm_L35 M x1 x2 x3 = some o1 := hf1
    unfold f_MM_calm_L35 at hf1
    refine lv_iload_n hx hb d_MM_calm_35 rfl (lv_at hl 3 rfl) ?_
    refine lv_if_lt (tgt := 56) hx hb d_MM_calm_36 (by decide) (fun hc => ?_) (fun hc => ?_)
    · replace hf1 := o_t hc hf1
      refine lv_iload_n hx hb d_MM_calm_56 rfl (lv_at hl 2 rfl) ?_
      obtain rfl := hR1 _ (o_v hf1).symm
      obtain ⟨rfl, rfl⟩ := o_p hf0
      exact hQ _ _ _ _ hH d_MM_calm_57
    · replace hf1 := o_f hc hf1
      refine lv_aload_n hx hb d_MM_calm_39 rfl (lv_at hl 0 rfl) ?_
      refine lv_iload_n hx hb d_MM_calm_40 rfl (lv_at hl 1 rfl) ?_
      refine lv_iload_n hx hb d_MM_calm_41 rfl (lv_at hl 3 rfl) ?_
      obtain ⟨y2, hc1, hf1⟩ := o_b hf1
      refine q_cVi (As := [.int x1, .int x3]) (rest := []) S hX hH (c_MM_isCalm l hI hZ M x1 x3 hc1) (cw_MM_362 S.2.2.2.2 (Nat.le_trans (Nat.le_of_ble_eq_true rfl) hR.1) (Nat.le_trans (Nat.le_of_ble_eq_true rfl) hR.2)) (rc_MM hX hH hZ) rfl hl.1 rfl (Nat.le_of_ble_eq_true rfl) d_MM_calm_42 ⟨Nat.zero_le _, Nat.zero_le _⟩ (fun H locs hH => ?_)
      refine lv_if_eq (tgt := 56) hx hb d_MM_calm_45 (by decide) (fun hc => ?_) (fun hc => ?_)
      · replace hf1 := o_t hc hf1
        refine lv_iload_n hx hb d_MM_calm_56 rfl (lv_at hl 2 rfl) ?_
        obtain rfl := hR1 _ (o_v hf1).symm
        obtain ⟨rfl, rfl⟩ := o_p hf0
        exact hQ _ _ _ _ hH d_MM_calm_57
      · replace hf1 := o_f hc hf1
        refine lv_iload_n hx hb d_MM_calm_48 rfl (lv_at hl 3 rfl) ?_
        refine lv_istore_n (lv' := [(2, .int x3), (0, .ref (Z.2.2.1 0)), (1, .int x1), (3, .int x3)]) hx hb d_MM_calm_49 rfl hl (by decide) rfl (fun ls hl => ?_)
        refine lv_iinc (v := x3 + (-1 : Int32)) (lv' := [(3, .int (x3 + (-1 : Int32))), (2, .int x3), (0, .ref (Z.2.2.1 0)), (1, .int x1)]) hx hb d_MM_calm_50 hl (k := 3) rfl rfl (by decide) rfl (fun ls hl => ?_)
        refine lv_goto (tgt := 35) hx hb d_MM_calm_53 (by decide) ?_
        exact hG1 _ (o_v hf1).symm _ _ _ hH (lv_sub hl [2, 3, 1, 0] rfl)
  refine lv_aload_n hx hb d_MM_calm_0 rfl (lv_at hl 0 rfl) ?_
  refine g_MM_9 S hX hH hZ d_MM_calm_1 ?_
  refine lv_iconst (v := (0 : Int32)) hx hb d_MM_calm_4 (by decide) ?_
  refine q_iald (j := 0) hx hb hX hH (aa_MM_1 hZ) (vp_c (by decide)) (by decide) d_MM_calm_5 ?_
  refine lv_if_eq (tgt := 19) hx hb d_MM_calm_6 (by decide) (fun hc => ?_) (fun hc => ?_)
  · replace hf0 := o_t hc hf0
    refine lv_iconst (v := (-1 : Int32)) hx hb d_MM_calm_19 (by decide) ?_
    obtain ⟨rfl, rfl⟩ := o_p hf0
    exact hQ _ _ _ _ hH d_MM_calm_20
  · replace hf0 := o_f hc hf0
    refine lv_iload_n hx hb d_MM_calm_9 rfl (lv_at hl 1 rfl) ?_
    refine lv_i2l hx hb d_MM_calm_10 rfl ?_
    refine lv_lconst (v := (0 : Int64)) hx hb d_MM_calm_11 (by decide) ?_
    refine lv_lconst (v := (1 : Int64)) hx hb d_MM_calm_12 (by decide) ?_
    refine q_cSi (As := [.long x1.toInt64, .long (0 : Int64), .long (1 : Int64)]) (rest := []) S hX hH (c_MM_in l hI M x1.toInt64 (0 : Int64) (1 : Int64) rfl) (cw_MM_108 S.2.2.2.2 (Nat.le_trans (Nat.le_of_ble_eq_true rfl) hR.1) (Nat.le_trans (Nat.le_of_ble_eq_true rfl) hR.2)) rfl hl.1 rfl (Nat.le_of_ble_eq_true rfl) d_MM_calm_13 ⟨Nat.zero_le _, Nat.zero_le _⟩ (fun H locs hH => ?_)
    refine lv_if_ne (tgt := 21) hx hb d_MM_calm_16 (by decide) (fun hc => ?_) (fun hc => ?_)
    · replace hf0 := o_f hc hf0
      refine lv_aload_n hx hb d_MM_calm_21 rfl (lv_at hl 0 rfl) ?_
      obtain ⟨M4, hc3, hf0⟩ := o_b hf0
      refine q_cVv (As := []) (rest := []) S hX hH (c_MM_runs l hI hZ M hc3) (cw_MM_321 S.2.2.2.2 (Nat.le_trans (Nat.le_of_ble_eq_true rfl) hR.1) (Nat.le_trans (Nat.le_of_ble_eq_true rfl) hR.2)) (rc_MM hX hH hZ) rfl hl.1 rfl (Nat.le_of_ble_eq_true rfl) d_MM_calm_22 ⟨Nat.zero_le _, Nat.zero_le _⟩ (fun H locs hH => ?_)
      refine lv_bipush (v := (-2 : Int32)) hx hb d_MM_calm_25 (by decide) ?_
      refine lv_istore_n (lv' := [(2, .int (-2 : Int32)), (0, .ref (Z.2.2.1 0)), (1, .int x1)]) hx hb d_MM_calm_27 rfl hl (by decide) rfl (fun ls hl => ?_)
      refine lv_aload_n hx hb d_MM_calm_28 rfl (lv_at hl 1 rfl) ?_
      refine g_MM_9 S hX hH hZ d_MM_calm_29 ?_
      refine lv_iconst (v := (3 : Int32)) hx hb d_MM_calm_32 (by decide) ?_
      refine q_iald (j := 3) hx hb hX hH (aa_MM_1 hZ) (vp_c (by decide)) (by decide) d_MM_calm_33 ?_
      refine lv_istore_n (lv' := [(3, .int (M4 1 3)), (2, .int (-2 : Int32)), (0, .ref (Z.2.2.1 0)), (1, .int x1)]) hx hb d_MM_calm_34 rfl hl (by decide) rfl (fun ls hl => ?_)
      exact J35 _ _ _ _ _ _ _ hf0 hH (lv_sub hl [2, 3, 1, 0] rfl)
    · replace hf0 := o_t hc hf0
      refine lv_iconst (v := (-1 : Int32)) hx hb d_MM_calm_19 (by decide) ?_
      obtain ⟨rfl, rfl⟩ := o_p hf0
      exact hQ _ _ _ _ hH d_MM_calm_20
theorem c_MM_calm (l : Launch) {Z : WD} (hI : wI Z) (hZ : IsM Z) (M : Mem) (x1 : Int32) {r : Int32} {M' : Mem} (hf : f_MM_calm M x1 = some (r, M')) : Ci l Z y_MM_calm b_MM_calm 4 (some .int) 6 148 [.ref (Z.2.2.1 0), .int x1] M M' r := by
  refine Met.ofW (cc := b_MM_calm) (maxL := 4) (ret := (some .int)) (by decide) rfl ?_
  intro p e s m args below meth c s₁ B hml hv
  obtain ⟨rfl, hP, hX⟩ := hv
  have S : CallFix p m c b_MM_calm 4 s ([.ref (Z.2.2.1 0), .int x1] : List Value).toArray gtb R_MM := ⟨B.exec, B.bytes, hml, findClass_of_methodNamed B.named, fun w hw => atoms_spec (ws := .code y_MM_calm b_MM_calm 4 (some .int) :: gtb) B.pre w (List.mem_cons_of_mem _ hw)⟩
  have hl := lv_entry ([.ref (Z.2.2.1 0), .int x1]) (n := 4) (Nat.le_of_ble_eq_true rfl)
  rw [lg_entry_eq]
  exact wk_MM_calm hI hZ M x1 S hX ⟨Nat.le_refl _, Nat.le_refl _⟩ (fun pc H locs ls hH d => q_ri S.1 S.2.1 B.returns B.notSynchronized hH rfl rfl d) hf ⟨hP, va_S.rf⟩ hl
noncomputable def f_MM_wanting_J60 (M : Mem) (x2 : Int32) (s0 : Int32) (s1 : Int32) : Option ((Int32 × Int32) ⊕ (Int32 × Mem)) := some (.inl (s1 + (f_MM_truth s0), x2 + (1 : Int32)))
noncomputable def f_MM_wanting_J59 (M : Mem) (x2 : Int32) (s0 : Int32) : Option ((Int32 × Int32) ⊕ (Int32 × Mem)) := f_MM_wanting_J60 M x2 (0 : Int32) s0
noncomputable def f_MM_wanting_L8 (M : Mem) (x1 : Int32) (x2 : Int32) : Option ((Int32 × Int32) ⊕ (Int32 × Mem)) := if (M 0 21) ≤ x2 then some (.inr (x1, M)) else 
    gIn x2 260 (if (M 14 x2.toNatClampNeg) = (-1 : Int32) then f_MM_wanting_J59 M x2 x1 else 
    if (bI (f_MM_isLiar M (M 11 x2.toNatClampNeg))) = 0 then 
    if (M 14 x2.toNatClampNeg) ≤ (M 13 x2.toNatClampNeg) then f_MM_wanting_J59 M x2 x1 else f_MM_wanting_J60 M x2 (1 : Int32) x1 else f_MM_wanting_J59 M x2 x1)
noncomputable def f_MM_wanting_W8 (M : Mem) (u : (Int32 × Int32)) : Option (Int32 × Mem) := loop (fun t => f_MM_wanting_L8 M t.1 t.2) u
noncomputable def f_MM_wanting_J8 (M : Mem) (x1 : Int32) (x2 : Int32) : Option (Int32 × Mem) := bnd (f_MM_wanting_W8 M (x1, x2)) (fun e8 => some e8)
noncomputable def f_MM_wanting (M : Mem) : Option (Int32 × Mem) := bnd (f_MM_runs M) (fun M3 => f_MM_wanting_J8 M3 (0 : Int32) (0 : Int32))
set_option maxHeartbeats 4000000 in
theorem wk_MM_wanting {l : Launch} {Z : WD} (hI : wI Z) (hZ : IsM Z) (M : Mem) {r : Int32} {M' : Mem} {p : Program} {e : Env} {R : Room} {s : State} {m : MethodId} {args : Array Value} {below : List Frame} {meth : Method} {c : Code} {H : Heap} {locs : List Loc} {ls : Array Slot} {Q : State → Prop} (S : CallFix p m c b_MM_wanting 3 s args gtb R_MM) (hX : wX Z s) (hR : 6 ≤ R.frames ∧ 148 ≤ R.locals) (hQ : ∀ (pc : Nat) (H : Heap) (locs : List Loc) (ls : Array Slot), HW Z M' s H locs → decode b_MM_wanting pc = .ok (.ireturn, 1) → W p l e R s m args below meth c H locs 0 0 Q (F0 m pc ls [.int r])) (hf0 : f_MM_wanting M = some (r, M')) (hH : HW Z M s H locs) (hl : lv_has ls 3 [(0, .ref (Z.2.2.1 0))]) : W p l e R s m args below meth c H locs 0 0 Q (F0 m 0 ls []) := by
  have hx := S.1
  have hb := S.2.1
  have hown := S.2.2.2.1
  have ht := S.2.2.2.2
  unfold f_MM_wanting at hf0
  have J8 : ∀ (M : Mem) (x1 : Int32) (x2 : Int32) (H : Heap) (locs : List Loc) (ls : Array Slot), f_MM_wanting_J8 M x1 x2 = some (r, M') → HW Z M s H locs → lv_has ls 3 [(0, .ref (Z.2.2.1 0)), (1, .int x1), (2, .int x2)] → W p l e R s m args below meth c H locs 0 0 Q (F0 m 8 ls []) := by
    intro M x1 x2 H locs ls hf0 hH hl
    unfold f_MM_wanting_J8 at hf0
    obtain ⟨e8, he8, hf0⟩ := o_b hf0
    unfold f_MM_wanting_W8 at he8
    refine loop_W (fun t => ∀ (H : Heap) (locs : List Loc) (ls : Array Slot), HW Z M s H locs → lv_has ls 3 [(0, .ref (Z.2.2.1 0)), (1, .int t.1), (2, .int t.2)] → W p l e R s m args below meth c H locs 0 0 Q (F0 m 8 ls [])) ?_ he8 H locs ls hH hl
    rintro ⟨x1, x2⟩ o1 hf1 hG1 hR1 H locs ls hH hl
    replace hH : HW Z M s H locs := hH
    replace hl : lv_has ls 3 [(0, .ref (Z.2.2.1 0)), (1, .int x1), (2, .int x2)] := hl
    replace hf1 : f_MM_wanting_L8 M x1 x2 = some o1 := hf1
    unfold f_MM_wanting_L8 at hf1
    have J60 : ∀ (x2 : Int32) (s0 : Int32) (s1 : Int32) (H : Heap) (locs : List Loc) (ls : Array Slot), f_MM_wanting_J60 M x2 s0 s1 = some o1 → HW Z M s H locs → lv_has ls 3 [(0, .ref (Z.2.2.1 0)), (2, .int x2)] → W p l e R s m args below meth c H locs 0 0 Q (F0 m 60 ls [.int s0, .int s1]) := by
      intro x2 s0 s1 H locs ls hf1 hH hl
      unfold f_MM_wanting_J60 at hf1
      refine q_cSi (As := [.int s0]) (rest := [.int s1]) S hX hH (c_MM_truth l hI M s0 rfl) (cw_MM_150 S.2.2.2.2 (Nat.le_trans (Nat.le_of_ble_eq_true rfl) hR.1) (Nat.le_trans (Nat.le_of_ble_eq_true rfl) hR.2)) rfl hl.1 rfl (Nat.le_of_ble_eq_true rfl) d_MM_wanting_60 ⟨Nat.zero_le _, Nat.zero_le _⟩ (fun H locs hH => ?_)
      refine lv_iadd hx hb d_MM_wanting_63 ?_
      refine lv_istore_n (lv' := [(1, .int (s1 + (f_MM_truth s0))), (0, .ref (Z.2.2.1 0)), (2, .int x2)]) hx hb d_MM_wanting_64 rfl hl (by decide) rfl (fun ls hl => ?_)
      refine lv_iinc (v := x2 + (1 : Int32)) (lv' := [(2, .int (x2 + (1 : Int32))), (1, .int (s1 + (f_MM_truth s0))), (0, .ref (Z.2.2.1 0))]) hx hb d_MM_wanting_65 hl (k := 2) rfl rfl (by decide) rfl (fun ls hl => ?_)
      refine lv_goto (tgt := 8) hx hb d_MM_wanting_68 (by decide) ?_
      exact hG1 _ (o_v hf1).symm _ _ _ hH (lv_sub hl [2, 1, 0] rfl)
    have J59 : ∀ (x2 : Int32) (s0 : Int32) (H : Heap) (locs : List Loc) (ls : Array Slot), f_MM_wanting_J59 M x2 s0 = some o1 → HW Z M s H locs → lv_has ls 3 [(0, .ref (Z.2.2.1 0)), (2, .int x2)] → W p l e R s m args below meth c H locs 0 0 Q (F0 m 59 ls [.int s0]) := by
      intro x2 s0 H locs ls hf1 hH hl
      unfold f_MM_wanting_J59 at hf1
      refine lv_iconst (v := (0 : Int32)) hx hb d_MM_wanting_59 (by decide) ?_
      exact J60 _ _ _ _ _ _ hf1 hH (lv_sub hl [0, 1] rfl)
    refine lv_iload_n hx hb d_MM_wanting_8 rfl (lv_at hl 2 rfl) ?_
    refine lv_aload_n hx hb d_MM_wanting_9 rfl (lv_at hl 0 rfl) ?_
    refine g_MM_264 S hX hH hZ d_MM_wanting_10 ?_
    refine lv_icmp_ge (tgt := 71) hx hb d_MM_wanting_13 (by decide) (fun hc => ?_) (fun hc => ?_)
    · replace hf1 := o_t hc hf1
      refine lv_iload_n hx hb d_MM_wanting_71 rfl (lv_at hl 1 rfl) ?_
      obtain rfl := hR1 _ (o_v hf1).symm
      obtain ⟨rfl, rfl⟩ := o_p hf0
      exact hQ _ _ _ _ hH d_MM_wanting_72
    · replace hf1 := o_f hc hf1
      refine lv_iload_n hx hb d_MM_wanting_16 rfl (lv_at hl 1 rfl) ?_
      refine lv_aload_n hx hb d_MM_wanting_17 rfl (lv_at hl 0 rfl) ?_
      refine g_MM_51 S hX hH hZ d_MM_wanting_18 ?_
      refine lv_iload_n hx hb d_MM_wanting_21 rfl (lv_at hl 2 rfl) ?_
      obtain ⟨hn1, hf1⟩ := o_in hf1
      refine q_iald (j := x2.toNatClampNeg) hx hb hX hH (aa_MM_14 hZ) hn1 rfl d_MM_wanting_22 ?_
      refine lv_iconst (v := (-1 : Int32)) hx hb d_MM_wanting_23 (by decide) ?_
      refine lv_icmp_eq (tgt := 59) hx hb d_MM_wanting_24 (by decide) (fun hc => ?_) (fun hc => ?_)
      · replace hf1 := o_t hc hf1
        exact J59 _ _ _ _ _ hf1 hH (lv_sub hl [0, 2] rfl)
      · replace hf1 := o_f hc hf1
        refine lv_aload_n hx hb d_MM_wanting_27 rfl (lv_at hl 0 rfl) ?_
        refine lv_aload_n hx hb d_MM_wanting_28 rfl (lv_at hl 0 rfl) ?_
        refine g_MM_42 S hX hH hZ d_MM_wanting_29 ?_
        refine lv_iload_n hx hb d_MM_wanting_32 rfl (lv_at hl 2 rfl) ?_
        refine q_iald (j := x2.toNatClampNeg) hx hb hX hH (aa_MM_11 hZ) hn1 rfl d_MM_wanting_33 ?_
        refine q_cVi (As := [.int (M 11 x2.toNatClampNeg)]) (rest := [.int x1]) S hX hH (c_MM_isLiar l hI hZ M (M 11 x2.toNatClampNeg) rfl) (cw_MM_205 S.2.2.2.2 (Nat.le_trans (Nat.le_of_ble_eq_true rfl) hR.1) (Nat.le_trans (Nat.le_of_ble_eq_true rfl) hR.2)) (rc_MM hX hH hZ) rfl hl.1 rfl (Nat.le_of_ble_eq_true rfl) d_MM_wanting_34 ⟨Nat.zero_le _, Nat.zero_le _⟩ (fun H locs hH => ?_)
        refine lv_if_ne (tgt := 59) hx hb d_MM_wanting_37 (by decide) (fun hc => ?_) (fun hc => ?_)
        · replace hf1 := o_f hc hf1
          exact J59 _ _ _ _ _ hf1 hH (lv_sub hl [0, 2] rfl)
        · replace hf1 := o_t hc hf1
          refine lv_aload_n hx hb d_MM_wanting_40 rfl (lv_at hl 0 rfl) ?_
          refine g_MM_48 S hX hH hZ d_MM_wanting_41 ?_
          refine lv_iload_n hx hb d_MM_wanting_44 rfl (lv_at hl 2 rfl) ?_
          refine q_iald (j := x2.toNatClampNeg) hx hb hX hH (aa_MM_13 hZ) hn1 rfl d_MM_wanting_45 ?_
          refine lv_aload_n hx hb d_MM_wanting_46 rfl (lv_at hl 0 rfl) ?_
          refine g_MM_51 S hX hH hZ d_MM_wanting_47 ?_
          refine lv_iload_n hx hb d_MM_wanting_50 rfl (lv_at hl 2 rfl) ?_
          refine q_iald (j := x2.toNatClampNeg) hx hb hX hH (aa_MM_14 hZ) hn1 rfl d_MM_wanting_51 ?_
          refine lv_icmp_ge (tgt := 59) hx hb d_MM_wanting_52 (by decide) (fun hc => ?_) (fun hc => ?_)
          · replace hf1 := o_t hc hf1
            exact J59 _ _ _ _ _ hf1 hH (lv_sub hl [0, 2] rfl)
          · replace hf1 := o_f hc hf1
            refine lv_iconst (v := (1 : Int32)) hx hb d_MM_wanting_55 (by decide) ?_
            refine lv_goto (tgt := 60) hx hb d_MM_wanting_56 (by decide) ?_
            exact J60 _ _ _ _ _ _ hf1 hH (lv_sub hl [0, 2] rfl)
  refine lv_aload_n hx hb d_MM_wanting_0 rfl (lv_at hl 0 rfl) ?_
  obtain ⟨M3, hc2, hf0⟩ := o_b hf0
  refine q_cVv (As := []) (rest := []) S hX hH (c_MM_runs l hI hZ M hc2) (cw_MM_321 S.2.2.2.2 (Nat.le_trans (Nat.le_of_ble_eq_true rfl) hR.1) (Nat.le_trans (Nat.le_of_ble_eq_true rfl) hR.2)) (rc_MM hX hH hZ) rfl hl.1 rfl (Nat.le_of_ble_eq_true rfl) d_MM_wanting_1 ⟨Nat.zero_le _, Nat.zero_le _⟩ (fun H locs hH => ?_)
  refine lv_iconst (v := (0 : Int32)) hx hb d_MM_wanting_4 (by decide) ?_
  refine lv_istore_n (lv' := [(1, .int (0 : Int32)), (0, .ref (Z.2.2.1 0))]) hx hb d_MM_wanting_5 rfl hl (by decide) rfl (fun ls hl => ?_)
  refine lv_iconst (v := (0 : Int32)) hx hb d_MM_wanting_6 (by decide) ?_
  refine lv_istore_n (lv' := [(2, .int (0 : Int32)), (1, .int (0 : Int32)), (0, .ref (Z.2.2.1 0))]) hx hb d_MM_wanting_7 rfl hl (by decide) rfl (fun ls hl => ?_)
  exact J8 _ _ _ _ _ _ hf0 hH (lv_sub hl [2, 1, 0] rfl)
theorem c_MM_wanting (l : Launch) {Z : WD} (hI : wI Z) (hZ : IsM Z) (M : Mem) {r : Int32} {M' : Mem} (hf : f_MM_wanting M = some (r, M')) : Ci l Z y_MM_wanting b_MM_wanting 3 (some .int) 6 148 [.ref (Z.2.2.1 0)] M M' r := by
  refine Met.ofW (cc := b_MM_wanting) (maxL := 3) (ret := (some .int)) (by decide) rfl ?_
  intro p e s m args below meth c s₁ B hml hv
  obtain ⟨rfl, hP, hX⟩ := hv
  have S : CallFix p m c b_MM_wanting 3 s ([.ref (Z.2.2.1 0)] : List Value).toArray gtb R_MM := ⟨B.exec, B.bytes, hml, findClass_of_methodNamed B.named, fun w hw => atoms_spec (ws := .code y_MM_wanting b_MM_wanting 3 (some .int) :: gtb) B.pre w (List.mem_cons_of_mem _ hw)⟩
  have hl := lv_entry ([.ref (Z.2.2.1 0)]) (n := 3) (Nat.le_of_ble_eq_true rfl)
  rw [lg_entry_eq]
  exact wk_MM_wanting hI hZ M S hX ⟨Nat.le_refl _, Nat.le_refl _⟩ (fun pc H locs ls hH d => q_ri S.1 S.2.1 B.returns B.notSynchronized hH rfl rfl d) hf ⟨hP, va_S.rf⟩ hl
theorem cw_MM_365 {R : Room} {s : State} {args : Array Value} (ht : ∀ w ∈ gtb, w.before args s = true) (h1 : 6 + 1 ≤ R.frames) (h2 : 8 + (3 + 11) + 148 ≤ R.locals) : CallW R s args R_MM R_MM 365 y_MM_wanting b_MM_wanting 3 (some .int) (.code y_MM_wanting b_MM_wanting 3 (some .int) :: gtb) { frames := 6, cells := 0, slots := 0, locals := 148 } 0 0 0 := cwV 0 ht (gV w6_211 w6_213 ws_MM_wanting w1_10 w6_214) rfl rfl rfl ⟨rfl, by decide, by decide, by decide +kernel⟩ ⟨h1, h2⟩
noncomputable def f_MM_count (M : Mem) (x1 : Int32) : Option (Int32 × Mem) := 
    if x1 = (10 : Int32) then some (M 0 6, M) else 
    if x1 = (11 : Int32) then some (M 0 8, M) else 
    if x1 = (12 : Int32) then some ((f_MM_truth (M 6 0)) ||| ((f_MM_truth (M 6 1)) <<< ((1 : Int32) &&& 31)), M) else 
    if x1 = (13 : Int32) then bnd2 (f_MM_wanting M) (fun y3 M2 => some (y3, M2)) else 
    if (bI (f_MM_in x1.toInt64 (0 : Int64) (9 : Int64))) = 0 then some ((-1 : Int32), M) else gIn x1 302 (some (M 1 x1.toNatClampNeg, M))
set_option maxHeartbeats 4000000 in
theorem wk_MM_count {l : Launch} {Z : WD} (hI : wI Z) (hZ : IsM Z) (M : Mem) (x1 : Int32) {r : Int32} {M' : Mem} {p : Program} {e : Env} {R : Room} {s : State} {m : MethodId} {args : Array Value} {below : List Frame} {meth : Method} {c : Code} {H : Heap} {locs : List Loc} {ls : Array Slot} {Q : State → Prop} (S : CallFix p m c b_MM_count 2 s args gtb R_MM) (hX : wX Z s) (hR : 7 ≤ R.frames ∧ 170 ≤ R.locals) (hQ : ∀ (pc : Nat) (H : Heap) (locs : List Loc) (ls : Array Slot), HW Z M' s H locs → decode b_MM_count pc = .ok (.ireturn, 1) → W p l e R s m args below meth c H locs 0 0 Q (F0 m pc ls [.int r])) (hf0 : f_MM_count M x1 = some (r, M')) (hH : HW Z M s H locs) (hl : lv_has ls 2 [(0, .ref (Z.2.2.1 0)), (1, .int x1)]) : W p l e R s m args below meth c H locs 0 0 Q (F0 m 0 ls []) := by
  have hx := S.1
  have hb := S.2.1
  have hown := S.2.2.2.1
  have ht := S.2.2.2.2
  unfold f_MM_count at hf0
  refine lv_iload_n hx hb d_MM_count_0 rfl (lv_at hl 1 rfl) ?_
  by_cases hcv10 : x1 = (10 : Int32)
  · replace hf0 := o_t hcv10 hf0
    refine lv_tableIn (tgt := 32) hx hb d_MM_count_1 (by rw [hcv10]; decide) (by rw [hcv10]; decide) (by rw [hcv10]; rfl) (by decide) ?_
    refine lv_aload_n hx hb d_MM_count_32 rfl (lv_at hl 0 rfl) ?_
    refine g_MM_194 S hX hH hZ d_MM_count_33 ?_
    obtain ⟨rfl, rfl⟩ := o_p hf0
    exact hQ _ _ _ _ hH d_MM_count_36
  replace hf0 := o_f hcv10 hf0
  by_cases hcv11 : x1 = (11 : Int32)
  · replace hf0 := o_t hcv11 hf0
    refine lv_tableIn (tgt := 37) hx hb d_MM_count_1 (by rw [hcv11]; decide) (by rw [hcv11]; decide) (by rw [hcv11]; rfl) (by decide) ?_
    refine lv_aload_n hx hb d_MM_count_37 rfl (lv_at hl 0 rfl) ?_
    refine g_MM_80 S hX hH hZ d_MM_count_38 ?_
    obtain ⟨rfl, rfl⟩ := o_p hf0
    exact hQ _ _ _ _ hH d_MM_count_41
  replace hf0 := o_f hcv11 hf0
  by_cases hcv12 : x1 = (12 : Int32)
  · replace hf0 := o_t hcv12 hf0
    refine lv_tableIn (tgt := 42) hx hb d_MM_count_1 (by rw [hcv12]; decide) (by rw [hcv12]; decide) (by rw [hcv12]; rfl) (by decide) ?_
    refine lv_aload_n hx hb d_MM_count_42 rfl (lv_at hl 0 rfl) ?_
    refine g_MM_25 S hX hH hZ d_MM_count_43 ?_
    refine lv_iconst (v := (0 : Int32)) hx hb d_MM_count_46 (by decide) ?_
    refine q_zald (j := 0) hx hb hX hH (aa_MM_6 hZ) (vp_c (by decide)) (by decide) d_MM_count_47 ?_
    refine q_cSi (As := [.int (M 6 0)]) (rest := []) S hX hH (c_MM_truth l hI M (M 6 0) rfl) (cw_MM_150 S.2.2.2.2 (Nat.le_trans (Nat.le_of_ble_eq_true rfl) hR.1) (Nat.le_trans (Nat.le_of_ble_eq_true rfl) hR.2)) rfl hl.1 rfl (Nat.le_of_ble_eq_true rfl) d_MM_count_48 ⟨Nat.zero_le _, Nat.zero_le _⟩ (fun H locs hH => ?_)
    refine lv_aload_n hx hb d_MM_count_51 rfl (lv_at hl 0 rfl) ?_
    refine g_MM_25 S hX hH hZ d_MM_count_52 ?_
    refine lv_iconst (v := (1 : Int32)) hx hb d_MM_count_55 (by decide) ?_
    refine q_zald (j := 1) hx hb hX hH (aa_MM_6 hZ) (vp_c (by decide)) (by decide) d_MM_count_56 ?_
    refine q_cSi (As := [.int (M 6 1)]) (rest := [.int (f_MM_truth (M 6 0))]) S hX hH (c_MM_truth l hI M (M 6 1) rfl) (cw_MM_150 S.2.2.2.2 (Nat.le_trans (Nat.le_of_ble_eq_true rfl) hR.1) (Nat.le_trans (Nat.le_of_ble_eq_true rfl) hR.2)) rfl hl.1 rfl (Nat.le_of_ble_eq_true rfl) d_MM_count_57 ⟨Nat.zero_le _, Nat.zero_le _⟩ (fun H locs hH => ?_)
    refine lv_iconst (v := (1 : Int32)) hx hb d_MM_count_60 (by decide) ?_
    refine lv_ishl hx hb d_MM_count_61 ?_
    refine lv_ior hx hb d_MM_count_62 ?_
    obtain ⟨rfl, rfl⟩ := o_p hf0
    exact hQ _ _ _ _ hH d_MM_count_63
  replace hf0 := o_f hcv12 hf0
  by_cases hcv13 : x1 = (13 : Int32)
  · replace hf0 := o_t hcv13 hf0
    refine lv_tableIn (tgt := 64) hx hb d_MM_count_1 (by rw [hcv13]; decide) (by rw [hcv13]; decide) (by rw [hcv13]; rfl) (by decide) ?_
    refine lv_aload_n hx hb d_MM_count_64 rfl (lv_at hl 0 rfl) ?_
    obtain ⟨y3, M2, hc1, hf0⟩ := o_b2 hf0
    refine q_cVi (As := []) (rest := []) S hX hH (c_MM_wanting l hI hZ M hc1) (cw_MM_365 S.2.2.2.2 (Nat.le_trans (Nat.le_of_ble_eq_true rfl) hR.1) (Nat.le_trans (Nat.le_of_ble_eq_true rfl) hR.2)) (rc_MM hX hH hZ) rfl hl.1 rfl (Nat.le_of_ble_eq_true rfl) d_MM_count_65 ⟨Nat.zero_le _, Nat.zero_le _⟩ (fun H locs hH => ?_)
    obtain ⟨rfl, rfl⟩ := o_p hf0
    exact hQ _ _ _ _ hH d_MM_count_68
  replace hf0 := o_f hcv13 hf0
  refine lv_tableOut (tgt := 69) hx hb d_MM_count_1 (sw_out (fun v h1 h2 => by rcases (show v = 10 ∨ v = 11 ∨ v = 12 ∨ v = 13 by omega) with rfl | rfl | rfl | rfl <;> assumption)) (by decide) ?_
  refine lv_iload_n hx hb d_MM_count_69 rfl (lv_at hl 1 rfl) ?_
  refine lv_i2l hx hb d_MM_count_70 rfl ?_
  refine lv_lconst (v := (0 : Int64)) hx hb d_MM_count_71 (by decide) ?_
  refine lv_ldc2 (v := (9 : Int64)) hx hb hown (ht _ w6_91) d_MM_count_72 ?_
  refine q_cSi (As := [.long x1.toInt64, .long (0 : Int64), .long (9 : Int64)]) (rest := []) S hX hH (c_MM_in l hI M x1.toInt64 (0 : Int64) (9 : Int64) rfl) (cw_MM_108 S.2.2.2.2 (Nat.le_trans (Nat.le_of_ble_eq_true rfl) hR.1) (Nat.le_trans (Nat.le_of_ble_eq_true rfl) hR.2)) rfl hl.1 rfl (Nat.le_of_ble_eq_true rfl) d_MM_count_75 ⟨Nat.zero_le _, Nat.zero_le _⟩ (fun H locs hH => ?_)
  refine lv_if_eq (tgt := 90) hx hb d_MM_count_78 (by decide) (fun hc => ?_) (fun hc => ?_)
  · replace hf0 := o_t hc hf0
    refine lv_iconst (v := (-1 : Int32)) hx hb d_MM_count_90 (by decide) ?_
    obtain ⟨rfl, rfl⟩ := o_p hf0
    exact hQ _ _ _ _ hH d_MM_count_91
  · replace hf0 := o_f hc hf0
    refine lv_aload_n hx hb d_MM_count_81 rfl (lv_at hl 0 rfl) ?_
    refine g_MM_9 S hX hH hZ d_MM_count_82 ?_
    refine lv_iload_n hx hb d_MM_count_85 rfl (lv_at hl 1 rfl) ?_
    obtain ⟨hn4, hf0⟩ := o_in hf0
    refine q_iald (j := x1.toNatClampNeg) hx hb hX hH (aa_MM_1 hZ) hn4 rfl d_MM_count_86 ?_
    refine lv_goto (tgt := 91) hx hb d_MM_count_87 (by decide) ?_
    obtain ⟨rfl, rfl⟩ := o_p hf0
    exact hQ _ _ _ _ hH d_MM_count_91
theorem c_MM_count (l : Launch) {Z : WD} (hI : wI Z) (hZ : IsM Z) (M : Mem) (x1 : Int32) {r : Int32} {M' : Mem} (hf : f_MM_count M x1 = some (r, M')) : Ci l Z y_MM_count b_MM_count 2 (some .int) 7 170 [.ref (Z.2.2.1 0), .int x1] M M' r := by
  refine Met.ofW (cc := b_MM_count) (maxL := 2) (ret := (some .int)) (by decide) rfl ?_
  intro p e s m args below meth c s₁ B hml hv
  obtain ⟨rfl, hP, hX⟩ := hv
  have S : CallFix p m c b_MM_count 2 s ([.ref (Z.2.2.1 0), .int x1] : List Value).toArray gtb R_MM := ⟨B.exec, B.bytes, hml, findClass_of_methodNamed B.named, fun w hw => atoms_spec (ws := .code y_MM_count b_MM_count 2 (some .int) :: gtb) B.pre w (List.mem_cons_of_mem _ hw)⟩
  have hl := lv_entry ([.ref (Z.2.2.1 0), .int x1]) (n := 2) (Nat.le_of_ble_eq_true rfl)
  rw [lg_entry_eq]
  exact wk_MM_count hI hZ M x1 S hX ⟨Nat.le_refl _, Nat.le_refl _⟩ (fun pc H locs ls hH d => q_ri S.1 S.2.1 B.returns B.notSynchronized hH rfl rfl d) hf ⟨hP, va_S.rf⟩ hl
noncomputable def f_MM_planned_L61 (M : Mem) (x3 : Int32) (x4 : Int32) (x5 : Int32) : Option ((Int32 × Int32) ⊕ Int32) := gIn (x3 + (4 : Int32)) 302 (if (M 1 (x3 + (4 : Int32)).toNatClampNeg) ≤ x5 then some (.inr x4) else 
    gIn ((x3 + (5 : Int32)) + x5) 302 (lt1 ((((10 : Int32) * x4) + (M 1 ((x3 + (5 : Int32)) + x5).toNatClampNeg)) + (1 : Int32)) (fun y3 => some (.inl (y3, x5 + (1 : Int32))))))
noncomputable def f_MM_planned_W61 (M : Mem) (x3 : Int32) (u : (Int32 × Int32)) : Option Int32 := loop (fun t => f_MM_planned_L61 M x3 t.1 t.2) u
noncomputable def f_MM_planned_J61 (M : Mem) (x3 : Int32) (x4 : Int32) (x5 : Int32) : Option (Int32) := bnd (f_MM_planned_W61 M x3 (x4, x5)) (fun e61 => some e61)
noncomputable def f_MM_planned (M : Mem) (x1 : Int32) (x2 : Int32) : Option Int32 := 
    if (bI (f_MM_in x1.toInt64 (0 : Int64) (((M 1 7) - (1 : Int32)).toInt64))) = 0 then some (-1 : Int32) else 
    if (bI (f_MM_in x2.toInt64 (0 : Int64) (4 : Int64))) = 0 then some (-1 : Int32) else 
    if (4 : Int32) ≤ x2 then f_MM_planned_J61 M ((10 : Int32) + ((13 : Int32) * x1)) (0 : Int32) (0 : Int32) else 
    gIn (((10 : Int32) + ((13 : Int32) * x1)) + x2) 302 (some (M 1 (((10 : Int32) + ((13 : Int32) * x1)) + x2).toNatClampNeg))
set_option maxHeartbeats 4000000 in
theorem wk_MM_planned {l : Launch} {Z : WD} (hI : wI Z) (hZ : IsM Z) (M : Mem) (x1 : Int32) (x2 : Int32) {r : Int32} {p : Program} {e : Env} {R : Room} {s : State} {m : MethodId} {args : Array Value} {below : List Frame} {meth : Method} {c : Code} {H : Heap} {locs : List Loc} {ls : Array Slot} {Q : State → Prop} (S : CallFix p m c b_MM_planned 6 s args gtb R_MM) (hX : wX Z s) (hR : 1 ≤ R.frames ∧ 25 ≤ R.locals) (hQ : ∀ (pc : Nat) (H : Heap) (locs : List Loc) (ls : Array Slot), HW Z M s H locs → decode b_MM_planned pc = .ok (.ireturn, 1) → W p l e R s m args below meth c H locs 0 0 Q (F0 m pc ls [.int r])) (hf0 : f_MM_planned M x1 x2 = some r) (hH : HW Z M s H locs) (hl : lv_has ls 6 [(0, .ref (Z.2.2.1 0)), (1, .int x1), (2, .int x2)]) : W p l e R s m args below meth c H locs 0 0 Q (F0 m 0 ls []) := by
  have hx := S.1
  have hb := S.2.1
  have hown := S.2.2.2.1
  have ht := S.2.2.2.2
  unfold f_MM_planned at hf0
  have J61 : ∀ (x3 : Int32) (x4 : Int32) (x5 : Int32) (H : Heap) (locs : List Loc) (ls : Array Slot), f_MM_planned_J61 M x3 x4 x5 = some r → HW Z M s H locs → lv_has ls 6 [(0, .ref (Z.2.2.1 0)), (3, .int x3), (4, .int x4), (5, .int x5)] → W p l e R s m args below meth c H locs 0 0 Q (F0 m 61 ls []) := by
    intro x3 x4 x5 H locs ls hf0 hH hl
    unfold f_MM_planned_J61 at hf0
    obtain ⟨e61, he61, hf0⟩ := o_b hf0
    unfold f_MM_planned_W61 at he61
    refine loop_W (fun t => ∀ (H : Heap) (locs : List Loc) (ls : Array Slot), HW Z M s H locs → lv_has ls 6 [(0, .ref (Z.2.2.1 0)), (3, .int x3), (4, .int t.1), (5, .int t.2)] → W p l e R s m args below meth c H locs 0 0 Q (F0 m 61 ls [])) ?_ he61 H locs ls hH hl
    rintro ⟨x4, x5⟩ o1 hf1 hG1 hR1 H locs ls hH hl
    replace hH : HW Z M s H locs := hH
    replace hl : lv_has ls 6 [(0, .ref (Z.2.2.1 0)), (3, .int x3), (4, .int x4), (5, .int x5)] := hl
    replace hf1 : f_MM_planned_L61 M x3 x4 x5 = some o1 := hf1
    unfold f_MM_planned_L61 at hf1
    refine lv_iload hx hb d_MM_planned_61 (lv_at hl 3 rfl) ?_
    refine lv_aload_n hx hb d_MM_planned_63 rfl (lv_at hl 0 rfl) ?_
    refine g_MM_9 S hX hH hZ d_MM_planned_64 ?_
    refine lv_iload_n hx hb d_MM_planned_67 rfl (lv_at hl 1 rfl) ?_
    refine lv_iconst (v := (4 : Int32)) hx hb d_MM_planned_68 (by decide) ?_
    refine lv_iadd hx hb d_MM_planned_69 ?_
    obtain ⟨hn1, hf1⟩ := o_in hf1
    refine q_iald (j := (x3 + (4 : Int32)).toNatClampNeg) hx hb hX hH (aa_MM_1 hZ) hn1 rfl d_MM_planned_70 ?_
    refine lv_icmp_ge (tgt := 101) hx hb d_MM_planned_71 (by decide) (fun hc => ?_) (fun hc => ?_)
    · replace hf1 := o_t hc hf1
      refine lv_iload hx hb d_MM_planned_101 (lv_at hl 2 rfl) ?_
      obtain rfl := hR1 _ (o_v hf1).symm
      obtain rfl := o_v hf0
      exact hQ _ _ _ _ hH d_MM_planned_103
    · replace hf1 := o_f hc hf1
      refine lv_bipush (v := (10 : Int32)) hx hb d_MM_planned_74 (by decide) ?_
      refine lv_iload hx hb d_MM_planned_76 (lv_at hl 2 rfl) ?_
      refine lv_imul hx hb d_MM_planned_78 ?_
      refine lv_aload_n hx hb d_MM_planned_79 rfl (lv_at hl 0 rfl) ?_
      refine g_MM_9 S hX hH hZ d_MM_planned_80 ?_
      refine lv_iload_n hx hb d_MM_planned_83 rfl (lv_at hl 1 rfl) ?_
      refine lv_iconst (v := (5 : Int32)) hx hb d_MM_planned_84 (by decide) ?_
      refine lv_iadd hx hb d_MM_planned_85 ?_
      refine lv_iload hx hb d_MM_planned_86 (lv_at hl 3 rfl) ?_
      refine lv_iadd hx hb d_MM_planned_88 ?_
      obtain ⟨hn2, hf1⟩ := o_in hf1
      refine q_iald (j := ((x3 + (5 : Int32)) + x5).toNatClampNeg) hx hb hX hH (aa_MM_1 hZ) hn2 rfl d_MM_planned_89 ?_
      refine lv_iadd hx hb d_MM_planned_90 ?_
      refine lv_iconst (v := (1 : Int32)) hx hb d_MM_planned_91 (by decide) ?_
      refine lv_iadd hx hb d_MM_planned_92 ?_
      obtain ⟨y3, hy3, hf1⟩ := o_l hf1
      refine lv_nm hy3 ?_
      refine lv_istore (lv' := [(4, .int y3), (0, .ref (Z.2.2.1 0)), (3, .int x3), (5, .int x5)]) hx hb d_MM_planned_93 hl (by decide) rfl (fun ls hl => ?_)
      refine lv_iinc (v := x5 + (1 : Int32)) (lv' := [(5, .int (x5 + (1 : Int32))), (4, .int y3), (0, .ref (Z.2.2.1 0)), (3, .int x3)]) hx hb d_MM_planned_95 hl (k := 3) rfl rfl (by decide) rfl (fun ls hl => ?_)
      refine lv_goto (tgt := 61) hx hb d_MM_planned_98 (by decide) ?_
      exact hG1 _ (o_v hf1).symm _ _ _ hH (lv_sub hl [2, 3, 1, 0] rfl)
  refine lv_iload_n hx hb d_MM_planned_0 rfl (lv_at hl 1 rfl) ?_
  refine lv_i2l hx hb d_MM_planned_1 rfl ?_
  refine lv_lconst (v := (0 : Int64)) hx hb d_MM_planned_2 (by decide) ?_
  refine lv_aload_n hx hb d_MM_planned_3 rfl (lv_at hl 0 rfl) ?_
  refine g_MM_9 S hX hH hZ d_MM_planned_4 ?_
  refine lv_bipush (v := (7 : Int32)) hx hb d_MM_planned_7 (by decide) ?_
  refine q_iald (j := 7) hx hb hX hH (aa_MM_1 hZ) (vp_c (by decide)) (by decide) d_MM_planned_9 ?_
  refine lv_iconst (v := (1 : Int32)) hx hb d_MM_planned_10 (by decide) ?_
  refine lv_isub hx hb d_MM_planned_11 ?_
  refine lv_i2l hx hb d_MM_planned_12 rfl ?_
  refine q_cSi (As := [.long x1.toInt64, .long (0 : Int64), .long (((M 1 7) - (1 : Int32)).toInt64)]) (rest := []) S hX hH (c_MM_in l hI M x1.toInt64 (0 : Int64) (((M 1 7) - (1 : Int32)).toInt64) rfl) (cw_MM_108 S.2.2.2.2 (Nat.le_trans (Nat.le_of_ble_eq_true rfl) hR.1) (Nat.le_trans (Nat.le_of_ble_eq_true rfl) hR.2)) rfl hl.1 rfl (Nat.le_of_ble_eq_true rfl) d_MM_planned_13 ⟨Nat.zero_le _, Nat.zero_le _⟩ (fun H locs hH => ?_)
  refine lv_if_eq (tgt := 31) hx hb d_MM_planned_16 (by decide) (fun hc => ?_) (fun hc => ?_)
  · replace hf0 := o_t hc hf0
    refine lv_iconst (v := (-1 : Int32)) hx hb d_MM_planned_31 (by decide) ?_
    obtain rfl := o_v hf0
    exact hQ _ _ _ _ hH d_MM_planned_32
  · replace hf0 := o_f hc hf0
    refine lv_iload_n hx hb d_MM_planned_19 rfl (lv_at hl 2 rfl) ?_
    refine lv_i2l hx hb d_MM_planned_20 rfl ?_
    refine lv_lconst (v := (0 : Int64)) hx hb d_MM_planned_21 (by decide) ?_
    refine lv_ldc2 (v := (4 : Int64)) hx hb hown (ht _ w5_161) d_MM_planned_22 ?_
    refine q_cSi (As := [.long x2.toInt64, .long (0 : Int64), .long (4 : Int64)]) (rest := []) S hX hH (c_MM_in l hI M x2.toInt64 (0 : Int64) (4 : Int64) rfl) (cw_MM_108 S.2.2.2.2 (Nat.le_trans (Nat.le_of_ble_eq_true rfl) hR.1) (Nat.le_trans (Nat.le_of_ble_eq_true rfl) hR.2)) rfl hl.1 rfl (Nat.le_of_ble_eq_true rfl) d_MM_planned_25 ⟨Nat.zero_le _, Nat.zero_le _⟩ (fun H locs hH => ?_)
    refine lv_if_ne (tgt := 33) hx hb d_MM_planned_28 (by decide) (fun hc => ?_) (fun hc => ?_)
    · replace hf0 := o_f hc hf0
      refine lv_bipush (v := (10 : Int32)) hx hb d_MM_planned_33 (by decide) ?_
      refine lv_bipush (v := (13 : Int32)) hx hb d_MM_planned_35 (by decide) ?_
      refine lv_iload_n hx hb d_MM_planned_37 rfl (lv_at hl 1 rfl) ?_
      refine lv_imul hx hb d_MM_planned_38 ?_
      refine lv_iadd hx hb d_MM_planned_39 ?_
      refine lv_istore_n (lv' := [(3, .int ((10 : Int32) + ((13 : Int32) * x1))), (0, .ref (Z.2.2.1 0)), (1, .int x1), (2, .int x2)]) hx hb d_MM_planned_40 rfl hl (by decide) rfl (fun ls hl => ?_)
      refine lv_iload_n hx hb d_MM_planned_41 rfl (lv_at hl 3 rfl) ?_
      refine lv_iconst (v := (4 : Int32)) hx hb d_MM_planned_42 (by decide) ?_
      refine lv_icmp_ge (tgt := 55) hx hb d_MM_planned_43 (by decide) (fun hc => ?_) (fun hc => ?_)
      · replace hf0 := o_t hc hf0
        refine lv_iconst (v := (0 : Int32)) hx hb d_MM_planned_55 (by decide) ?_
        refine lv_istore (lv' := [(4, .int (0 : Int32)), (3, .int ((10 : Int32) + ((13 : Int32) * x1))), (0, .ref (Z.2.2.1 0)), (1, .int x1), (2, .int x2)]) hx hb d_MM_planned_56 hl (by decide) rfl (fun ls hl => ?_)
        refine lv_iconst (v := (0 : Int32)) hx hb d_MM_planned_58 (by decide) ?_
        refine lv_istore (lv' := [(5, .int (0 : Int32)), (4, .int (0 : Int32)), (3, .int ((10 : Int32) + ((13 : Int32) * x1))), (0, .ref (Z.2.2.1 0)), (1, .int x1), (2, .int x2)]) hx hb d_MM_planned_59 hl (by decide) rfl (fun ls hl => ?_)
        exact J61 _ _ _ _ _ _ hf0 hH (lv_sub hl [3, 2, 1, 0] rfl)
      · replace hf0 := o_f hc hf0
        refine lv_aload_n hx hb d_MM_planned_46 rfl (lv_at hl 1 rfl) ?_
        refine g_MM_9 S hX hH hZ d_MM_planned_47 ?_
        refine lv_iload_n hx hb d_MM_planned_50 rfl (lv_at hl 0 rfl) ?_
        refine lv_iload_n hx hb d_MM_planned_51 rfl (lv_at hl 3 rfl) ?_
        refine lv_iadd hx hb d_MM_planned_52 ?_
        obtain ⟨hn4, hf0⟩ := o_in hf0
        refine q_iald (j := (((10 : Int32) + ((13 : Int32) * x1)) + x2).toNatClampNeg) hx hb hX hH (aa_MM_1 hZ) hn4 rfl d_MM_planned_53 ?_
        obtain rfl := o_v hf0
        exact hQ _ _ _ _ hH d_MM_planned_54
    · replace hf0 := o_t hc hf0
      refine lv_iconst (v := (-1 : Int32)) hx hb d_MM_planned_31 (by decide) ?_
      obtain rfl := o_v hf0
      exact hQ _ _ _ _ hH d_MM_planned_32
theorem c_MM_planned (l : Launch) {Z : WD} (hI : wI Z) (hZ : IsM Z) (M : Mem) (x1 : Int32) (x2 : Int32) {r : Int32} (hf : f_MM_planned M x1 x2 = some r) : Ci l Z y_MM_planned b_MM_planned 6 (some .int) 1 25 [.ref (Z.2.2.1 0), .int x1, .int x2] M M r := by
  refine Met.ofW (cc := b_MM_planned) (maxL := 6) (ret := (some .int)) (by decide) rfl ?_
  intro p e s m args below meth c s₁ B hml hv
  obtain ⟨rfl, hP, hX⟩ := hv
  have S : CallFix p m c b_MM_planned 6 s ([.ref (Z.2.2.1 0), .int x1, .int x2] : List Value).toArray gtb R_MM := ⟨B.exec, B.bytes, hml, findClass_of_methodNamed B.named, fun w hw => atoms_spec (ws := .code y_MM_planned b_MM_planned 6 (some .int) :: gtb) B.pre w (List.mem_cons_of_mem _ hw)⟩
  have hl := lv_entry ([.ref (Z.2.2.1 0), .int x1, .int x2]) (n := 6) (Nat.le_of_ble_eq_true rfl)
  rw [lg_entry_eq]
  exact wk_MM_planned hI hZ M x1 x2 S hX ⟨Nat.le_refl _, Nat.le_refl _⟩ (fun pc H locs ls hH d => q_ri S.1 S.2.1 B.returns B.notSynchronized hH rfl rfl d) hf ⟨hP, va_S.rf⟩ hl
noncomputable def f_MM_fault_J61 (M : Mem) (x1 : Int32) (x2 : Int32) (x3 : Int32) : Option (Int32) := gIn (((f_MM_placeOf x1) + ((f_MM_wideOf x1) * x2)) + x3) 302 (some (M 1 (((f_MM_placeOf x1) + ((f_MM_wideOf x1) * x2)) + x3).toNatClampNeg))
noncomputable def f_MM_fault (M : Mem) (x1 : Int32) (x2 : Int32) (x3 : Int32) : Option Int32 := 
    if (bI (f_MM_in x1.toInt64 (1 : Int64) (2 : Int64))) = 0 then some (-1 : Int32) else 
    gIn ((7 : Int32) + x1) 302 (if (bI (f_MM_in x2.toInt64 (0 : Int64) (((M 1 ((7 : Int32) + x1).toNatClampNeg) - (1 : Int32)).toInt64))) = 0 then some (-1 : Int32) else 
    if (bI (f_MM_in x3.toInt64 (0 : Int64) (3 : Int64))) = 0 then some (-1 : Int32) else 
    if x3 = (3 : Int32) then if x1 = (1 : Int32) then some (0 : Int32) else f_MM_fault_J61 M x1 x2 x3 else f_MM_fault_J61 M x1 x2 x3)
set_option maxHeartbeats 4000000 in
theorem wk_MM_fault {l : Launch} {Z : WD} (hI : wI Z) (hZ : IsM Z) (M : Mem) (x1 : Int32) (x2 : Int32) (x3 : Int32) {r : Int32} {p : Program} {e : Env} {R : Room} {s : State} {m : MethodId} {args : Array Value} {below : List Frame} {meth : Method} {c : Code} {H : Heap} {locs : List Loc} {ls : Array Slot} {Q : State → Prop} (S : CallFix p m c b_MM_fault 4 s args gtb R_MM) (hX : wX Z s) (hR : 1 ≤ R.frames ∧ 25 ≤ R.locals) (hQ : ∀ (pc : Nat) (H : Heap) (locs : List Loc) (ls : Array Slot), HW Z M s H locs → decode b_MM_fault pc = .ok (.ireturn, 1) → W p l e R s m args below meth c H locs 0 0 Q (F0 m pc ls [.int r])) (hf0 : f_MM_fault M x1 x2 x3 = some r) (hH : HW Z M s H locs) (hl : lv_has ls 4 [(0, .ref (Z.2.2.1 0)), (1, .int x1), (2, .int x2), (3, .int x3)]) : W p l e R s m args below meth c H locs 0 0 Q (F0 m 0 ls []) := by
  have hx := S.1
  have hb := S.2.1
  have hown := S.2.2.2.1
  have ht := S.2.2.2.2
  unfold f_MM_fault at hf0
  have J61 : ∀ (x1 : Int32) (x2 : Int32) (x3 : Int32) (H : Heap) (locs : List Loc) (ls : Array Slot), f_MM_fault_J61 M x1 x2 x3 = some r → HW Z M s H locs → lv_has ls 4 [(0, .ref (Z.2.2.1 0)), (1, .int x1), (2, .int x2), (3, .int x3)] → W p l e R s m args below meth c H locs 0 0 Q (F0 m 61 ls []) := by
    intro x1 x2 x3 H locs ls hf0 hH hl
    unfold f_MM_fault_J61 at hf0
    refine lv_aload_n hx hb d_MM_fault_61 rfl (lv_at hl 0 rfl) ?_
    refine g_MM_9 S hX hH hZ d_MM_fault_62 ?_
    refine lv_iload_n hx hb d_MM_fault_65 rfl (lv_at hl 1 rfl) ?_
    refine q_cSi (As := [.int x1]) (rest := [.ref (Z.2.2.1 1)]) S hX hH (c_MM_placeOf l hI M x1 rfl) (cw_MM_234 S.2.2.2.2 (Nat.le_trans (Nat.le_of_ble_eq_true rfl) hR.1) (Nat.le_trans (Nat.le_of_ble_eq_true rfl) hR.2)) rfl hl.1 rfl (Nat.le_of_ble_eq_true rfl) d_MM_fault_66 ⟨Nat.zero_le _, Nat.zero_le _⟩ (fun H locs hH => ?_)
    refine lv_iload_n hx hb d_MM_fault_69 rfl (lv_at hl 1 rfl) ?_
    refine q_cSi (As := [.int x1]) (rest := [.int (f_MM_placeOf x1), .ref (Z.2.2.1 1)]) S hX hH (c_MM_wideOf l hI M x1 rfl) (cw_MM_231 S.2.2.2.2 (Nat.le_trans (Nat.le_of_ble_eq_true rfl) hR.1) (Nat.le_trans (Nat.le_of_ble_eq_true rfl) hR.2)) rfl hl.1 rfl (Nat.le_of_ble_eq_true rfl) d_MM_fault_70 ⟨Nat.zero_le _, Nat.zero_le _⟩ (fun H locs hH => ?_)
    refine lv_iload_n hx hb d_MM_fault_73 rfl (lv_at hl 2 rfl) ?_
    refine lv_imul hx hb d_MM_fault_74 ?_
    refine lv_iadd hx hb d_MM_fault_75 ?_
    refine lv_iload_n hx hb d_MM_fault_76 rfl (lv_at hl 3 rfl) ?_
    refine lv_iadd hx hb d_MM_fault_77 ?_
    obtain ⟨hn1, hf0⟩ := o_in hf0
    refine q_iald (j := (((f_MM_placeOf x1) + ((f_MM_wideOf x1) * x2)) + x3).toNatClampNeg) hx hb hX hH (aa_MM_1 hZ) hn1 rfl d_MM_fault_78 ?_
    obtain rfl := o_v hf0
    exact hQ _ _ _ _ hH d_MM_fault_79
  refine lv_iload_n hx hb d_MM_fault_0 rfl (lv_at hl 1 rfl) ?_
  refine lv_i2l hx hb d_MM_fault_1 rfl ?_
  refine lv_lconst (v := (1 : Int64)) hx hb d_MM_fault_2 (by decide) ?_
  refine lv_ldc2 (v := (2 : Int64)) hx hb hown (ht _ w5_207) d_MM_fault_3 ?_
  refine q_cSi (As := [.long x1.toInt64, .long (1 : Int64), .long (2 : Int64)]) (rest := []) S hX hH (c_MM_in l hI M x1.toInt64 (1 : Int64) (2 : Int64) rfl) (cw_MM_108 S.2.2.2.2 (Nat.le_trans (Nat.le_of_ble_eq_true rfl) hR.1) (Nat.le_trans (Nat.le_of_ble_eq_true rfl) hR.2)) rfl hl.1 rfl (Nat.le_of_ble_eq_true rfl) d_MM_fault_6 ⟨Nat.zero_le _, Nat.zero_le _⟩ (fun H locs hH => ?_)
  refine lv_if_eq (tgt := 45) hx hb d_MM_fault_9 (by decide) (fun hc => ?_) (fun hc => ?_)
  · replace hf0 := o_t hc hf0
    refine lv_iconst (v := (-1 : Int32)) hx hb d_MM_fault_45 (by decide) ?_
    obtain rfl := o_v hf0
    exact hQ _ _ _ _ hH d_MM_fault_46
  · replace hf0 := o_f hc hf0
    refine lv_iload_n hx hb d_MM_fault_12 rfl (lv_at hl 2 rfl) ?_
    refine lv_i2l hx hb d_MM_fault_13 rfl ?_
    refine lv_lconst (v := (0 : Int64)) hx hb d_MM_fault_14 (by decide) ?_
    refine lv_aload_n hx hb d_MM_fault_15 rfl (lv_at hl 0 rfl) ?_
    refine g_MM_9 S hX hH hZ d_MM_fault_16 ?_
    refine lv_bipush (v := (7 : Int32)) hx hb d_MM_fault_19 (by decide) ?_
    refine lv_iload_n hx hb d_MM_fault_21 rfl (lv_at hl 1 rfl) ?_
    refine lv_iadd hx hb d_MM_fault_22 ?_
    obtain ⟨hn2, hf0⟩ := o_in hf0
    refine q_iald (j := ((7 : Int32) + x1).toNatClampNeg) hx hb hX hH (aa_MM_1 hZ) hn2 rfl d_MM_fault_23 ?_
    refine lv_iconst (v := (1 : Int32)) hx hb d_MM_fault_24 (by decide) ?_
    refine lv_isub hx hb d_MM_fault_25 ?_
    refine lv_i2l hx hb d_MM_fault_26 rfl ?_
    refine q_cSi (As := [.long x2.toInt64, .long (0 : Int64), .long (((M 1 ((7 : Int32) + x1).toNatClampNeg) - (1 : Int32)).toInt64)]) (rest := []) S hX hH (c_MM_in l hI M x2.toInt64 (0 : Int64) (((M 1 ((7 : Int32) + x1).toNatClampNeg) - (1 : Int32)).toInt64) rfl) (cw_MM_108 S.2.2.2.2 (Nat.le_trans (Nat.le_of_ble_eq_true rfl) hR.1) (Nat.le_trans (Nat.le_of_ble_eq_true rfl) hR.2)) rfl hl.1 rfl (Nat.le_of_ble_eq_true rfl) d_MM_fault_27 ⟨Nat.zero_le _, Nat.zero_le _⟩ (fun H locs hH => ?_)
    refine lv_if_eq (tgt := 45) hx hb d_MM_fault_30 (by decide) (fun hc => ?_) (fun hc => ?_)
    · replace hf0 := o_t hc hf0
      refine lv_iconst (v := (-1 : Int32)) hx hb d_MM_fault_45 (by decide) ?_
      obtain rfl := o_v hf0
      exact hQ _ _ _ _ hH d_MM_fault_46
    · replace hf0 := o_f hc hf0
      refine lv_iload_n hx hb d_MM_fault_33 rfl (lv_at hl 3 rfl) ?_
      refine lv_i2l hx hb d_MM_fault_34 rfl ?_
      refine lv_lconst (v := (0 : Int64)) hx hb d_MM_fault_35 (by decide) ?_
      refine lv_ldc2 (v := (3 : Int64)) hx hb hown (ht _ w5_171) d_MM_fault_36 ?_
      refine q_cSi (As := [.long x3.toInt64, .long (0 : Int64), .long (3 : Int64)]) (rest := []) S hX hH (c_MM_in l hI M x3.toInt64 (0 : Int64) (3 : Int64) rfl) (cw_MM_108 S.2.2.2.2 (Nat.le_trans (Nat.le_of_ble_eq_true rfl) hR.1) (Nat.le_trans (Nat.le_of_ble_eq_true rfl) hR.2)) rfl hl.1 rfl (Nat.le_of_ble_eq_true rfl) d_MM_fault_39 ⟨Nat.zero_le _, Nat.zero_le _⟩ (fun H locs hH => ?_)
      refine lv_if_ne (tgt := 47) hx hb d_MM_fault_42 (by decide) (fun hc => ?_) (fun hc => ?_)
      · replace hf0 := o_f hc hf0
        refine lv_iload_n hx hb d_MM_fault_47 rfl (lv_at hl 3 rfl) ?_
        refine lv_iconst (v := (3 : Int32)) hx hb d_MM_fault_48 (by decide) ?_
        refine lv_icmp_ne (tgt := 61) hx hb d_MM_fault_49 (by decide) (fun hc => ?_) (fun hc => ?_)
        · replace hf0 := o_f hc hf0
          exact J61 _ _ _ _ _ _ hf0 hH (lv_sub hl [0, 1, 2, 3] rfl)
        · replace hf0 := o_t hc hf0
          refine lv_iload_n hx hb d_MM_fault_52 rfl (lv_at hl 1 rfl) ?_
          refine lv_iconst (v := (1 : Int32)) hx hb d_MM_fault_53 (by decide) ?_
          refine lv_icmp_ne (tgt := 61) hx hb d_MM_fault_54 (by decide) (fun hc => ?_) (fun hc => ?_)
          · replace hf0 := o_f hc hf0
            exact J61 _ _ _ _ _ _ hf0 hH (lv_sub hl [0, 1, 2, 3] rfl)
          · replace hf0 := o_t hc hf0
            refine lv_iconst (v := (0 : Int32)) hx hb d_MM_fault_57 (by decide) ?_
            refine lv_goto (tgt := 79) hx hb d_MM_fault_58 (by decide) ?_
            obtain rfl := o_v hf0
            exact hQ _ _ _ _ hH d_MM_fault_79
      · replace hf0 := o_t hc hf0
        refine lv_iconst (v := (-1 : Int32)) hx hb d_MM_fault_45 (by decide) ?_
        obtain rfl := o_v hf0
        exact hQ _ _ _ _ hH d_MM_fault_46
theorem c_MM_fault (l : Launch) {Z : WD} (hI : wI Z) (hZ : IsM Z) (M : Mem) (x1 : Int32) (x2 : Int32) (x3 : Int32) {r : Int32} (hf : f_MM_fault M x1 x2 x3 = some r) : Ci l Z y_MM_fault b_MM_fault 4 (some .int) 1 25 [.ref (Z.2.2.1 0), .int x1, .int x2, .int x3] M M r := by
  refine Met.ofW (cc := b_MM_fault) (maxL := 4) (ret := (some .int)) (by decide) rfl ?_
  intro p e s m args below meth c s₁ B hml hv
  obtain ⟨rfl, hP, hX⟩ := hv
  have S : CallFix p m c b_MM_fault 4 s ([.ref (Z.2.2.1 0), .int x1, .int x2, .int x3] : List Value).toArray gtb R_MM := ⟨B.exec, B.bytes, hml, findClass_of_methodNamed B.named, fun w hw => atoms_spec (ws := .code y_MM_fault b_MM_fault 4 (some .int) :: gtb) B.pre w (List.mem_cons_of_mem _ hw)⟩
  have hl := lv_entry ([.ref (Z.2.2.1 0), .int x1, .int x2, .int x3]) (n := 4) (Nat.le_of_ble_eq_true rfl)
  rw [lg_entry_eq]
  exact wk_MM_fault hI hZ M x1 x2 x3 S hX ⟨Nat.le_refl _, Nat.le_refl _⟩ (fun pc H locs ls hH d => q_ri S.1 S.2.1 B.returns B.notSynchronized hH rfl rfl d) hf ⟨hP, va_S.rf⟩ hl
