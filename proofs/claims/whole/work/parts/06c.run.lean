theorem cw_Run_63 {R : Room} {s : State} {args : Array Value} (ht : ∀ w ∈ gtb, w.before args s = true) (h1 : 0 + 1 ≤ R.frames) (h2 : 8 + (4 + 11) + 0 ≤ R.locals) : CallB R s args R_Run 63 y_Arr_fill b_Arr_fill 4 none (.code y_Arr_fill b_Arr_fill 4 none :: gtb) { frames := 0, cells := 0, slots := 0, locals := 0 } 0 0 2 ∧ (Cond.static y_Arr_fill).before args s = true := va_cwS 2 ht (gS w1_210 w1_211 w1_5 w1_212) rfl rfl rfl ⟨by decide, by decide, by decide +kernel⟩ ⟨h1, h2⟩
noncomputable def f_Run_prepare_L86 (k : Nat) (x1 : Int32) (x2 : Int32) (M : Mem) : Option ((Int32 × Mem) ⊕ Mem) := if (M 0 3) ≤ x2 then some (.inr M) else 
    if ((x1 >>> (x2 &&& 31)) &&& (1 : Int32)) = 0 then 
    gIn x2 12 (gIn (M 5 x2.toNatClampNeg) 576 (lt1 (upM M (k + 1) ((M 5 x2.toNatClampNeg).toNatClampNeg) (99 : Int32)) (fun M3 => some (.inl (x2 + (1 : Int32), M3))))) else some (.inl (x2 + (1 : Int32), M))
noncomputable def f_Run_prepare_W86 (k : Nat) (x1 : Int32) (u : (Int32 × Mem)) : Option Mem := loop (fun t => f_Run_prepare_L86 k x1 t.1 t.2) u
noncomputable def f_Run_prepare_J86 (k : Nat) (M : Mem) (x1 : Int32) (x2 : Int32) : Option (Mem) := bnd (f_Run_prepare_W86 k x1 (x2, M)) (fun e86 => some e86)
noncomputable def f_Run_prepare_L28 (k : Nat) (x1 : Int32) (x2 : Int32) (M : Mem) : Option ((Int32 × Mem) ⊕ Mem) := if (M 0 4) ≤ x2 then some (.inr M) else 
    if ((x1 >>> (((M 0 3) + x2) &&& 31)) &&& (1 : Int32)) = 0 then 
    gIn x2 12 (gIn (M 6 x2.toNatClampNeg) 576 (lt1 (upM M (k + 1) ((M 6 x2.toNatClampNeg).toNatClampNeg) (M 7 x2.toNatClampNeg)) (fun M6 => some (.inl (x2 + (1 : Int32), M6))))) else some (.inl (x2 + (1 : Int32), M))
noncomputable def f_Run_prepare_W28 (k : Nat) (x1 : Int32) (u : (Int32 × Mem)) : Option Mem := loop (fun t => f_Run_prepare_L28 k x1 t.1 t.2) u
noncomputable def f_Run_prepare_J28 (k : Nat) (M : Mem) (x1 : Int32) (x2 : Int32) : Option (Mem) := bnd (f_Run_prepare_W28 k x1 (x2, M)) (fun e28 => f_Run_prepare_J86 k e28 x1 (0 : Int32))
noncomputable def f_Run_prepare (k : Nat) (M : Mem) (x1 : Int32) : Option Mem := 
    lt1 (upM M k 1 (M 1 2)) (fun M7 => 
    lt1 (upM M7 k 2 (-1 : Int32)) (fun M8 => bnd (f_Arr_fill (k + 1) 576 M8 (0 : Int32)) (fun M10 => f_Run_prepare_J28 k M10 x1 (0 : Int32))))
set_option maxHeartbeats 4000000 in
theorem wk_Run_prepare {l : Launch} {Z : WD} (hI : wI Z) (hZ : IsC Z) (k : Nat) (M : Mem) (x1 : Int32) (hk : isRun k) {M' : Mem} {p : Program} {e : Env} {R : Room} {s : State} {m : MethodId} {args : Array Value} {below : List Frame} {meth : Method} {c : Code} {H : Heap} {locs : List Loc} {ls : Array Slot} {Q : State → Prop} (S : CallFix p m c b_Run_prepare 3 s args gtb R_Run) (hX : wX Z s) (hR : 1 ≤ R.frames ∧ 23 ≤ R.locals) (hQ : ∀ (pc : Nat) (H : Heap) (locs : List Loc) (ls : Array Slot), HW Z M' s H locs → decode b_Run_prepare pc = .ok (.return_, 1) → W p l e R s m args below meth c H locs 0 0 Q (F0 m pc ls [])) (hf0 : f_Run_prepare k M x1 = some M') (hH : HW Z M s H locs) (hl : lv_has ls 3 [(0, .ref (Z.2.2.1 k)), (1, .int x1)]) : W p l e R s m args below meth c H locs 0 0 Q (F0 m 0 ls []) := by
  have hx := S.1
  have hb := S.2.1
  have hown := S.2.2.2.1
  have ht := S.2.2.2.2
  unfold f_Run_prepare at hf0
  have J86 : ∀ (M : Mem) (x1 : Int32) (x2 : Int32) (H : Heap) (locs : List Loc) (ls : Array Slot), f_Run_prepare_J86 k M x1 x2 = some M' → HW Z M s H locs → lv_has ls 3 [(0, .ref (Z.2.2.1 k)), (1, .int x1), (2, .int x2)] → W p l e R s m args below meth c H locs 0 0 Q (F0 m 86 ls []) := by
    intro M x1 x2 H locs ls hf0 hH hl
    unfold f_Run_prepare_J86 at hf0
    obtain ⟨e86, he86, hf0⟩ := o_b hf0
    unfold f_Run_prepare_W86 at he86
    refine loop_W (fun t => ∀ (H : Heap) (locs : List Loc) (ls : Array Slot), HW Z t.2 s H locs → lv_has ls 3 [(0, .ref (Z.2.2.1 k)), (1, .int x1), (2, .int t.1)] → W p l e R s m args below meth c H locs 0 0 Q (F0 m 86 ls [])) ?_ he86 H locs ls hH hl
    rintro ⟨x2, M⟩ o1 hf1 hG1 hR1 H locs ls hH hl
    replace hH : HW Z M s H locs := hH
    replace hl : lv_has ls 3 [(0, .ref (Z.2.2.1 k)), (1, .int x1), (2, .int x2)] := hl
    replace hf1 : f_Run_prepare_L86 k x1 x2 M = some o1 := hf1
    unfold f_Run_prepare_L86 at hf1
    refine lv_iload_n hx hb d_Run_prepare_86 rfl (lv_at hl 2 rfl) ?_
    refine lv_aload_n hx hb d_Run_prepare_87 rfl (lv_at hl 0 rfl) ?_
    refine g_Run_47 S hX hH hZ hk d_Run_prepare_88 ?_
    refine g_Run_72 S hX hH hZ isPlay_0 d_Run_prepare_91 ?_
    refine lv_icmp_ge (tgt := 127) hx hb d_Run_prepare_94 (by decide) (fun hc => ?_) (fun hc => ?_)
    · replace hf1 := o_t hc hf1
      obtain rfl := hR1 _ (o_v hf1).symm
      obtain rfl := o_v hf0
      exact hQ _ _ _ _ hH d_Run_prepare_127
    · replace hf1 := o_f hc hf1
      refine lv_iload_n hx hb d_Run_prepare_97 rfl (lv_at hl 1 rfl) ?_
      refine lv_iload_n hx hb d_Run_prepare_98 rfl (lv_at hl 2 rfl) ?_
      refine lv_ishr hx hb d_Run_prepare_99 ?_
      refine lv_iconst (v := (1 : Int32)) hx hb d_Run_prepare_100 (by decide) ?_
      refine lv_iand hx hb d_Run_prepare_101 ?_
      refine lv_if_ne (tgt := 121) hx hb d_Run_prepare_102 (by decide) (fun hc => ?_) (fun hc => ?_)
      · replace hf1 := o_f hc hf1
        refine lv_iinc (v := x2 + (1 : Int32)) (lv' := [(2, .int (x2 + (1 : Int32))), (0, .ref (Z.2.2.1 k)), (1, .int x1)]) hx hb d_Run_prepare_121 hl (k := 2) rfl rfl (by decide) rfl (fun ls hl => ?_)
        refine lv_goto (tgt := 86) hx hb d_Run_prepare_124 (by decide) ?_
        exact hG1 _ (o_v hf1).symm _ _ _ hH (lv_sub hl [1, 2, 0] rfl)
      · replace hf1 := o_t hc hf1
        refine lv_aload_n hx hb d_Run_prepare_105 rfl (lv_at hl 0 rfl) ?_
        refine g_Run_11 S hX hH hZ hk d_Run_prepare_106 ?_
        refine lv_aload_n hx hb d_Run_prepare_109 rfl (lv_at hl 0 rfl) ?_
        refine g_Run_47 S hX hH hZ hk d_Run_prepare_110 ?_
        refine g_Run_81 S hX hH hZ isPlay_0 d_Run_prepare_113 ?_
        refine lv_iload_n hx hb d_Run_prepare_116 rfl (lv_at hl 2 rfl) ?_
        obtain ⟨hn1, hf1⟩ := o_in hf1
        refine q_iald (j := x2.toNatClampNeg) hx hb hX hH (aa_Play_5 hZ isPlay_0) hn1 rfl d_Run_prepare_117 ?_
        refine lv_bipush (v := (99 : Int32)) hx hb d_Run_prepare_118 (by decide) ?_
        obtain ⟨hn2, hf1⟩ := o_in hf1
        obtain ⟨M3, hM3, hf1⟩ := o_l hf1
        refine q_iast (j := (M 5 x2.toNatClampNeg).toNatClampNeg) hx hb hX hI hH (aa_Run_1 hZ hk) hn2 rfl d_Run_prepare_120 (fun H locs hH => ?_)
        rw [hM3] at hH
        refine lv_iinc (v := x2 + (1 : Int32)) (lv' := [(2, .int (x2 + (1 : Int32))), (0, .ref (Z.2.2.1 k)), (1, .int x1)]) hx hb d_Run_prepare_121 hl (k := 2) rfl rfl (by decide) rfl (fun ls hl => ?_)
        refine lv_goto (tgt := 86) hx hb d_Run_prepare_124 (by decide) ?_
        exact hG1 _ (o_v hf1).symm _ _ _ hH (lv_sub hl [1, 2, 0] rfl)
  have J28 : ∀ (M : Mem) (x1 : Int32) (x2 : Int32) (H : Heap) (locs : List Loc) (ls : Array Slot), f_Run_prepare_J28 k M x1 x2 = some M' → HW Z M s H locs → lv_has ls 3 [(0, .ref (Z.2.2.1 k)), (1, .int x1), (2, .int x2)] → W p l e R s m args below meth c H locs 0 0 Q (F0 m 28 ls []) := by
    intro M x1 x2 H locs ls hf0 hH hl
    unfold f_Run_prepare_J28 at hf0
    obtain ⟨e28, he28, hf0⟩ := o_b hf0
    have KX28 : ∀ (H : Heap) (locs : List Loc) (ls : Array Slot), HW Z e28 s H locs → lv_has ls 3 [(0, .ref (Z.2.2.1 k)), (1, .int x1)] → W p l e R s m args below meth c H locs 0 0 Q (F0 m 84 ls []) := by
      intro H locs ls hH hl
      refine lv_iconst (v := (0 : Int32)) hx hb d_Run_prepare_84 (by decide) ?_
      refine lv_istore_n (lv' := [(2, .int (0 : Int32)), (0, .ref (Z.2.2.1 k)), (1, .int x1)]) hx hb d_Run_prepare_85 rfl hl (by decide) rfl (fun ls hl => ?_)
      exact J86 _ _ _ _ _ _ hf0 hH (lv_sub hl [1, 2, 0] rfl)
    unfold f_Run_prepare_W28 at he28
    refine loop_W (fun t => ∀ (H : Heap) (locs : List Loc) (ls : Array Slot), HW Z t.2 s H locs → lv_has ls 3 [(0, .ref (Z.2.2.1 k)), (1, .int x1), (2, .int t.1)] → W p l e R s m args below meth c H locs 0 0 Q (F0 m 28 ls [])) ?_ he28 H locs ls hH hl
    rintro ⟨x2, M⟩ o1 hf1 hG1 hR1 H locs ls hH hl
    replace hH : HW Z M s H locs := hH
    replace hl : lv_has ls 3 [(0, .ref (Z.2.2.1 k)), (1, .int x1), (2, .int x2)] := hl
    replace hf1 : f_Run_prepare_L28 k x1 x2 M = some o1 := hf1
    unfold f_Run_prepare_L28 at hf1
    refine lv_iload_n hx hb d_Run_prepare_28 rfl (lv_at hl 2 rfl) ?_
    refine lv_aload_n hx hb d_Run_prepare_29 rfl (lv_at hl 0 rfl) ?_
    refine g_Run_47 S hX hH hZ hk d_Run_prepare_30 ?_
    refine g_Run_69 S hX hH hZ isPlay_0 d_Run_prepare_33 ?_
    refine lv_icmp_ge (tgt := 84) hx hb d_Run_prepare_36 (by decide) (fun hc => ?_) (fun hc => ?_)
    · replace hf1 := o_t hc hf1
      obtain rfl := hR1 _ (o_v hf1).symm
      exact KX28 _ _ _ hH (lv_sub hl [0, 1] rfl)
    · replace hf1 := o_f hc hf1
      refine lv_iload_n hx hb d_Run_prepare_39 rfl (lv_at hl 1 rfl) ?_
      refine lv_aload_n hx hb d_Run_prepare_40 rfl (lv_at hl 0 rfl) ?_
      refine g_Run_47 S hX hH hZ hk d_Run_prepare_41 ?_
      refine g_Run_72 S hX hH hZ isPlay_0 d_Run_prepare_44 ?_
      refine lv_iload_n hx hb d_Run_prepare_47 rfl (lv_at hl 2 rfl) ?_
      refine lv_iadd hx hb d_Run_prepare_48 ?_
      refine lv_ishr hx hb d_Run_prepare_49 ?_
      refine lv_iconst (v := (1 : Int32)) hx hb d_Run_prepare_50 (by decide) ?_
      refine lv_iand hx hb d_Run_prepare_51 ?_
      refine lv_if_ne (tgt := 78) hx hb d_Run_prepare_52 (by decide) (fun hc => ?_) (fun hc => ?_)
      · replace hf1 := o_f hc hf1
        refine lv_iinc (v := x2 + (1 : Int32)) (lv' := [(2, .int (x2 + (1 : Int32))), (0, .ref (Z.2.2.1 k)), (1, .int x1)]) hx hb d_Run_prepare_78 hl (k := 2) rfl rfl (by decide) rfl (fun ls hl => ?_)
        refine lv_goto (tgt := 28) hx hb d_Run_prepare_81 (by decide) ?_
        exact hG1 _ (o_v hf1).symm _ _ _ hH (lv_sub hl [1, 2, 0] rfl)
      · replace hf1 := o_t hc hf1
        refine lv_aload_n hx hb d_Run_prepare_55 rfl (lv_at hl 0 rfl) ?_
        refine g_Run_11 S hX hH hZ hk d_Run_prepare_56 ?_
        refine lv_aload_n hx hb d_Run_prepare_59 rfl (lv_at hl 0 rfl) ?_
        refine g_Run_47 S hX hH hZ hk d_Run_prepare_60 ?_
        refine g_Run_75 S hX hH hZ isPlay_0 d_Run_prepare_63 ?_
        refine lv_iload_n hx hb d_Run_prepare_66 rfl (lv_at hl 2 rfl) ?_
        obtain ⟨hn4, hf1⟩ := o_in hf1
        refine q_iald (j := x2.toNatClampNeg) hx hb hX hH (aa_Play_6 hZ isPlay_0) hn4 rfl d_Run_prepare_67 ?_
        refine lv_aload_n hx hb d_Run_prepare_68 rfl (lv_at hl 0 rfl) ?_
        refine g_Run_47 S hX hH hZ hk d_Run_prepare_69 ?_
        refine g_Run_78 S hX hH hZ isPlay_0 d_Run_prepare_72 ?_
        refine lv_iload_n hx hb d_Run_prepare_75 rfl (lv_at hl 2 rfl) ?_
        refine q_iald (j := x2.toNatClampNeg) hx hb hX hH (aa_Play_7 hZ isPlay_0) hn4 rfl d_Run_prepare_76 ?_
        obtain ⟨hn5, hf1⟩ := o_in hf1
        obtain ⟨M6, hM6, hf1⟩ := o_l hf1
        refine q_iast (j := (M 6 x2.toNatClampNeg).toNatClampNeg) hx hb hX hI hH (aa_Run_1 hZ hk) hn5 rfl d_Run_prepare_77 (fun H locs hH => ?_)
        rw [hM6] at hH
        refine lv_iinc (v := x2 + (1 : Int32)) (lv' := [(2, .int (x2 + (1 : Int32))), (0, .ref (Z.2.2.1 k)), (1, .int x1)]) hx hb d_Run_prepare_78 hl (k := 2) rfl rfl (by decide) rfl (fun ls hl => ?_)
        refine lv_goto (tgt := 28) hx hb d_Run_prepare_81 (by decide) ?_
        exact hG1 _ (o_v hf1).symm _ _ _ hH (lv_sub hl [1, 2, 0] rfl)
  refine lv_aload_n hx hb d_Run_prepare_0 rfl (lv_at hl 0 rfl) ?_
  refine lv_aload_n hx hb d_Run_prepare_1 rfl (lv_at hl 0 rfl) ?_
  refine g_Run_47 S hX hH hZ hk d_Run_prepare_2 ?_
  refine g_Run_51 S hX hH hZ isPlay_0 d_Run_prepare_5 ?_
  refine lv_iconst (v := (2 : Int32)) hx hb d_Run_prepare_8 (by decide) ?_
  refine q_iald (j := 2) hx hb hX hH (aa_Play_1 hZ isPlay_0) (vp_c (by decide)) (by decide) d_Run_prepare_9 ?_
  obtain ⟨M7, hM7, hf0⟩ := o_l hf0
  refine s_Run_56 S hX hI hH hZ hk d_Run_prepare_10 (fun H locs hH => ?_)
  rw [hM7] at hH
  refine lv_aload_n hx hb d_Run_prepare_13 rfl (lv_at hl 0 rfl) ?_
  refine lv_iconst (v := (-1 : Int32)) hx hb d_Run_prepare_14 (by decide) ?_
  obtain ⟨M8, hM8, hf0⟩ := o_l hf0
  refine s_Run_60 S hX hI hH hZ hk d_Run_prepare_15 (fun H locs hH => ?_)
  rw [hM8] at hH
  refine lv_aload_n hx hb d_Run_prepare_18 rfl (lv_at hl 0 rfl) ?_
  refine g_Run_11 S hX hH hZ hk d_Run_prepare_19 ?_
  refine lv_iconst (v := (0 : Int32)) hx hb d_Run_prepare_22 (by decide) ?_
  obtain ⟨M10, hc9, hf0⟩ := o_b hf0
  refine q_cSv (As := [.ref (Z.2.2.1 (k + 1)), .int (0 : Int32)]) (rest := []) S hX hH (c_Arr_fill l hI (k + 1) 576 M8 (0 : Int32) (aa_Run_1 hZ hk) hc9) (cw_Run_63 S.2.2.2.2 (Nat.le_trans (Nat.le_of_ble_eq_true rfl) hR.1) (Nat.le_trans (Nat.le_of_ble_eq_true rfl) hR.2)) rfl hl.1 rfl (Nat.le_of_ble_eq_true rfl) d_Run_prepare_23 ⟨Nat.zero_le _, Nat.zero_le _⟩ (fun H locs hH => ?_)
  refine lv_iconst (v := (0 : Int32)) hx hb d_Run_prepare_26 (by decide) ?_
  refine lv_istore_n (lv' := [(2, .int (0 : Int32)), (0, .ref (Z.2.2.1 k)), (1, .int x1)]) hx hb d_Run_prepare_27 rfl hl (by decide) rfl (fun ls hl => ?_)
  exact J28 _ _ _ _ _ _ hf0 hH (lv_sub hl [1, 2, 0] rfl)
theorem c_Run_prepare (l : Launch) {Z : WD} (hI : wI Z) (hZ : IsC Z) (k : Nat) (M : Mem) (x1 : Int32) (hk : isRun k) {M' : Mem} (hf : f_Run_prepare k M x1 = some M') : Cv l Z y_Run_prepare b_Run_prepare 3 none 1 23 [.ref (Z.2.2.1 k), .int x1] M M' := by
  refine Met.ofW (cc := b_Run_prepare) (maxL := 3) (ret := none) (by decide) rfl ?_
  intro p e s m args below meth c s₁ B hml hv
  obtain ⟨rfl, hP, hX⟩ := hv
  have S : CallFix p m c b_Run_prepare 3 s ([.ref (Z.2.2.1 k), .int x1] : List Value).toArray gtb R_Run := ⟨B.exec, B.bytes, hml, findClass_of_methodNamed B.named, fun w hw => atoms_spec (ws := .code y_Run_prepare b_Run_prepare 3 none :: gtb) B.pre w (List.mem_cons_of_mem _ hw)⟩
  have hl := lv_entry ([.ref (Z.2.2.1 k), .int x1]) (n := 3) (Nat.le_of_ble_eq_true rfl)
  rw [lg_entry_eq]
  exact wk_Run_prepare hI hZ k M x1 hk S hX ⟨Nat.le_refl _, Nat.le_refl _⟩ (fun pc H locs ls hH d => q_rv S.1 S.2.1 B.returns B.notSynchronized hH rfl d) hf ⟨hP, va_S.rf⟩ hl
theorem cw_Run_122 {R : Room} {s : State} {args : Array Value} (ht : ∀ w ∈ gtb, w.before args s = true) (h1 : 1 + 1 ≤ R.frames) (h2 : 8 + (2 + 11) + 21 ≤ R.locals) : CallW R s args R_Run R_Play 122 y_Play_isHonest b_Play_isHonest 2 (some .boolean) (.code y_Play_isHonest b_Play_isHonest 2 (some .boolean) :: gtb) { frames := 1, cells := 0, slots := 0, locals := 21 } 0 0 1 := cwV 1 ht (gV w1_229 w1_230 w1_231 w1_2 w1_232) rfl rfl rfl ⟨rfl, by decide, by decide, by decide +kernel⟩ ⟨h1, h2⟩
theorem cw_Run_125 {R : Room} {s : State} {args : Array Value} (ht : ∀ w ∈ gtb, w.before args s = true) (hn : ∀ q ∈ nestRefs, va_Nw (.methodLinkNest q.1 q.2.1 q.2.2.1 q.2.2.2) s) (h1 : 0 + 1 ≤ R.frames) (h2 : 8 + (2 + 11) + 0 ≤ R.locals) : va_CN R s args R_Run 125 y_MC_cellOf R_MC b_MC_cellOf 2 (some .int) (.code y_MC_cellOf b_MC_cellOf 2 (some .int) :: gtb) { frames := 0, cells := 0, slots := 0, locals := 0 } 0 0 2 ∧ (Cond.static y_MC_cellOf).before args s = true ∧ True := ⟨va_cnB 2 ht (gN w1_235) rfl rfl rfl (hn ("MarkedChains$Run", 125, y_MC_cellOf, "MarkedChains") (by decide)) (ht _ w1_1) ⟨by decide, by decide, by decide +kernel⟩ ⟨h1, h2⟩, ht _ w1_234, trivial⟩
theorem cw_Run_118 {R : Room} {s : State} {args : Array Value} (ht : ∀ w ∈ gtb, w.before args s = true) (h1 : 1 + 1 ≤ R.frames) (h2 : 8 + (2 + 11) + 21 ≤ R.locals) : CallW R s args R_Run R_Play 118 y_Play_isLiar b_Play_isLiar 2 (some .boolean) (.code y_Play_isLiar b_Play_isLiar 2 (some .boolean) :: gtb) { frames := 1, cells := 0, slots := 0, locals := 21 } 0 0 1 := cwV 1 ht (gV w1_221 w1_222 w1_223 w1_2 w1_224) rfl rfl rfl ⟨rfl, by decide, by decide, by decide +kernel⟩ ⟨h1, h2⟩
noncomputable def f_Run_begin_L76 (k : Nat) (x1 : Int32) (M : Mem) : Option ((Int32 × Mem) ⊕ Mem) := if (8 : Int32) ≤ x1 then some (.inr M) else 
    gIn x1 72 (lt1 (upM M (k + 11) x1.toNatClampNeg (0 : Int32)) (fun M2 => some (.inl (x1 + (1 : Int32), M2))))
noncomputable def f_Run_begin_W76 (k : Nat) (u : (Int32 × Mem)) : Option Mem := loop (fun t => f_Run_begin_L76 k t.1 t.2) u
noncomputable def f_Run_begin_J76 (k : Nat) (M : Mem) (x1 : Int32) : Option (Mem) := bnd (f_Run_begin_W76 k (x1, M)) (fun e76 => if (bI (f_Play_isHonest 0 e76 (e76 1 0))) = 0 then some e76 else 
    gIn (f_MC_cellOf (e76 1 0) (e76 1 1)) 32 (lt1 (upM e76 (k + 7) ((f_MC_cellOf (e76 1 0) (e76 1 1)).toNatClampNeg) (0 : Int32)) (fun M4 => 
    gIn (e76 1 0) 72 (lt1 (upM M4 (k + 11) ((e76 1 0).toNatClampNeg) ((1 : Int32) <<< ((M4 1 1) &&& 31))) (fun M6 => some M6)))))
noncomputable def f_Run_begin_J67 (k : Nat) (M : Mem) (x1 : Int32) (s0 : Int32) (s1 : Int32) : Option ((Int32 × Mem) ⊕ Mem) := gIn s1 32 (lt1 (upM M (k + 10) s1.toNatClampNeg s0) (fun M8 => some (.inl (x1 + (1 : Int32), M8))))
noncomputable def f_Run_begin_L37 (k : Nat) (x1 : Int32) (M : Mem) : Option ((Int32 × Mem) ⊕ Mem) := if (32 : Int32) ≤ x1 then some (.inr M) else 
    if (bI (f_Play_isLiar 0 M (x1 / (4 : Int32)))) = 0 then f_Run_begin_J67 k M x1 (99 : Int32) x1 else f_Run_begin_J67 k M x1 (0 : Int32) x1
noncomputable def f_Run_begin_W37 (k : Nat) (u : (Int32 × Mem)) : Option Mem := loop (fun t => f_Run_begin_L37 k t.1 t.2) u
noncomputable def f_Run_begin_J37 (k : Nat) (M : Mem) (x1 : Int32) : Option (Mem) := bnd (f_Run_begin_W37 k (x1, M)) (fun e37 => f_Run_begin_J76 k e37 (0 : Int32))
noncomputable def f_Run_begin (k : Nat) (M : Mem) : Option Mem := 
    lt1 (upM M k 4 (0 : Int32)) (fun M9 => 
    lt1 (upM M9 k 3 (0 : Int32)) (fun M10 => 
    bnd (f_Arr_fill (k + 7) 32 M10 (99 : Int32)) (fun M12 => 
    bnd (f_Arr_fill (k + 8) 32 M12 (-1 : Int32)) (fun M14 => bnd (f_Arr_fill (k + 9) 32 M14 (0 : Int32)) (fun M16 => f_Run_begin_J37 k M16 (0 : Int32))))))
set_option maxHeartbeats 4000000 in
theorem wk_Run_begin {l : Launch} {Z : WD} (hI : wI Z) (hZ : IsC Z) (k : Nat) (M : Mem) (hk : isRun k) {M' : Mem} {p : Program} {e : Env} {R : Room} {s : State} {m : MethodId} {args : Array Value} {below : List Frame} {meth : Method} {c : Code} {H : Heap} {locs : List Loc} {ls : Array Slot} {Q : State → Prop} (S : CallFix p m c b_Run_begin 2 s args gtb R_Run) (hX : wX Z s) (hR : 2 ≤ R.frames ∧ 42 ≤ R.locals) (hQ : ∀ (pc : Nat) (H : Heap) (locs : List Loc) (ls : Array Slot), HW Z M' s H locs → decode b_Run_begin pc = .ok (.return_, 1) → W p l e R s m args below meth c H locs 0 0 Q (F0 m pc ls [])) (hf0 : f_Run_begin k M = some M') (hH : HW Z M s H locs) (hl : lv_has ls 2 [(0, .ref (Z.2.2.1 k))]) : W p l e R s m args below meth c H locs 0 0 Q (F0 m 0 ls []) := by
  have hx := S.1
  have hb := S.2.1
  have hown := S.2.2.2.1
  have ht := S.2.2.2.2
  unfold f_Run_begin at hf0
  have J76 : ∀ (M : Mem) (x1 : Int32) (H : Heap) (locs : List Loc) (ls : Array Slot), f_Run_begin_J76 k M x1 = some M' → HW Z M s H locs → lv_has ls 2 [(0, .ref (Z.2.2.1 k)), (1, .int x1)] → W p l e R s m args below meth c H locs 0 0 Q (F0 m 76 ls []) := by
    intro M x1 H locs ls hf0 hH hl
    unfold f_Run_begin_J76 at hf0
    obtain ⟨e76, he76, hf0⟩ := o_b hf0
    have KX76 : ∀ (H : Heap) (locs : List Loc) (ls : Array Slot), HW Z e76 s H locs → lv_has ls 2 [(0, .ref (Z.2.2.1 k))] → W p l e R s m args below meth c H locs 0 0 Q (F0 m 95 ls []) := by
      intro H locs ls hH hl
      refine lv_aload_n hx hb d_Run_begin_95 rfl (lv_at hl 0 rfl) ?_
      refine g_Run_47 S hX hH hZ hk d_Run_begin_96 ?_
      refine g_Run_51 S hX hH hZ isPlay_0 d_Run_begin_99 ?_
      refine lv_iconst (v := (0 : Int32)) hx hb d_Run_begin_102 (by decide) ?_
      refine q_iald (j := 0) hx hb hX hH (aa_Play_1 hZ isPlay_0) (vp_c (by decide)) (by decide) d_Run_begin_103 ?_
      refine lv_istore_n (lv' := [(1, .int (e76 1 0)), (0, .ref (Z.2.2.1 k))]) hx hb d_Run_begin_104 rfl hl (by decide) rfl (fun ls hl => ?_)
      refine lv_aload_n hx hb d_Run_begin_105 rfl (lv_at hl 1 rfl) ?_
      refine g_Run_47 S hX hH hZ hk d_Run_begin_106 ?_
      refine lv_iload_n hx hb d_Run_begin_109 rfl (lv_at hl 0 rfl) ?_
      refine q_cVi (As := [.int (e76 1 0)]) (rest := []) S hX hH (c_Play_isHonest l hI hZ 0 e76 (e76 1 0) isPlay_0 rfl) (cw_Run_122 S.2.2.2.2 (Nat.le_trans (Nat.le_of_ble_eq_true rfl) hR.1) (Nat.le_trans (Nat.le_of_ble_eq_true rfl) hR.2)) (rc_Play hX hH hZ isPlay_0) rfl hl.1 rfl (Nat.le_of_ble_eq_true rfl) d_Run_begin_110 ⟨Nat.zero_le _, Nat.zero_le _⟩ (fun H locs hH => ?_)
      refine lv_if_eq (tgt := 152) hx hb d_Run_begin_113 (by decide) (fun hc => ?_) (fun hc => ?_)
      · replace hf0 := o_t hc hf0
        obtain rfl := o_v hf0
        exact hQ _ _ _ _ hH d_Run_begin_152
      · replace hf0 := o_f hc hf0
        refine lv_aload_n hx hb d_Run_begin_116 rfl (lv_at hl 1 rfl) ?_
        refine g_Run_32 S hX hH hZ hk d_Run_begin_117 ?_
        refine lv_iload_n hx hb d_Run_begin_120 rfl (lv_at hl 0 rfl) ?_
        refine lv_aload_n hx hb d_Run_begin_121 rfl (lv_at hl 1 rfl) ?_
        refine g_Run_47 S hX hH hZ hk d_Run_begin_122 ?_
        refine g_Run_51 S hX hH hZ isPlay_0 d_Run_begin_125 ?_
        refine lv_iconst (v := (1 : Int32)) hx hb d_Run_begin_128 (by decide) ?_
        refine q_iald (j := 1) hx hb hX hH (aa_Play_1 hZ isPlay_0) (vp_c (by decide)) (by decide) d_Run_begin_129 ?_
        refine q_cNi (As := [.int (e76 1 0), .int (e76 1 1)]) (rest := [.ref (Z.2.2.1 (k + 7))]) S hX hH (c_MC_cellOf l hI e76 (e76 1 0) (e76 1 1) rfl) (cw_Run_125 S.2.2.2.2 hX.2.1 (Nat.le_trans (Nat.le_of_ble_eq_true rfl) hR.1) (Nat.le_trans (Nat.le_of_ble_eq_true rfl) hR.2)) rfl hl.1 rfl (Nat.le_of_ble_eq_true rfl) d_Run_begin_130 ⟨Nat.zero_le _, Nat.zero_le _⟩ (fun H locs hH => ?_)
        refine lv_iconst (v := (0 : Int32)) hx hb d_Run_begin_133 (by decide) ?_
        obtain ⟨hn3, hf0⟩ := o_in hf0
        obtain ⟨M4, hM4, hf0⟩ := o_l hf0
        refine q_iast (j := (f_MC_cellOf (e76 1 0) (e76 1 1)).toNatClampNeg) hx hb hX hI hH (aa_Run_7 hZ hk) hn3 rfl d_Run_begin_134 (fun H locs hH => ?_)
        rw [hM4] at hH
        refine lv_aload_n hx hb d_Run_begin_135 rfl (lv_at hl 1 rfl) ?_
        refine g_Run_44 S hX hH hZ hk d_Run_begin_136 ?_
        refine lv_iload_n hx hb d_Run_begin_139 rfl (lv_at hl 0 rfl) ?_
        refine lv_iconst (v := (1 : Int32)) hx hb d_Run_begin_140 (by decide) ?_
        refine lv_aload_n hx hb d_Run_begin_141 rfl (lv_at hl 1 rfl) ?_
        refine g_Run_47 S hX hH hZ hk d_Run_begin_142 ?_
        refine g_Run_51 S hX hH hZ isPlay_0 d_Run_begin_145 ?_
        refine lv_iconst (v := (1 : Int32)) hx hb d_Run_begin_148 (by decide) ?_
        refine q_iald (j := 1) hx hb hX hH (aa_Play_1 hZ isPlay_0) (vp_c (by decide)) (by decide) d_Run_begin_149 ?_
        refine lv_ishl hx hb d_Run_begin_150 ?_
        obtain ⟨hn5, hf0⟩ := o_in hf0
        obtain ⟨M6, hM6, hf0⟩ := o_l hf0
        refine q_iast (j := (e76 1 0).toNatClampNeg) hx hb hX hI hH (aa_Run_11 hZ hk) hn5 rfl d_Run_begin_151 (fun H locs hH => ?_)
        rw [hM6] at hH
        obtain rfl := o_v hf0
        exact hQ _ _ _ _ hH d_Run_begin_152
    unfold f_Run_begin_W76 at he76
    refine loop_W (fun t => ∀ (H : Heap) (locs : List Loc) (ls : Array Slot), HW Z t.2 s H locs → lv_has ls 2 [(0, .ref (Z.2.2.1 k)), (1, .int t.1)] → W p l e R s m args below meth c H locs 0 0 Q (F0 m 76 ls [])) ?_ he76 H locs ls hH hl
    rintro ⟨x1, M⟩ o1 hf1 hG1 hR1 H locs ls hH hl
    replace hH : HW Z M s H locs := hH
    replace hl : lv_has ls 2 [(0, .ref (Z.2.2.1 k)), (1, .int x1)] := hl
    replace hf1 : f_Run_begin_L76 k x1 M = some o1 := hf1
    unfold f_Run_begin_L76 at hf1
    refine lv_iload_n hx hb d_Run_begin_76 rfl (lv_at hl 1 rfl) ?_
    refine lv_bipush (v := (8 : Int32)) hx hb d_Run_begin_77 (by decide) ?_
    refine lv_icmp_ge (tgt := 95) hx hb d_Run_begin_79 (by decide) (fun hc => ?_) (fun hc => ?_)
    · replace hf1 := o_t hc hf1
      obtain rfl := hR1 _ (o_v hf1).symm
      exact KX76 _ _ _ hH (lv_sub hl [0] rfl)
    · replace hf1 := o_f hc hf1
      refine lv_aload_n hx hb d_Run_begin_82 rfl (lv_at hl 0 rfl) ?_
      refine g_Run_44 S hX hH hZ hk d_Run_begin_83 ?_
      refine lv_iload_n hx hb d_Run_begin_86 rfl (lv_at hl 1 rfl) ?_
      refine lv_iconst (v := (0 : Int32)) hx hb d_Run_begin_87 (by decide) ?_
      obtain ⟨hn1, hf1⟩ := o_in hf1
      obtain ⟨M2, hM2, hf1⟩ := o_l hf1
      refine q_iast (j := x1.toNatClampNeg) hx hb hX hI hH (aa_Run_11 hZ hk) hn1 rfl d_Run_begin_88 (fun H locs hH => ?_)
      rw [hM2] at hH
      refine lv_iinc (v := x1 + (1 : Int32)) (lv' := [(1, .int (x1 + (1 : Int32))), (0, .ref (Z.2.2.1 k))]) hx hb d_Run_begin_89 hl (k := 1) rfl rfl (by decide) rfl (fun ls hl => ?_)
      refine lv_goto (tgt := 76) hx hb d_Run_begin_92 (by decide) ?_
      exact hG1 _ (o_v hf1).symm _ _ _ hH (lv_sub hl [1, 0] rfl)
  have J37 : ∀ (M : Mem) (x1 : Int32) (H : Heap) (locs : List Loc) (ls : Array Slot), f_Run_begin_J37 k M x1 = some M' → HW Z M s H locs → lv_has ls 2 [(0, .ref (Z.2.2.1 k)), (1, .int x1)] → W p l e R s m args below meth c H locs 0 0 Q (F0 m 37 ls []) := by
    intro M x1 H locs ls hf0 hH hl
    unfold f_Run_begin_J37 at hf0
    obtain ⟨e37, he37, hf0⟩ := o_b hf0
    have KX37 : ∀ (H : Heap) (locs : List Loc) (ls : Array Slot), HW Z e37 s H locs → lv_has ls 2 [(0, .ref (Z.2.2.1 k))] → W p l e R s m args below meth c H locs 0 0 Q (F0 m 74 ls []) := by
      intro H locs ls hH hl
      refine lv_iconst (v := (0 : Int32)) hx hb d_Run_begin_74 (by decide) ?_
      refine lv_istore_n (lv' := [(1, .int (0 : Int32)), (0, .ref (Z.2.2.1 k))]) hx hb d_Run_begin_75 rfl hl (by decide) rfl (fun ls hl => ?_)
      exact J76 _ _ _ _ _ hf0 hH (lv_sub hl [1, 0] rfl)
    unfold f_Run_begin_W37 at he37
    refine loop_W (fun t => ∀ (H : Heap) (locs : List Loc) (ls : Array Slot), HW Z t.2 s H locs → lv_has ls 2 [(0, .ref (Z.2.2.1 k)), (1, .int t.1)] → W p l e R s m args below meth c H locs 0 0 Q (F0 m 37 ls [])) ?_ he37 H locs ls hH hl
    rintro ⟨x1, M⟩ o1 hf1 hG1 hR1 H locs ls hH hl
    replace hH : HW Z M s H locs := hH
    replace hl : lv_has ls 2 [(0, .ref (Z.2.2.1 k)), (1, .int x1)] := hl
    replace hf1 : f_Run_begin_L37 k x1 M = some o1 := hf1
    unfold f_Run_begin_L37 at hf1
    have J67 : ∀ (M : Mem) (x1 : Int32) (s0 : Int32) (s1 : Int32) (H : Heap) (locs : List Loc) (ls : Array Slot), f_Run_begin_J67 k M x1 s0 s1 = some o1 → HW Z M s H locs → lv_has ls 2 [(0, .ref (Z.2.2.1 k)), (1, .int x1)] → W p l e R s m args below meth c H locs 0 0 Q (F0 m 67 ls [.int s0, .int s1, .ref (Z.2.2.1 (k + 10))]) := by
      intro M x1 s0 s1 H locs ls hf1 hH hl
      unfold f_Run_begin_J67 at hf1
      obtain ⟨hn7, hf1⟩ := o_in hf1
      obtain ⟨M8, hM8, hf1⟩ := o_l hf1
      refine q_iast (j := s1.toNatClampNeg) hx hb hX hI hH (aa_Run_10 hZ hk) hn7 rfl d_Run_begin_67 (fun H locs hH => ?_)
      rw [hM8] at hH
      refine lv_iinc (v := x1 + (1 : Int32)) (lv' := [(1, .int (x1 + (1 : Int32))), (0, .ref (Z.2.2.1 k))]) hx hb d_Run_begin_68 hl (k := 1) rfl rfl (by decide) rfl (fun ls hl => ?_)
      refine lv_goto (tgt := 37) hx hb d_Run_begin_71 (by decide) ?_
      exact hG1 _ (o_v hf1).symm _ _ _ hH (lv_sub hl [1, 0] rfl)
    refine lv_iload_n hx hb d_Run_begin_37 rfl (lv_at hl 1 rfl) ?_
    refine lv_bipush (v := (32 : Int32)) hx hb d_Run_begin_38 (by decide) ?_
    refine lv_icmp_ge (tgt := 74) hx hb d_Run_begin_40 (by decide) (fun hc => ?_) (fun hc => ?_)
    · replace hf1 := o_t hc hf1
      obtain rfl := hR1 _ (o_v hf1).symm
      exact KX37 _ _ _ hH (lv_sub hl [0] rfl)
    · replace hf1 := o_f hc hf1
      refine lv_aload_n hx hb d_Run_begin_43 rfl (lv_at hl 0 rfl) ?_
      refine g_Run_41 S hX hH hZ hk d_Run_begin_44 ?_
      refine lv_iload_n hx hb d_Run_begin_47 rfl (lv_at hl 1 rfl) ?_
      refine lv_aload_n hx hb d_Run_begin_48 rfl (lv_at hl 0 rfl) ?_
      refine g_Run_47 S hX hH hZ hk d_Run_begin_49 ?_
      refine lv_iload_n hx hb d_Run_begin_52 rfl (lv_at hl 1 rfl) ?_
      refine lv_iconst (v := (4 : Int32)) hx hb d_Run_begin_53 (by decide) ?_
      refine lv_idiv hx hb d_Run_begin_54 (by decide) ?_
      refine q_cVi (As := [.int (x1 / (4 : Int32))]) (rest := [.int x1, .ref (Z.2.2.1 (k + 10))]) S hX hH (c_Play_isLiar l hI hZ 0 M (x1 / (4 : Int32)) isPlay_0 rfl) (cw_Run_118 S.2.2.2.2 (Nat.le_trans (Nat.le_of_ble_eq_true rfl) hR.1) (Nat.le_trans (Nat.le_of_ble_eq_true rfl) hR.2)) (rc_Play hX hH hZ isPlay_0) rfl hl.1 rfl (Nat.le_of_ble_eq_true rfl) d_Run_begin_55 ⟨Nat.zero_le _, Nat.zero_le _⟩ (fun H locs hH => ?_)
      refine lv_if_eq (tgt := 65) hx hb d_Run_begin_58 (by decide) (fun hc => ?_) (fun hc => ?_)
      · replace hf1 := o_t hc hf1
        refine lv_bipush (v := (99 : Int32)) hx hb d_Run_begin_65 (by decide) ?_
        exact J67 _ _ _ _ _ _ _ hf1 hH (lv_sub hl [0, 1] rfl)
      · replace hf1 := o_f hc hf1
        refine lv_iconst (v := (0 : Int32)) hx hb d_Run_begin_61 (by decide) ?_
        refine lv_goto (tgt := 67) hx hb d_Run_begin_62 (by decide) ?_
        exact J67 _ _ _ _ _ _ _ hf1 hH (lv_sub hl [0, 1] rfl)
  refine lv_aload_n hx hb d_Run_begin_0 rfl (lv_at hl 0 rfl) ?_
  refine lv_iconst (v := (0 : Int32)) hx hb d_Run_begin_1 (by decide) ?_
  obtain ⟨M9, hM9, hf0⟩ := o_l hf0
  refine s_Run_110 S hX hI hH hZ hk d_Run_begin_2 (fun H locs hH => ?_)
  rw [hM9] at hH
  refine lv_aload_n hx hb d_Run_begin_5 rfl (lv_at hl 0 rfl) ?_
  refine lv_iconst (v := (0 : Int32)) hx hb d_Run_begin_6 (by decide) ?_
  obtain ⟨M10, hM10, hf0⟩ := o_l hf0
  refine s_Run_113 S hX hI hH hZ hk d_Run_begin_7 (fun H locs hH => ?_)
  rw [hM10] at hH
  refine lv_aload_n hx hb d_Run_begin_10 rfl (lv_at hl 0 rfl) ?_
  refine g_Run_32 S hX hH hZ hk d_Run_begin_11 ?_
  refine lv_bipush (v := (99 : Int32)) hx hb d_Run_begin_14 (by decide) ?_
  obtain ⟨M12, hc11, hf0⟩ := o_b hf0
  refine q_cSv (As := [.ref (Z.2.2.1 (k + 7)), .int (99 : Int32)]) (rest := []) S hX hH (c_Arr_fill l hI (k + 7) 32 M10 (99 : Int32) (aa_Run_7 hZ hk) hc11) (cw_Run_63 S.2.2.2.2 (Nat.le_trans (Nat.le_of_ble_eq_true rfl) hR.1) (Nat.le_trans (Nat.le_of_ble_eq_true rfl) hR.2)) rfl hl.1 rfl (Nat.le_of_ble_eq_true rfl) d_Run_begin_16 ⟨Nat.zero_le _, Nat.zero_le _⟩ (fun H locs hH => ?_)
  refine lv_aload_n hx hb d_Run_begin_19 rfl (lv_at hl 0 rfl) ?_
  refine g_Run_35 S hX hH hZ hk d_Run_begin_20 ?_
  refine lv_iconst (v := (-1 : Int32)) hx hb d_Run_begin_23 (by decide) ?_
  obtain ⟨M14, hc13, hf0⟩ := o_b hf0
  refine q_cSv (As := [.ref (Z.2.2.1 (k + 8)), .int (-1 : Int32)]) (rest := []) S hX hH (c_Arr_fill l hI (k + 8) 32 M12 (-1 : Int32) (aa_Run_8 hZ hk) hc13) (cw_Run_63 S.2.2.2.2 (Nat.le_trans (Nat.le_of_ble_eq_true rfl) hR.1) (Nat.le_trans (Nat.le_of_ble_eq_true rfl) hR.2)) rfl hl.1 rfl (Nat.le_of_ble_eq_true rfl) d_Run_begin_24 ⟨Nat.zero_le _, Nat.zero_le _⟩ (fun H locs hH => ?_)
  refine lv_aload_n hx hb d_Run_begin_27 rfl (lv_at hl 0 rfl) ?_
  refine g_Run_38 S hX hH hZ hk d_Run_begin_28 ?_
  refine lv_iconst (v := (0 : Int32)) hx hb d_Run_begin_31 (by decide) ?_
  obtain ⟨M16, hc15, hf0⟩ := o_b hf0
  refine q_cSv (As := [.ref (Z.2.2.1 (k + 9)), .int (0 : Int32)]) (rest := []) S hX hH (c_Arr_fill l hI (k + 9) 32 M14 (0 : Int32) (aa_Run_9 hZ hk) hc15) (cw_Run_63 S.2.2.2.2 (Nat.le_trans (Nat.le_of_ble_eq_true rfl) hR.1) (Nat.le_trans (Nat.le_of_ble_eq_true rfl) hR.2)) rfl hl.1 rfl (Nat.le_of_ble_eq_true rfl) d_Run_begin_32 ⟨Nat.zero_le _, Nat.zero_le _⟩ (fun H locs hH => ?_)
  refine lv_iconst (v := (0 : Int32)) hx hb d_Run_begin_35 (by decide) ?_
  refine lv_istore_n (lv' := [(1, .int (0 : Int32)), (0, .ref (Z.2.2.1 k))]) hx hb d_Run_begin_36 rfl hl (by decide) rfl (fun ls hl => ?_)
  exact J37 _ _ _ _ _ hf0 hH (lv_sub hl [1, 0] rfl)
theorem c_Run_begin (l : Launch) {Z : WD} (hI : wI Z) (hZ : IsC Z) (k : Nat) (M : Mem) (hk : isRun k) {M' : Mem} (hf : f_Run_begin k M = some M') : Cv l Z y_Run_begin b_Run_begin 2 none 2 42 [.ref (Z.2.2.1 k)] M M' := by
  refine Met.ofW (cc := b_Run_begin) (maxL := 2) (ret := none) (by decide) rfl ?_
  intro p e s m args below meth c s₁ B hml hv
  obtain ⟨rfl, hP, hX⟩ := hv
  have S : CallFix p m c b_Run_begin 2 s ([.ref (Z.2.2.1 k)] : List Value).toArray gtb R_Run := ⟨B.exec, B.bytes, hml, findClass_of_methodNamed B.named, fun w hw => atoms_spec (ws := .code y_Run_begin b_Run_begin 2 none :: gtb) B.pre w (List.mem_cons_of_mem _ hw)⟩
  have hl := lv_entry ([.ref (Z.2.2.1 k)]) (n := 2) (Nat.le_of_ble_eq_true rfl)
  rw [lg_entry_eq]
  exact wk_Run_begin hI hZ k M hk S hX ⟨Nat.le_refl _, Nat.le_refl _⟩ (fun pc H locs ls hH d => q_rv S.1 S.2.1 B.returns B.notSynchronized hH rfl d) hf ⟨hP, va_S.rf⟩ hl
theorem cw_Run_156 {R : Room} {s : State} {args : Array Value} (ht : ∀ w ∈ gtb, w.before args s = true) (h1 : 0 + 1 ≤ R.frames) (h2 : 8 + (1 + 11) + 0 ≤ R.locals) : CallB R s args R_Run 156 y_Route_roundOf b_Route_roundOf 1 (some .int) (.code y_Route_roundOf b_Route_roundOf 1 (some .int) :: gtb) { frames := 0, cells := 0, slots := 0, locals := 0 } 0 0 1 ∧ (Cond.static y_Route_roundOf).before args s = true := va_cwS 1 ht (gS w2_17 w2_18 w1_7 w2_19) rfl rfl rfl ⟨by decide, by decide, by decide +kernel⟩ ⟨h1, h2⟩
noncomputable def f_Run_post_J77 (k : Nat) (M : Mem) (s0 : Int32) (s1 : Int32) : Option (Mem) := gIn s1 212 (lt1 (upM M (k + 5) s1.toNatClampNeg s0) (fun M2 => 
    gIn (M2 k 4) 212 (lt1 (upM M2 (k + 6) ((M2 k 4).toNatClampNeg) (0 : Int32)) (fun M4 => lt1 (upM M4 k 4 ((M4 k 4) + (1 : Int32))) (fun M5 => some M5)))))
noncomputable def f_Run_post (k : Nat) (M : Mem) (x1 : Int32) (x2 : Int32) (x3 : Int32) : Option Mem := 
    if (M k 4) < (212 : Int32) then 
    gIn x1 576 (gIn (M k 4) 212 (lt1 (upM M (k + 2) ((M k 4).toNatClampNeg) x1) (fun M8 => 
    gIn (M8 k 4) 212 (lt1 (upM M8 (k + 3) ((M8 k 4).toNatClampNeg) x2) (fun M10 => 
    gIn (M10 k 4) 212 (lt1 (upM M10 (k + 4) ((M10 k 4).toNatClampNeg) x3) (fun M12 => 
    if (M12 k 1) < ((f_Route_roundOf x1) + (M (k + 1) x1.toNatClampNeg)) then f_Run_post_J77 k M12 (-1 : Int32) (M12 k 4) else f_Run_post_J77 k M12 ((f_Route_roundOf x1) + (M (k + 1) x1.toNatClampNeg)) (M12 k 4)))))))) else some M
set_option maxHeartbeats 4000000 in
theorem wk_Run_post {l : Launch} {Z : WD} (hI : wI Z) (hZ : IsC Z) (k : Nat) (M : Mem) (x1 : Int32) (x2 : Int32) (x3 : Int32) (hk : isRun k) {M' : Mem} {p : Program} {e : Env} {R : Room} {s : State} {m : MethodId} {args : Array Value} {below : List Frame} {meth : Method} {c : Code} {H : Heap} {locs : List Loc} {ls : Array Slot} {Q : State → Prop} (S : CallFix p m c b_Run_post 5 s args gtb R_Run) (hX : wX Z s) (hR : 1 ≤ R.frames ∧ 20 ≤ R.locals) (hQ : ∀ (pc : Nat) (H : Heap) (locs : List Loc) (ls : Array Slot), HW Z M' s H locs → decode b_Run_post pc = .ok (.return_, 1) → W p l e R s m args below meth c H locs 0 0 Q (F0 m pc ls [])) (hf0 : f_Run_post k M x1 x2 x3 = some M') (hH : HW Z M s H locs) (hl : lv_has ls 5 [(0, .ref (Z.2.2.1 k)), (1, .int x1), (2, .int x2), (3, .int x3)]) : W p l e R s m args below meth c H locs 0 0 Q (F0 m 0 ls []) := by
  have hx := S.1
  have hb := S.2.1
  have hown := S.2.2.2.1
  have ht := S.2.2.2.2
  unfold f_Run_post at hf0
  have J77 : ∀ (M : Mem) (s0 : Int32) (s1 : Int32) (H : Heap) (locs : List Loc) (ls : Array Slot), f_Run_post_J77 k M s0 s1 = some M' → HW Z M s H locs → lv_has ls 5 [(0, .ref (Z.2.2.1 k))] → W p l e R s m args below meth c H locs 0 0 Q (F0 m 77 ls [.int s0, .int s1, .ref (Z.2.2.1 (k + 5))]) := by
    intro M s0 s1 H locs ls hf0 hH hl
    unfold f_Run_post_J77 at hf0
    obtain ⟨hn1, hf0⟩ := o_in hf0
    obtain ⟨M2, hM2, hf0⟩ := o_l hf0
    refine q_iast (j := s1.toNatClampNeg) hx hb hX hI hH (aa_Run_5 hZ hk) hn1 rfl d_Run_post_77 (fun H locs hH => ?_)
    rw [hM2] at hH
    refine lv_aload_n hx hb d_Run_post_78 rfl (lv_at hl 0 rfl) ?_
    refine g_Run_29 S hX hH hZ hk d_Run_post_79 ?_
    refine lv_aload_n hx hb d_Run_post_82 rfl (lv_at hl 0 rfl) ?_
    refine g_Run_110 S hX hH hZ hk d_Run_post_83 ?_
    refine lv_iconst (v := (0 : Int32)) hx hb d_Run_post_86 (by decide) ?_
    obtain ⟨hn3, hf0⟩ := o_in hf0
    obtain ⟨M4, hM4, hf0⟩ := o_l hf0
    refine q_iast (j := (M2 k 4).toNatClampNeg) hx hb hX hI hH (aa_Run_6 hZ hk) hn3 rfl d_Run_post_87 (fun H locs hH => ?_)
    rw [hM4] at hH
    refine lv_aload_n hx hb d_Run_post_88 rfl (lv_at hl 0 rfl) ?_
    refine lv_dup hx hb d_Run_post_89 rfl ?_
    refine g_Run_110 S hX hH hZ hk d_Run_post_90 ?_
    refine lv_iconst (v := (1 : Int32)) hx hb d_Run_post_93 (by decide) ?_
    refine lv_iadd hx hb d_Run_post_94 ?_
    obtain ⟨M5, hM5, hf0⟩ := o_l hf0
    refine s_Run_110 S hX hI hH hZ hk d_Run_post_95 (fun H locs hH => ?_)
    rw [hM5] at hH
    obtain rfl := o_v hf0
    exact hQ _ _ _ _ hH d_Run_post_98
  refine lv_aload_n hx hb d_Run_post_0 rfl (lv_at hl 0 rfl) ?_
  refine g_Run_110 S hX hH hZ hk d_Run_post_1 ?_
  refine lv_sipush (v := (212 : Int32)) hx hb d_Run_post_4 (by decide) ?_
  refine lv_icmp_lt (tgt := 11) hx hb d_Run_post_7 (by decide) (fun hc => ?_) (fun hc => ?_)
  · replace hf0 := o_t hc hf0
    refine lv_iload_n hx hb d_Run_post_11 rfl (lv_at hl 1 rfl) ?_
    refine q_cSi (As := [.int x1]) (rest := []) S hX hH (c_Route_roundOf l hI M x1 rfl) (cw_Run_156 S.2.2.2.2 (Nat.le_trans (Nat.le_of_ble_eq_true rfl) hR.1) (Nat.le_trans (Nat.le_of_ble_eq_true rfl) hR.2)) rfl hl.1 rfl (Nat.le_of_ble_eq_true rfl) d_Run_post_12 ⟨Nat.zero_le _, Nat.zero_le _⟩ (fun H locs hH => ?_)
    refine lv_aload_n hx hb d_Run_post_15 rfl (lv_at hl 0 rfl) ?_
    refine g_Run_11 S hX hH hZ hk d_Run_post_16 ?_
    refine lv_iload_n hx hb d_Run_post_19 rfl (lv_at hl 1 rfl) ?_
    obtain ⟨hn6, hf0⟩ := o_in hf0
    refine q_iald (j := x1.toNatClampNeg) hx hb hX hH (aa_Run_1 hZ hk) hn6 rfl d_Run_post_20 ?_
    refine lv_iadd hx hb d_Run_post_21 ?_
    refine lv_istore (lv' := [(4, .int ((f_Route_roundOf x1) + (M (k + 1) x1.toNatClampNeg))), (0, .ref (Z.2.2.1 k)), (1, .int x1), (2, .int x2), (3, .int x3)]) hx hb d_Run_post_22 hl (by decide) rfl (fun ls hl => ?_)
    refine lv_aload_n hx hb d_Run_post_24 rfl (lv_at hl 1 rfl) ?_
    refine g_Run_17 S hX hH hZ hk d_Run_post_25 ?_
    refine lv_aload_n hx hb d_Run_post_28 rfl (lv_at hl 1 rfl) ?_
    refine g_Run_110 S hX hH hZ hk d_Run_post_29 ?_
    refine lv_iload_n hx hb d_Run_post_32 rfl (lv_at hl 2 rfl) ?_
    obtain ⟨hn7, hf0⟩ := o_in hf0
    obtain ⟨M8, hM8, hf0⟩ := o_l hf0
    refine q_iast (j := (M k 4).toNatClampNeg) hx hb hX hI hH (aa_Run_2 hZ hk) hn7 rfl d_Run_post_33 (fun H locs hH => ?_)
    rw [hM8] at hH
    refine lv_aload_n hx hb d_Run_post_34 rfl (lv_at hl 1 rfl) ?_
    refine g_Run_20 S hX hH hZ hk d_Run_post_35 ?_
    refine lv_aload_n hx hb d_Run_post_38 rfl (lv_at hl 1 rfl) ?_
    refine g_Run_110 S hX hH hZ hk d_Run_post_39 ?_
    refine lv_iload_n hx hb d_Run_post_42 rfl (lv_at hl 3 rfl) ?_
    obtain ⟨hn9, hf0⟩ := o_in hf0
    obtain ⟨M10, hM10, hf0⟩ := o_l hf0
    refine q_iast (j := (M8 k 4).toNatClampNeg) hx hb hX hI hH (aa_Run_3 hZ hk) hn9 rfl d_Run_post_43 (fun H locs hH => ?_)
    rw [hM10] at hH
    refine lv_aload_n hx hb d_Run_post_44 rfl (lv_at hl 1 rfl) ?_
    refine g_Run_23 S hX hH hZ hk d_Run_post_45 ?_
    refine lv_aload_n hx hb d_Run_post_48 rfl (lv_at hl 1 rfl) ?_
    refine g_Run_110 S hX hH hZ hk d_Run_post_49 ?_
    refine lv_iload_n hx hb d_Run_post_52 rfl (lv_at hl 4 rfl) ?_
    obtain ⟨hn11, hf0⟩ := o_in hf0
    obtain ⟨M12, hM12, hf0⟩ := o_l hf0
    refine q_iast (j := (M10 k 4).toNatClampNeg) hx hb hX hI hH (aa_Run_4 hZ hk) hn11 rfl d_Run_post_53 (fun H locs hH => ?_)
    rw [hM12] at hH
    refine lv_aload_n hx hb d_Run_post_54 rfl (lv_at hl 1 rfl) ?_
    refine g_Run_26 S hX hH hZ hk d_Run_post_55 ?_
    refine lv_aload_n hx hb d_Run_post_58 rfl (lv_at hl 1 rfl) ?_
    refine g_Run_110 S hX hH hZ hk d_Run_post_59 ?_
    refine lv_iload hx hb d_Run_post_62 (lv_at hl 0 rfl) ?_
    refine lv_aload_n hx hb d_Run_post_64 rfl (lv_at hl 1 rfl) ?_
    refine g_Run_56 S hX hH hZ hk d_Run_post_65 ?_
    refine lv_icmp_gt (tgt := 76) hx hb d_Run_post_68 (by decide) (fun hc => ?_) (fun hc => ?_)
    · replace hf0 := o_t hc hf0
      refine lv_iconst (v := (-1 : Int32)) hx hb d_Run_post_76 (by decide) ?_
      exact J77 _ _ _ _ _ _ hf0 hH (lv_sub hl [1] rfl)
    · replace hf0 := o_f hc hf0
      refine lv_iload hx hb d_Run_post_71 (lv_at hl 0 rfl) ?_
      refine lv_goto (tgt := 77) hx hb d_Run_post_73 (by decide) ?_
      exact J77 _ _ _ _ _ _ hf0 hH (lv_sub hl [1] rfl)
  · replace hf0 := o_f hc hf0
    obtain rfl := o_v hf0
    exact hQ _ _ _ _ hH d_Run_post_10
theorem c_Run_post (l : Launch) {Z : WD} (hI : wI Z) (hZ : IsC Z) (k : Nat) (M : Mem) (x1 : Int32) (x2 : Int32) (x3 : Int32) (hk : isRun k) {M' : Mem} (hf : f_Run_post k M x1 x2 x3 = some M') : Cv l Z y_Run_post b_Run_post 5 none 1 20 [.ref (Z.2.2.1 k), .int x1, .int x2, .int x3] M M' := by
  refine Met.ofW (cc := b_Run_post) (maxL := 5) (ret := none) (by decide) rfl ?_
  intro p e s m args below meth c s₁ B hml hv
  obtain ⟨rfl, hP, hX⟩ := hv
  have S : CallFix p m c b_Run_post 5 s ([.ref (Z.2.2.1 k), .int x1, .int x2, .int x3] : List Value).toArray gtb R_Run := ⟨B.exec, B.bytes, hml, findClass_of_methodNamed B.named, fun w hw => atoms_spec (ws := .code y_Run_post b_Run_post 5 none :: gtb) B.pre w (List.mem_cons_of_mem _ hw)⟩
  have hl := lv_entry ([.ref (Z.2.2.1 k), .int x1, .int x2, .int x3]) (n := 5) (Nat.le_of_ble_eq_true rfl)
  rw [lg_entry_eq]
  exact wk_Run_post hI hZ k M x1 x2 x3 hk S hX ⟨Nat.le_refl _, Nat.le_refl _⟩ (fun pc H locs ls hH d => q_rv S.1 S.2.1 B.returns B.notSynchronized hH rfl d) hf ⟨hP, va_S.rf⟩ hl
theorem cw_Run_143 {R : Room} {s : State} {args : Array Value} (ht : ∀ w ∈ gtb, w.before args s = true) (h1 : 0 + 1 ≤ R.frames) (h2 : 8 + (3 + 11) + 0 ≤ R.locals) : CallB R s args R_Run 143 y_Route_of b_Route_of 3 (some .int) (.code y_Route_of b_Route_of 3 (some .int) :: gtb) { frames := 0, cells := 0, slots := 0, locals := 0 } 0 0 3 ∧ (Cond.static y_Route_of).before args s = true := va_cwS 3 ht (gS w2_10 w2_11 w1_7 w2_12) rfl rfl rfl ⟨by decide, by decide, by decide +kernel⟩ ⟨h1, h2⟩
theorem cw_Run_146 {R : Room} {s : State} {args : Array Value} (ht : ∀ w ∈ gtb, w.before args s = true) (h1 : 1 + 1 ≤ R.frames) (h2 : 8 + (5 + 11) + 20 ≤ R.locals) : CallW R s args R_Run R_Run 146 y_Run_post b_Run_post 5 none (.code y_Run_post b_Run_post 5 none :: gtb) { frames := 1, cells := 0, slots := 0, locals := 20 } 0 0 3 := cwV 3 ht (gV w2_13 w2_15 ws_Run_post w1_4 w2_16) rfl rfl rfl ⟨rfl, by decide, by decide, by decide +kernel⟩ ⟨h1, h2⟩
theorem cw_Run_140 {R : Room} {s : State} {args : Array Value} (ht : ∀ w ∈ gtb, w.before args s = true) (h1 : 1 + 1 ≤ R.frames) (h2 : 8 + (3 + 11) + 20 ≤ R.locals) : CallB R s args R_Run 140 y_Chain_with b_Chain_with 3 (some .int) (.code y_Chain_with b_Chain_with 3 (some .int) :: gtb) { frames := 1, cells := 0, slots := 0, locals := 20 } 0 0 2 ∧ (Cond.static y_Chain_with).before args s = true := va_cwS 2 ht (gS w2_4 w2_5 w1_6 w2_6) rfl rfl rfl ⟨by decide, by decide, by decide +kernel⟩ ⟨h1, h2⟩
noncomputable def f_Run_sendOthers_L11 (k : Nat) (x1 : Int32) (x2 : Int32) (x3 : Int32) (x5 : Int32) (x6 : Int32) (M : Mem) : Option ((Int32 × Mem) ⊕ Mem) := if (M 0 0) ≤ x6 then some (.inr M) else 
    if x6 = x2 then some (.inl (x6 + (1 : Int32), M)) else bnd (f_Run_post k M (f_Route_of x1 x2 x6) x3 x5) (fun M2 => some (.inl (x6 + (1 : Int32), M2)))
noncomputable def f_Run_sendOthers_W11 (k : Nat) (x1 : Int32) (x2 : Int32) (x3 : Int32) (x5 : Int32) (u : (Int32 × Mem)) : Option Mem := loop (fun t => f_Run_sendOthers_L11 k x1 x2 x3 x5 t.1 t.2) u
noncomputable def f_Run_sendOthers_J11 (k : Nat) (M : Mem) (x1 : Int32) (x2 : Int32) (x3 : Int32) (x5 : Int32) (x6 : Int32) : Option (Mem) := bnd (f_Run_sendOthers_W11 k x1 x2 x3 x5 (x6, M)) (fun e11 => some e11)
noncomputable def f_Run_sendOthers (k : Nat) (M : Mem) (x1 : Int32) (x2 : Int32) (x3 : Int32) (x4 : Int32) : Option Mem := f_Run_sendOthers_J11 k M x1 x2 x3 (f_Chain_with x4 x2) (0 : Int32)
set_option maxHeartbeats 4000000 in
theorem wk_Run_sendOthers {l : Launch} {Z : WD} (hI : wI Z) (hZ : IsC Z) (k : Nat) (M : Mem) (x1 : Int32) (x2 : Int32) (x3 : Int32) (x4 : Int32) (hk : isRun k) {M' : Mem} {p : Program} {e : Env} {R : Room} {s : State} {m : MethodId} {args : Array Value} {below : List Frame} {meth : Method} {c : Code} {H : Heap} {locs : List Loc} {ls : Array Slot} {Q : State → Prop} (S : CallFix p m c b_Run_sendOthers 7 s args gtb R_Run) (hX : wX Z s) (hR : 2 ≤ R.frames ∧ 44 ≤ R.locals) (hQ : ∀ (pc : Nat) (H : Heap) (locs : List Loc) (ls : Array Slot), HW Z M' s H locs → decode b_Run_sendOthers pc = .ok (.return_, 1) → W p l e R s m args below meth c H locs 0 0 Q (F0 m pc ls [])) (hf0 : f_Run_sendOthers k M x1 x2 x3 x4 = some M') (hH : HW Z M s H locs) (hl : lv_has ls 7 [(0, .ref (Z.2.2.1 k)), (1, .int x1), (2, .int x2), (3, .int x3), (4, .int x4)]) : W p l e R s m args below meth c H locs 0 0 Q (F0 m 0 ls []) := by
  have hx := S.1
  have hb := S.2.1
  have hown := S.2.2.2.1
  have ht := S.2.2.2.2
  unfold f_Run_sendOthers at hf0
  have J11 : ∀ (M : Mem) (x1 : Int32) (x2 : Int32) (x3 : Int32) (x5 : Int32) (x6 : Int32) (H : Heap) (locs : List Loc) (ls : Array Slot), f_Run_sendOthers_J11 k M x1 x2 x3 x5 x6 = some M' → HW Z M s H locs → lv_has ls 7 [(0, .ref (Z.2.2.1 k)), (1, .int x1), (2, .int x2), (3, .int x3), (5, .int x5), (6, .int x6)] → W p l e R s m args below meth c H locs 0 0 Q (F0 m 11 ls []) := by
    intro M x1 x2 x3 x5 x6 H locs ls hf0 hH hl
    unfold f_Run_sendOthers_J11 at hf0
    obtain ⟨e11, he11, hf0⟩ := o_b hf0
    unfold f_Run_sendOthers_W11 at he11
    refine loop_W (fun t => ∀ (H : Heap) (locs : List Loc) (ls : Array Slot), HW Z t.2 s H locs → lv_has ls 7 [(0, .ref (Z.2.2.1 k)), (1, .int x1), (2, .int x2), (3, .int x3), (5, .int x5), (6, .int t.1)] → W p l e R s m args below meth c H locs 0 0 Q (F0 m 11 ls [])) ?_ he11 H locs ls hH hl
    rintro ⟨x6, M⟩ o1 hf1 hG1 hR1 H locs ls hH hl
    replace hH : HW Z M s H locs := hH
    replace hl : lv_has ls 7 [(0, .ref (Z.2.2.1 k)), (1, .int x1), (2, .int x2), (3, .int x3), (5, .int x5), (6, .int x6)] := hl
    replace hf1 : f_Run_sendOthers_L11 k x1 x2 x3 x5 x6 M = some o1 := hf1
    unfold f_Run_sendOthers_L11 at hf1
    refine lv_iload hx hb d_Run_sendOthers_11 (lv_at hl 5 rfl) ?_
    refine lv_aload_n hx hb d_Run_sendOthers_13 rfl (lv_at hl 0 rfl) ?_
    refine g_Run_47 S hX hH hZ hk d_Run_sendOthers_14 ?_
    refine g_Run_133 S hX hH hZ isPlay_0 d_Run_sendOthers_17 ?_
    refine lv_icmp_ge (tgt := 49) hx hb d_Run_sendOthers_20 (by decide) (fun hc => ?_) (fun hc => ?_)
    · replace hf1 := o_t hc hf1
      obtain rfl := hR1 _ (o_v hf1).symm
      obtain rfl := o_v hf0
      exact hQ _ _ _ _ hH d_Run_sendOthers_49
    · replace hf1 := o_f hc hf1
      refine lv_iload hx hb d_Run_sendOthers_23 (lv_at hl 5 rfl) ?_
      refine lv_iload_n hx hb d_Run_sendOthers_25 rfl (lv_at hl 2 rfl) ?_
      refine lv_icmp_eq (tgt := 43) hx hb d_Run_sendOthers_26 (by decide) (fun hc => ?_) (fun hc => ?_)
      · replace hf1 := o_t hc hf1
        refine lv_iinc (v := x6 + (1 : Int32)) (lv' := [(6, .int (x6 + (1 : Int32))), (0, .ref (Z.2.2.1 k)), (1, .int x1), (2, .int x2), (3, .int x3), (5, .int x5)]) hx hb d_Run_sendOthers_43 hl (k := 5) rfl rfl (by decide) rfl (fun ls hl => ?_)
        refine lv_goto (tgt := 11) hx hb d_Run_sendOthers_46 (by decide) ?_
        exact hG1 _ (o_v hf1).symm _ _ _ hH (lv_sub hl [1, 2, 3, 4, 5, 0] rfl)
      · replace hf1 := o_f hc hf1
        refine lv_aload_n hx hb d_Run_sendOthers_29 rfl (lv_at hl 0 rfl) ?_
        refine lv_iload_n hx hb d_Run_sendOthers_30 rfl (lv_at hl 1 rfl) ?_
        refine lv_iload_n hx hb d_Run_sendOthers_31 rfl (lv_at hl 2 rfl) ?_
        refine lv_iload hx hb d_Run_sendOthers_32 (lv_at hl 5 rfl) ?_
        refine q_cSi (As := [.int x1, .int x2, .int x6]) (rest := [.ref (Z.2.2.1 k)]) S hX hH (c_Route_of l hI M x1 x2 x6 rfl) (cw_Run_143 S.2.2.2.2 (Nat.le_trans (Nat.le_of_ble_eq_true rfl) hR.1) (Nat.le_trans (Nat.le_of_ble_eq_true rfl) hR.2)) rfl hl.1 rfl (Nat.le_of_ble_eq_true rfl) d_Run_sendOthers_34 ⟨Nat.zero_le _, Nat.zero_le _⟩ (fun H locs hH => ?_)
        refine lv_iload_n hx hb d_Run_sendOthers_37 rfl (lv_at hl 3 rfl) ?_
        refine lv_iload hx hb d_Run_sendOthers_38 (lv_at hl 4 rfl) ?_
        obtain ⟨M2, hc1, hf1⟩ := o_b hf1
        refine q_cVv (As := [.int (f_Route_of x1 x2 x6), .int x3, .int x5]) (rest := []) S hX hH (c_Run_post l hI hZ k M (f_Route_of x1 x2 x6) x3 x5 hk hc1) (cw_Run_146 S.2.2.2.2 (Nat.le_trans (Nat.le_of_ble_eq_true rfl) hR.1) (Nat.le_trans (Nat.le_of_ble_eq_true rfl) hR.2)) (rc_Run hX hH hZ hk) rfl hl.1 rfl (Nat.le_of_ble_eq_true rfl) d_Run_sendOthers_40 ⟨Nat.zero_le _, Nat.zero_le _⟩ (fun H locs hH => ?_)
        refine lv_iinc (v := x6 + (1 : Int32)) (lv' := [(6, .int (x6 + (1 : Int32))), (0, .ref (Z.2.2.1 k)), (1, .int x1), (2, .int x2), (3, .int x3), (5, .int x5)]) hx hb d_Run_sendOthers_43 hl (k := 5) rfl rfl (by decide) rfl (fun ls hl => ?_)
        refine lv_goto (tgt := 11) hx hb d_Run_sendOthers_46 (by decide) ?_
        exact hG1 _ (o_v hf1).symm _ _ _ hH (lv_sub hl [1, 2, 3, 4, 5, 0] rfl)
  refine lv_iload hx hb d_Run_sendOthers_0 (lv_at hl 4 rfl) ?_
  refine lv_iload_n hx hb d_Run_sendOthers_2 rfl (lv_at hl 2 rfl) ?_
  refine q_cSi (As := [.int x4, .int x2]) (rest := []) S hX hH (c_Chain_with l hI M x4 x2 rfl) (cw_Run_140 S.2.2.2.2 (Nat.le_trans (Nat.le_of_ble_eq_true rfl) hR.1) (Nat.le_trans (Nat.le_of_ble_eq_true rfl) hR.2)) rfl hl.1 rfl (Nat.le_of_ble_eq_true rfl) d_Run_sendOthers_3 ⟨Nat.zero_le _, Nat.zero_le _⟩ (fun H locs hH => ?_)
  refine lv_istore (lv' := [(5, .int (f_Chain_with x4 x2)), (0, .ref (Z.2.2.1 k)), (1, .int x1), (2, .int x2), (3, .int x3), (4, .int x4)]) hx hb d_Run_sendOthers_6 hl (by decide) rfl (fun ls hl => ?_)
  refine lv_iconst (v := (0 : Int32)) hx hb d_Run_sendOthers_8 (by decide) ?_
  refine lv_istore (lv' := [(6, .int (0 : Int32)), (5, .int (f_Chain_with x4 x2)), (0, .ref (Z.2.2.1 k)), (1, .int x1), (2, .int x2), (3, .int x3), (4, .int x4)]) hx hb d_Run_sendOthers_9 hl (by decide) rfl (fun ls hl => ?_)
  exact J11 _ _ _ _ _ _ _ _ _ hf0 hH (lv_sub hl [2, 3, 4, 5, 1, 0] rfl)
theorem c_Run_sendOthers (l : Launch) {Z : WD} (hI : wI Z) (hZ : IsC Z) (k : Nat) (M : Mem) (x1 : Int32) (x2 : Int32) (x3 : Int32) (x4 : Int32) (hk : isRun k) {M' : Mem} (hf : f_Run_sendOthers k M x1 x2 x3 x4 = some M') : Cv l Z y_Run_sendOthers b_Run_sendOthers 7 none 2 44 [.ref (Z.2.2.1 k), .int x1, .int x2, .int x3, .int x4] M M' := by
  refine Met.ofW (cc := b_Run_sendOthers) (maxL := 7) (ret := none) (by decide) rfl ?_
  intro p e s m args below meth c s₁ B hml hv
  obtain ⟨rfl, hP, hX⟩ := hv
  have S : CallFix p m c b_Run_sendOthers 7 s ([.ref (Z.2.2.1 k), .int x1, .int x2, .int x3, .int x4] : List Value).toArray gtb R_Run := ⟨B.exec, B.bytes, hml, findClass_of_methodNamed B.named, fun w hw => atoms_spec (ws := .code y_Run_sendOthers b_Run_sendOthers 7 none :: gtb) B.pre w (List.mem_cons_of_mem _ hw)⟩
  have hl := lv_entry ([.ref (Z.2.2.1 k), .int x1, .int x2, .int x3, .int x4]) (n := 7) (Nat.le_of_ble_eq_true rfl)
  rw [lg_entry_eq]
  exact wk_Run_sendOthers hI hZ k M x1 x2 x3 x4 hk S hX ⟨Nat.le_refl _, Nat.le_refl _⟩ (fun pc H locs ls hH d => q_rv S.1 S.2.1 B.returns B.notSynchronized hH rfl d) hf ⟨hP, va_S.rf⟩ hl
theorem cw_Run_129 {R : Room} {s : State} {args : Array Value} (ht : ∀ w ∈ gtb, w.before args s = true) (h1 : 2 + 1 ≤ R.frames) (h2 : 8 + (7 + 11) + 44 ≤ R.locals) : CallW R s args R_Run R_Run 129 y_Run_sendOthers b_Run_sendOthers 7 none (.code y_Run_sendOthers b_Run_sendOthers 7 none :: gtb) { frames := 2, cells := 0, slots := 0, locals := 44 } 0 0 4 := cwV 4 ht (gV w2_0 w2_2 ws_Run_sendOthers w1_4 w2_3) rfl rfl rfl ⟨rfl, by decide, by decide, by decide +kernel⟩ ⟨h1, h2⟩
noncomputable def f_Run_sendFirst (k : Nat) (M : Mem) : Option Mem := 
    if (bI (f_Play_isHonest 0 M (M 1 0))) = 0 then some M else bnd (f_Run_sendOthers k M (1 : Int32) (M 1 0) (M 1 1) (0 : Int32)) (fun M2 => some M2)
set_option maxHeartbeats 4000000 in
theorem wk_Run_sendFirst {l : Launch} {Z : WD} (hI : wI Z) (hZ : IsC Z) (k : Nat) (M : Mem) (hk : isRun k) {M' : Mem} {p : Program} {e : Env} {R : Room} {s : State} {m : MethodId} {args : Array Value} {below : List Frame} {meth : Method} {c : Code} {H : Heap} {locs : List Loc} {ls : Array Slot} {Q : State → Prop} (S : CallFix p m c b_Run_sendFirst 2 s args gtb R_Run) (hX : wX Z s) (hR : 3 ≤ R.frames ∧ 70 ≤ R.locals) (hQ : ∀ (pc : Nat) (H : Heap) (locs : List Loc) (ls : Array Slot), HW Z M' s H locs → decode b_Run_sendFirst pc = .ok (.return_, 1) → W p l e R s m args below meth c H locs 0 0 Q (F0 m pc ls [])) (hf0 : f_Run_sendFirst k M = some M') (hH : HW Z M s H locs) (hl : lv_has ls 2 [(0, .ref (Z.2.2.1 k))]) : W p l e R s m args below meth c H locs 0 0 Q (F0 m 0 ls []) := by
  have hx := S.1
  have hb := S.2.1
  have hown := S.2.2.2.1
  have ht := S.2.2.2.2
  unfold f_Run_sendFirst at hf0
  refine lv_aload_n hx hb d_Run_sendFirst_0 rfl (lv_at hl 0 rfl) ?_
  refine g_Run_47 S hX hH hZ hk d_Run_sendFirst_1 ?_
  refine g_Run_51 S hX hH hZ isPlay_0 d_Run_sendFirst_4 ?_
  refine lv_iconst (v := (0 : Int32)) hx hb d_Run_sendFirst_7 (by decide) ?_
  refine q_iald (j := 0) hx hb hX hH (aa_Play_1 hZ isPlay_0) (vp_c (by decide)) (by decide) d_Run_sendFirst_8 ?_
  refine lv_istore_n (lv' := [(1, .int (M 1 0)), (0, .ref (Z.2.2.1 k))]) hx hb d_Run_sendFirst_9 rfl hl (by decide) rfl (fun ls hl => ?_)
  refine lv_aload_n hx hb d_Run_sendFirst_10 rfl (lv_at hl 1 rfl) ?_
  refine g_Run_47 S hX hH hZ hk d_Run_sendFirst_11 ?_
  refine lv_iload_n hx hb d_Run_sendFirst_14 rfl (lv_at hl 0 rfl) ?_
  refine q_cVi (As := [.int (M 1 0)]) (rest := []) S hX hH (c_Play_isHonest l hI hZ 0 M (M 1 0) isPlay_0 rfl) (cw_Run_122 S.2.2.2.2 (Nat.le_trans (Nat.le_of_ble_eq_true rfl) hR.1) (Nat.le_trans (Nat.le_of_ble_eq_true rfl) hR.2)) (rc_Play hX hH hZ isPlay_0) rfl hl.1 rfl (Nat.le_of_ble_eq_true rfl) d_Run_sendFirst_15 ⟨Nat.zero_le _, Nat.zero_le _⟩ (fun H locs hH => ?_)
  refine lv_if_eq (tgt := 37) hx hb d_Run_sendFirst_18 (by decide) (fun hc => ?_) (fun hc => ?_)
  · replace hf0 := o_t hc hf0
    obtain rfl := o_v hf0
    exact hQ _ _ _ _ hH d_Run_sendFirst_37
  · replace hf0 := o_f hc hf0
    refine lv_aload_n hx hb d_Run_sendFirst_21 rfl (lv_at hl 1 rfl) ?_
    refine lv_iconst (v := (1 : Int32)) hx hb d_Run_sendFirst_22 (by decide) ?_
    refine lv_iload_n hx hb d_Run_sendFirst_23 rfl (lv_at hl 0 rfl) ?_
    refine lv_aload_n hx hb d_Run_sendFirst_24 rfl (lv_at hl 1 rfl) ?_
    refine g_Run_47 S hX hH hZ hk d_Run_sendFirst_25 ?_
    refine g_Run_51 S hX hH hZ isPlay_0 d_Run_sendFirst_28 ?_
    refine lv_iconst (v := (1 : Int32)) hx hb d_Run_sendFirst_31 (by decide) ?_
    refine q_iald (j := 1) hx hb hX hH (aa_Play_1 hZ isPlay_0) (vp_c (by decide)) (by decide) d_Run_sendFirst_32 ?_
    refine lv_iconst (v := (0 : Int32)) hx hb d_Run_sendFirst_33 (by decide) ?_
    obtain ⟨M2, hc1, hf0⟩ := o_b hf0
    refine q_cVv (As := [.int (1 : Int32), .int (M 1 0), .int (M 1 1), .int (0 : Int32)]) (rest := []) S hX hH (c_Run_sendOthers l hI hZ k M (1 : Int32) (M 1 0) (M 1 1) (0 : Int32) hk hc1) (cw_Run_129 S.2.2.2.2 (Nat.le_trans (Nat.le_of_ble_eq_true rfl) hR.1) (Nat.le_trans (Nat.le_of_ble_eq_true rfl) hR.2)) (rc_Run hX hH hZ hk) rfl hl.1 rfl (Nat.le_of_ble_eq_true rfl) d_Run_sendFirst_34 ⟨Nat.zero_le _, Nat.zero_le _⟩ (fun H locs hH => ?_)
    obtain rfl := o_v hf0
    exact hQ _ _ _ _ hH d_Run_sendFirst_37
theorem c_Run_sendFirst (l : Launch) {Z : WD} (hI : wI Z) (hZ : IsC Z) (k : Nat) (M : Mem) (hk : isRun k) {M' : Mem} (hf : f_Run_sendFirst k M = some M') : Cv l Z y_Run_sendFirst b_Run_sendFirst 2 none 3 70 [.ref (Z.2.2.1 k)] M M' := by
  refine Met.ofW (cc := b_Run_sendFirst) (maxL := 2) (ret := none) (by decide) rfl ?_
  intro p e s m args below meth c s₁ B hml hv
  obtain ⟨rfl, hP, hX⟩ := hv
  have S : CallFix p m c b_Run_sendFirst 2 s ([.ref (Z.2.2.1 k)] : List Value).toArray gtb R_Run := ⟨B.exec, B.bytes, hml, findClass_of_methodNamed B.named, fun w hw => atoms_spec (ws := .code y_Run_sendFirst b_Run_sendFirst 2 none :: gtb) B.pre w (List.mem_cons_of_mem _ hw)⟩
  have hl := lv_entry ([.ref (Z.2.2.1 k)]) (n := 2) (Nat.le_of_ble_eq_true rfl)
  rw [lg_entry_eq]
  exact wk_Run_sendFirst hI hZ k M hk S hX ⟨Nat.le_refl _, Nat.le_refl _⟩ (fun pc H locs ls hH d => q_rv S.1 S.2.1 B.returns B.notSynchronized hH rfl d) hf ⟨hP, va_S.rf⟩ hl
noncomputable def f_Run_relays_J61 (k : Nat) (M : Mem) (x1 : Int32) (x2 : Int32) (x3 : Int32) (x4 : Int32) (x5 : Int32) : Option ((Int32 × Int32) ⊕ Int32) := some (.inl (x4 + (1 : Int32), x5 + (1 : Int32)))
noncomputable def f_Run_relays_L24 (k : Nat) (M : Mem) (x1 : Int32) (x2 : Int32) (x3 : Int32) (x4 : Int32) (x5 : Int32) : Option ((Int32 × Int32) ⊕ Int32) := if (4 : Int32) ≤ x5 then some (.inr x4) else 
    gIn (f_MC_cellOf x1 x5) 32 (if (M (k + 7) (f_MC_cellOf x1 x5).toNatClampNeg) < x3 then f_Run_relays_J61 k M x1 x2 x3 x4 x5 else 
    if (M (k + 7) (f_MC_cellOf x1 x5).toNatClampNeg) = x3 then if x2 ≤ x5 then some (.inl (x4, x5 + (1 : Int32))) else f_Run_relays_J61 k M x1 x2 x3 x4 x5 else some (.inl (x4, x5 + (1 : Int32))))
noncomputable def f_Run_relays_W24 (k : Nat) (M : Mem) (x1 : Int32) (x2 : Int32) (x3 : Int32) (u : (Int32 × Int32)) : Option Int32 := loop (fun t => f_Run_relays_L24 k M x1 x2 x3 t.1 t.2) u
noncomputable def f_Run_relays_J24 (k : Nat) (M : Mem) (x1 : Int32) (x2 : Int32) (x3 : Int32) (x4 : Int32) (x5 : Int32) : Option (Bool) := bnd (f_Run_relays_W24 k M x1 x2 x3 (x4, x5)) (fun e24 => if (M 1 4) ≤ e24 then some false else some true)
noncomputable def f_Run_relays (k : Nat) (M : Mem) (x1 : Int32) (x2 : Int32) : Option Bool := 
    gIn (f_MC_cellOf x1 x2) 32 (if (1 : Int32) ≤ (M (k + 7) (f_MC_cellOf x1 x2).toNatClampNeg) then f_Run_relays_J24 k M x1 x2 (M (k + 7) (f_MC_cellOf x1 x2).toNatClampNeg) (0 : Int32) (0 : Int32) else some false)
set_option maxHeartbeats 4000000 in
theorem wk_Run_relays {l : Launch} {Z : WD} (hI : wI Z) (hZ : IsC Z) (k : Nat) (M : Mem) (x1 : Int32) (x2 : Int32) (hk : isRun k) {r : Bool} {p : Program} {e : Env} {R : Room} {s : State} {m : MethodId} {args : Array Value} {below : List Frame} {meth : Method} {c : Code} {H : Heap} {locs : List Loc} {ls : Array Slot} {Q : State → Prop} (S : CallFix p m c b_Run_relays 7 s args gtb R_Run) (hX : wX Z s) (hR : 1 ≤ R.frames ∧ 21 ≤ R.locals) (hQ : ∀ (pc : Nat) (H : Heap) (locs : List Loc) (ls : Array Slot), HW Z M s H locs → decode b_Run_relays pc = .ok (.ireturn, 1) → W p l e R s m args below meth c H locs 0 0 Q (F0 m pc ls [.int (bI r)])) (hf0 : f_Run_relays k M x1 x2 = some r) (hH : HW Z M s H locs) (hl : lv_has ls 7 [(0, .ref (Z.2.2.1 k)), (1, .int x1), (2, .int x2)]) : W p l e R s m args below meth c H locs 0 0 Q (F0 m 0 ls []) := by
  have hx := S.1
  have hb := S.2.1
  have hown := S.2.2.2.1
  have ht := S.2.2.2.2
  unfold f_Run_relays at hf0
  have J24 : ∀ (x1 : Int32) (x2 : Int32) (x3 : Int32) (x4 : Int32) (x5 : Int32) (H : Heap) (locs : List Loc) (ls : Array Slot), f_Run_relays_J24 k M x1 x2 x3 x4 x5 = some r → HW Z M s H locs → lv_has ls 7 [(0, .ref (Z.2.2.1 k)), (1, .int x1), (2, .int x2), (3, .int x3), (4, .int x4), (5, .int x5)] → W p l e R s m args below meth c H locs 0 0 Q (F0 m 24 ls []) := by
    intro x1 x2 x3 x4 x5 H locs ls hf0 hH hl
    unfold f_Run_relays_J24 at hf0
    obtain ⟨e24, he24, hf0⟩ := o_b hf0
    have KX24 : ∀ (H : Heap) (locs : List Loc) (ls : Array Slot), HW Z M s H locs → lv_has ls 7 [(0, .ref (Z.2.2.1 k)), (4, .int e24)] → W p l e R s m args below meth c H locs 0 0 Q (F0 m 70 ls []) := by
      intro H locs ls hH hl
      refine lv_iload hx hb d_Run_relays_70 (lv_at hl 1 rfl) ?_
      refine lv_aload_n hx hb d_Run_relays_72 rfl (lv_at hl 0 rfl) ?_
      refine g_Run_47 S hX hH hZ hk d_Run_relays_73 ?_
      refine g_Run_51 S hX hH hZ isPlay_0 d_Run_relays_76 ?_
      refine lv_iconst (v := (4 : Int32)) hx hb d_Run_relays_79 (by decide) ?_
      refine q_iald (j := 4) hx hb hX hH (aa_Play_1 hZ isPlay_0) (vp_c (by decide)) (by decide) d_Run_relays_80 ?_
      refine lv_icmp_ge (tgt := 88) hx hb d_Run_relays_81 (by decide) (fun hc => ?_) (fun hc => ?_)
      · replace hf0 := o_t hc hf0
        refine lv_iconst (v := (0 : Int32)) hx hb d_Run_relays_88 (by decide) ?_
        obtain rfl := o_v hf0
        exact hQ _ _ _ _ hH d_Run_relays_89
      · replace hf0 := o_f hc hf0
        refine lv_iconst (v := (1 : Int32)) hx hb d_Run_relays_84 (by decide) ?_
        refine lv_goto (tgt := 89) hx hb d_Run_relays_85 (by decide) ?_
        obtain rfl := o_v hf0
        exact hQ _ _ _ _ hH d_Run_relays_89
    unfold f_Run_relays_W24 at he24
    refine loop_W (fun t => ∀ (H : Heap) (locs : List Loc) (ls : Array Slot), HW Z M s H locs → lv_has ls 7 [(0, .ref (Z.2.2.1 k)), (1, .int x1), (2, .int x2), (3, .int x3), (4, .int t.1), (5, .int t.2)] → W p l e R s m args below meth c H locs 0 0 Q (F0 m 24 ls [])) ?_ he24 H locs ls hH hl
    rintro ⟨x4, x5⟩ o1 hf1 hG1 hR1 H locs ls hH hl
    replace hH : HW Z M s H locs := hH
    replace hl : lv_has ls 7 [(0, .ref (Z.2.2.1 k)), (1, .int x1), (2, .int x2), (3, .int x3), (4, .int x4), (5, .int x5)] := hl
    replace hf1 : f_Run_relays_L24 k M x1 x2 x3 x4 x5 = some o1 := hf1
    unfold f_Run_relays_L24 at hf1
    have J61 : ∀ (x4 : Int32) (x5 : Int32) (H : Heap) (locs : List Loc) (ls : Array Slot), f_Run_relays_J61 k M x1 x2 x3 x4 x5 = some o1 → HW Z M s H locs → lv_has ls 7 [(0, .ref (Z.2.2.1 k)), (1, .int x1), (2, .int x2), (3, .int x3), (4, .int x4), (5, .int x5)] → W p l e R s m args below meth c H locs 0 0 Q (F0 m 61 ls []) := by
      intro x4 x5 H locs ls hf1 hH hl
      unfold f_Run_relays_J61 at hf1
      refine lv_iinc (v := x4 + (1 : Int32)) (lv' := [(4, .int (x4 + (1 : Int32))), (0, .ref (Z.2.2.1 k)), (1, .int x1), (2, .int x2), (3, .int x3), (5, .int x5)]) hx hb d_Run_relays_61 hl (k := 4) rfl rfl (by decide) rfl (fun ls hl => ?_)
      refine lv_iinc (v := x5 + (1 : Int32)) (lv' := [(5, .int (x5 + (1 : Int32))), (4, .int (x4 + (1 : Int32))), (0, .ref (Z.2.2.1 k)), (1, .int x1), (2, .int x2), (3, .int x3)]) hx hb d_Run_relays_64 hl (k := 5) rfl rfl (by decide) rfl (fun ls hl => ?_)
      refine lv_goto (tgt := 24) hx hb d_Run_relays_67 (by decide) ?_
      exact hG1 _ (o_v hf1).symm _ _ _ hH (lv_sub hl [2, 3, 4, 5, 1, 0] rfl)
    refine lv_iload hx hb d_Run_relays_24 (lv_at hl 5 rfl) ?_
    refine lv_iconst (v := (4 : Int32)) hx hb d_Run_relays_26 (by decide) ?_
    refine lv_icmp_ge (tgt := 70) hx hb d_Run_relays_27 (by decide) (fun hc => ?_) (fun hc => ?_)
    · replace hf1 := o_t hc hf1
      obtain rfl := hR1 _ (o_v hf1).symm
      exact KX24 _ _ _ hH (lv_sub hl [0, 4] rfl)
    · replace hf1 := o_f hc hf1
      refine lv_aload_n hx hb d_Run_relays_30 rfl (lv_at hl 0 rfl) ?_
      refine g_Run_32 S hX hH hZ hk d_Run_relays_31 ?_
      refine lv_iload_n hx hb d_Run_relays_34 rfl (lv_at hl 1 rfl) ?_
      refine lv_iload hx hb d_Run_relays_35 (lv_at hl 5 rfl) ?_
      refine q_cNi (As := [.int x1, .int x5]) (rest := [.ref (Z.2.2.1 (k + 7))]) S hX hH (c_MC_cellOf l hI M x1 x5 rfl) (cw_Run_125 S.2.2.2.2 hX.2.1 (Nat.le_trans (Nat.le_of_ble_eq_true rfl) hR.1) (Nat.le_trans (Nat.le_of_ble_eq_true rfl) hR.2)) rfl hl.1 rfl (Nat.le_of_ble_eq_true rfl) d_Run_relays_37 ⟨Nat.zero_le _, Nat.zero_le _⟩ (fun H locs hH => ?_)
      obtain ⟨hn1, hf1⟩ := o_in hf1
      refine q_iald (j := (f_MC_cellOf x1 x5).toNatClampNeg) hx hb hX hH (aa_Run_7 hZ hk) hn1 rfl d_Run_relays_40 ?_
      refine lv_istore (lv' := [(6, .int (M (k + 7) (f_MC_cellOf x1 x5).toNatClampNeg)), (0, .ref (Z.2.2.1 k)), (1, .int x1), (2, .int x2), (3, .int x3), (4, .int x4), (5, .int x5)]) hx hb d_Run_relays_41 hl (by decide) rfl (fun ls hl => ?_)
      refine lv_iload hx hb d_Run_relays_43 (lv_at hl 0 rfl) ?_
      refine lv_iload_n hx hb d_Run_relays_45 rfl (lv_at hl 4 rfl) ?_
      refine lv_icmp_lt (tgt := 61) hx hb d_Run_relays_46 (by decide) (fun hc => ?_) (fun hc => ?_)
      · replace hf1 := o_t hc hf1
        exact J61 _ _ _ _ _ hf1 hH (lv_sub hl [1, 2, 3, 4, 5, 6] rfl)
      · replace hf1 := o_f hc hf1
        refine lv_iload hx hb d_Run_relays_49 (lv_at hl 0 rfl) ?_
        refine lv_iload_n hx hb d_Run_relays_51 rfl (lv_at hl 4 rfl) ?_
        refine lv_icmp_ne (tgt := 64) hx hb d_Run_relays_52 (by decide) (fun hc => ?_) (fun hc => ?_)
        · replace hf1 := o_f hc hf1
          refine lv_iinc (v := x5 + (1 : Int32)) (lv' := [(5, .int (x5 + (1 : Int32))), (6, .int (M (k + 7) (f_MC_cellOf x1 x5).toNatClampNeg)), (0, .ref (Z.2.2.1 k)), (1, .int x1), (2, .int x2), (3, .int x3), (4, .int x4)]) hx hb d_Run_relays_64 hl (k := 6) rfl rfl (by decide) rfl (fun ls hl => ?_)
          refine lv_goto (tgt := 24) hx hb d_Run_relays_67 (by decide) ?_
          exact hG1 _ (o_v hf1).symm _ _ _ hH (lv_sub hl [2, 3, 4, 5, 6, 0] rfl)
        · replace hf1 := o_t hc hf1
          refine lv_iload hx hb d_Run_relays_55 (lv_at hl 6 rfl) ?_
          refine lv_iload_n hx hb d_Run_relays_57 rfl (lv_at hl 3 rfl) ?_
          refine lv_icmp_ge (tgt := 64) hx hb d_Run_relays_58 (by decide) (fun hc => ?_) (fun hc => ?_)
          · replace hf1 := o_t hc hf1
            refine lv_iinc (v := x5 + (1 : Int32)) (lv' := [(5, .int (x5 + (1 : Int32))), (6, .int (M (k + 7) (f_MC_cellOf x1 x5).toNatClampNeg)), (0, .ref (Z.2.2.1 k)), (1, .int x1), (2, .int x2), (3, .int x3), (4, .int x4)]) hx hb d_Run_relays_64 hl (k := 6) rfl rfl (by decide) rfl (fun ls hl => ?_)
            refine lv_goto (tgt := 24) hx hb d_Run_relays_67 (by decide) ?_
            exact hG1 _ (o_v hf1).symm _ _ _ hH (lv_sub hl [2, 3, 4, 5, 6, 0] rfl)
          · replace hf1 := o_f hc hf1
            exact J61 _ _ _ _ _ hf1 hH (lv_sub hl [1, 2, 3, 4, 5, 6] rfl)
  refine lv_aload_n hx hb d_Run_relays_0 rfl (lv_at hl 0 rfl) ?_
  refine g_Run_32 S hX hH hZ hk d_Run_relays_1 ?_
  refine lv_iload_n hx hb d_Run_relays_4 rfl (lv_at hl 1 rfl) ?_
  refine lv_iload_n hx hb d_Run_relays_5 rfl (lv_at hl 2 rfl) ?_
  refine q_cNi (As := [.int x1, .int x2]) (rest := [.ref (Z.2.2.1 (k + 7))]) S hX hH (c_MC_cellOf l hI M x1 x2 rfl) (cw_Run_125 S.2.2.2.2 hX.2.1 (Nat.le_trans (Nat.le_of_ble_eq_true rfl) hR.1) (Nat.le_trans (Nat.le_of_ble_eq_true rfl) hR.2)) rfl hl.1 rfl (Nat.le_of_ble_eq_true rfl) d_Run_relays_6 ⟨Nat.zero_le _, Nat.zero_le _⟩ (fun H locs hH => ?_)
  obtain ⟨hn2, hf0⟩ := o_in hf0
  refine q_iald (j := (f_MC_cellOf x1 x2).toNatClampNeg) hx hb hX hH (aa_Run_7 hZ hk) hn2 rfl d_Run_relays_9 ?_
  refine lv_istore_n (lv' := [(3, .int (M (k + 7) (f_MC_cellOf x1 x2).toNatClampNeg)), (0, .ref (Z.2.2.1 k)), (1, .int x1), (2, .int x2)]) hx hb d_Run_relays_10 rfl hl (by decide) rfl (fun ls hl => ?_)
  refine lv_iload_n hx hb d_Run_relays_11 rfl (lv_at hl 0 rfl) ?_
  refine lv_iconst (v := (1 : Int32)) hx hb d_Run_relays_12 (by decide) ?_
  refine lv_icmp_ge (tgt := 18) hx hb d_Run_relays_13 (by decide) (fun hc => ?_) (fun hc => ?_)
  · replace hf0 := o_t hc hf0
    refine lv_iconst (v := (0 : Int32)) hx hb d_Run_relays_18 (by decide) ?_
    refine lv_istore (lv' := [(4, .int (0 : Int32)), (3, .int (M (k + 7) (f_MC_cellOf x1 x2).toNatClampNeg)), (0, .ref (Z.2.2.1 k)), (1, .int x1), (2, .int x2)]) hx hb d_Run_relays_19 hl (by decide) rfl (fun ls hl => ?_)
    refine lv_iconst (v := (0 : Int32)) hx hb d_Run_relays_21 (by decide) ?_
    refine lv_istore (lv' := [(5, .int (0 : Int32)), (4, .int (0 : Int32)), (3, .int (M (k + 7) (f_MC_cellOf x1 x2).toNatClampNeg)), (0, .ref (Z.2.2.1 k)), (1, .int x1), (2, .int x2)]) hx hb d_Run_relays_22 hl (by decide) rfl (fun ls hl => ?_)
    exact J24 _ _ _ _ _ _ _ _ hf0 hH (lv_sub hl [3, 4, 5, 2, 1, 0] rfl)
  · replace hf0 := o_f hc hf0
    refine lv_iconst (v := (0 : Int32)) hx hb d_Run_relays_16 (by decide) ?_
    obtain rfl := o_v hf0
    exact hQ _ _ _ _ hH d_Run_relays_17
theorem c_Run_relays (l : Launch) {Z : WD} (hI : wI Z) (hZ : IsC Z) (k : Nat) (M : Mem) (x1 : Int32) (x2 : Int32) (hk : isRun k) {r : Bool} (hf : f_Run_relays k M x1 x2 = some r) : Ci l Z y_Run_relays b_Run_relays 7 (some .boolean) 1 21 [.ref (Z.2.2.1 k), .int x1, .int x2] M M (bI r) := by
  refine Met.ofW (cc := b_Run_relays) (maxL := 7) (ret := (some .boolean)) (by decide) rfl ?_
  intro p e s m args below meth c s₁ B hml hv
  obtain ⟨rfl, hP, hX⟩ := hv
  have S : CallFix p m c b_Run_relays 7 s ([.ref (Z.2.2.1 k), .int x1, .int x2] : List Value).toArray gtb R_Run := ⟨B.exec, B.bytes, hml, findClass_of_methodNamed B.named, fun w hw => atoms_spec (ws := .code y_Run_relays b_Run_relays 7 (some .boolean) :: gtb) B.pre w (List.mem_cons_of_mem _ hw)⟩
  have hl := lv_entry ([.ref (Z.2.2.1 k), .int x1, .int x2]) (n := 7) (Nat.le_of_ble_eq_true rfl)
  rw [lg_entry_eq]
  exact wk_Run_relays hI hZ k M x1 x2 hk S hX ⟨Nat.le_refl _, Nat.le_refl _⟩ (fun pc H locs ls hH d => q_rz S.1 S.2.1 B.returns B.notSynchronized hH rfl rfl d) hf ⟨hP, va_S.rf⟩ hl
theorem cw_Run_136 {R : Room} {s : State} {args : Array Value} (ht : ∀ w ∈ gtb, w.before args s = true) (h1 : 1 + 1 ≤ R.frames) (h2 : 8 + (7 + 11) + 21 ≤ R.locals) : CallW R s args R_Run R_Run 136 y_Run_relays b_Run_relays 7 (some .boolean) (.code y_Run_relays b_Run_relays 7 (some .boolean) :: gtb) { frames := 1, cells := 0, slots := 0, locals := 21 } 0 0 2 := cwV 2 ht (gV w2_24 w2_25 w2_26 w1_4 w2_27) rfl rfl rfl ⟨rfl, by decide, by decide, by decide +kernel⟩ ⟨h1, h2⟩
noncomputable def f_Run_relayAll_L15 (k : Nat) (x1 : Int32) (x2 : Int32) (x3 : Int32) (M : Mem) : Option ((Int32 × Mem) ⊕ Mem) := if (4 : Int32) ≤ x3 then some (.inr M) else 
    gIn (f_MC_cellOf x2 x3) 32 (if (M (k + 7) (f_MC_cellOf x2 x3).toNatClampNeg) = (x1 - (1 : Int32)) then 
    bnd (f_Run_relays k M x2 x3) (fun y3 => 
    if (bI y3) = 0 then some (.inl (x3 + (1 : Int32), M)) else 
    bnd (f_Run_sendOthers k M x1 x2 x3 (M (k + 9) (f_MC_cellOf x2 x3).toNatClampNeg)) (fun M5 => some (.inl (x3 + (1 : Int32), M5)))) else some (.inl (x3 + (1 : Int32), M)))
noncomputable def f_Run_relayAll_W15 (k : Nat) (x1 : Int32) (x2 : Int32) (u : (Int32 × Mem)) : Option Mem := loop (fun t => f_Run_relayAll_L15 k x1 x2 t.1 t.2) u
noncomputable def f_Run_relayAll_J15 (k : Nat) (M : Mem) (x1 : Int32) (x2 : Int32) (x3 : Int32) : Option ((Int32 × Mem) ⊕ Mem) := bnd (f_Run_relayAll_W15 k x1 x2 (x3, M)) (fun e15 => some (.inl (x2 + (1 : Int32), e15)))
noncomputable def f_Run_relayAll_L2 (k : Nat) (x1 : Int32) (x2 : Int32) (M : Mem) : Option ((Int32 × Mem) ⊕ Mem) := if (M 0 0) ≤ x2 then some (.inr M) else f_Run_relayAll_J15 k M x1 x2 (0 : Int32)
noncomputable def f_Run_relayAll_W2 (k : Nat) (x1 : Int32) (u : (Int32 × Mem)) : Option Mem := loop (fun t => f_Run_relayAll_L2 k x1 t.1 t.2) u
noncomputable def f_Run_relayAll_J2 (k : Nat) (M : Mem) (x1 : Int32) (x2 : Int32) : Option (Mem) := bnd (f_Run_relayAll_W2 k x1 (x2, M)) (fun e2 => some e2)
noncomputable def f_Run_relayAll (k : Nat) (M : Mem) (x1 : Int32) : Option Mem := f_Run_relayAll_J2 k M x1 (0 : Int32)
set_option maxHeartbeats 4000000 in
theorem wk_Run_relayAll {l : Launch} {Z : WD} (hI : wI Z) (hZ : IsC Z) (k : Nat) (M : Mem) (x1 : Int32) (hk : isRun k) {M' : Mem} {p : Program} {e : Env} {R : Room} {s : State} {m : MethodId} {args : Array Value} {below : List Frame} {meth : Method} {c : Code} {H : Heap} {locs : List Loc} {ls : Array Slot} {Q : State → Prop} (S : CallFix p m c b_Run_relayAll 5 s args gtb R_Run) (hX : wX Z s) (hR : 3 ≤ R.frames ∧ 70 ≤ R.locals) (hQ : ∀ (pc : Nat) (H : Heap) (locs : List Loc) (ls : Array Slot), HW Z M' s H locs → decode b_Run_relayAll pc = .ok (.return_, 1) → W p l e R s m args below meth c H locs 0 0 Q (F0 m pc ls [])) (hf0 : f_Run_relayAll k M x1 = some M') (hH : HW Z M s H locs) (hl : lv_has ls 5 [(0, .ref (Z.2.2.1 k)), (1, .int x1)]) : W p l e R s m args below meth c H locs 0 0 Q (F0 m 0 ls []) := by
  have hx := S.1
  have hb := S.2.1
  have hown := S.2.2.2.1
  have ht := S.2.2.2.2
  unfold f_Run_relayAll at hf0
  have J2 : ∀ (M : Mem) (x1 : Int32) (x2 : Int32) (H : Heap) (locs : List Loc) (ls : Array Slot), f_Run_relayAll_J2 k M x1 x2 = some M' → HW Z M s H locs → lv_has ls 5 [(0, .ref (Z.2.2.1 k)), (1, .int x1), (2, .int x2)] → W p l e R s m args below meth c H locs 0 0 Q (F0 m 2 ls []) := by
    intro M x1 x2 H locs ls hf0 hH hl
    unfold f_Run_relayAll_J2 at hf0
    obtain ⟨e2, he2, hf0⟩ := o_b hf0
    unfold f_Run_relayAll_W2 at he2
    refine loop_W (fun t => ∀ (H : Heap) (locs : List Loc) (ls : Array Slot), HW Z t.2 s H locs → lv_has ls 5 [(0, .ref (Z.2.2.1 k)), (1, .int x1), (2, .int t.1)] → W p l e R s m args below meth c H locs 0 0 Q (F0 m 2 ls [])) ?_ he2 H locs ls hH hl
    rintro ⟨x2, M⟩ o1 hf1 hG1 hR1 H locs ls hH hl
    replace hH : HW Z M s H locs := hH
    replace hl : lv_has ls 5 [(0, .ref (Z.2.2.1 k)), (1, .int x1), (2, .int x2)] := hl
    replace hf1 : f_Run_relayAll_L2 k x1 x2 M = some o1 := hf1
    unfold f_Run_relayAll_L2 at hf1
    have J15 : ∀ (M : Mem) (x2 : Int32) (x3 : Int32) (H : Heap) (locs : List Loc) (ls : Array Slot), f_Run_relayAll_J15 k M x1 x2 x3 = some o1 → HW Z M s H locs → lv_has ls 5 [(0, .ref (Z.2.2.1 k)), (1, .int x1), (2, .int x2), (3, .int x3)] → W p l e R s m args below meth c H locs 0 0 Q (F0 m 15 ls []) := by
      intro M x2 x3 H locs ls hf1 hH hl
      unfold f_Run_relayAll_J15 at hf1
      obtain ⟨e15, he15, hf1⟩ := o_b hf1
      have KX15 : ∀ (H : Heap) (locs : List Loc) (ls : Array Slot), HW Z e15 s H locs → lv_has ls 5 [(0, .ref (Z.2.2.1 k)), (1, .int x1), (2, .int x2)] → W p l e R s m args below meth c H locs 0 0 Q (F0 m 69 ls []) := by
        intro H locs ls hH hl
        refine lv_iinc (v := x2 + (1 : Int32)) (lv' := [(2, .int (x2 + (1 : Int32))), (0, .ref (Z.2.2.1 k)), (1, .int x1)]) hx hb d_Run_relayAll_69 hl (k := 2) rfl rfl (by decide) rfl (fun ls hl => ?_)
        refine lv_goto (tgt := 2) hx hb d_Run_relayAll_72 (by decide) ?_
        exact hG1 _ (o_v hf1).symm _ _ _ hH (lv_sub hl [1, 2, 0] rfl)
      unfold f_Run_relayAll_W15 at he15
      refine loop_W (fun t => ∀ (H : Heap) (locs : List Loc) (ls : Array Slot), HW Z t.2 s H locs → lv_has ls 5 [(0, .ref (Z.2.2.1 k)), (1, .int x1), (2, .int x2), (3, .int t.1)] → W p l e R s m args below meth c H locs 0 0 Q (F0 m 15 ls [])) ?_ he15 H locs ls hH hl
      rintro ⟨x3, M⟩ o2 hf2 hG2 hR2 H locs ls hH hl
      replace hH : HW Z M s H locs := hH
      replace hl : lv_has ls 5 [(0, .ref (Z.2.2.1 k)), (1, .int x1), (2, .int x2), (3, .int x3)] := hl
      replace hf2 : f_Run_relayAll_L15 k x1 x2 x3 M = some o2 := hf2
      unfold f_Run_relayAll_L15 at hf2
      refine lv_iload_n hx hb d_Run_relayAll_15 rfl (lv_at hl 3 rfl) ?_
      refine lv_iconst (v := (4 : Int32)) hx hb d_Run_relayAll_16 (by decide) ?_
      refine lv_icmp_ge (tgt := 69) hx hb d_Run_relayAll_17 (by decide) (fun hc => ?_) (fun hc => ?_)
      · replace hf2 := o_t hc hf2
        obtain rfl := hR2 _ (o_v hf2).symm
        exact KX15 _ _ _ hH (lv_sub hl [0, 1, 2] rfl)
      · replace hf2 := o_f hc hf2
        refine lv_iload_n hx hb d_Run_relayAll_20 rfl (lv_at hl 2 rfl) ?_
        refine lv_iload_n hx hb d_Run_relayAll_21 rfl (lv_at hl 3 rfl) ?_
        refine q_cNi (As := [.int x2, .int x3]) (rest := []) S hX hH (c_MC_cellOf l hI M x2 x3 rfl) (cw_Run_125 S.2.2.2.2 hX.2.1 (Nat.le_trans (Nat.le_of_ble_eq_true rfl) hR.1) (Nat.le_trans (Nat.le_of_ble_eq_true rfl) hR.2)) rfl hl.1 rfl (Nat.le_of_ble_eq_true rfl) d_Run_relayAll_22 ⟨Nat.zero_le _, Nat.zero_le _⟩ (fun H locs hH => ?_)
        refine lv_istore (lv' := [(4, .int (f_MC_cellOf x2 x3)), (0, .ref (Z.2.2.1 k)), (1, .int x1), (2, .int x2), (3, .int x3)]) hx hb d_Run_relayAll_25 hl (by decide) rfl (fun ls hl => ?_)
        refine lv_aload_n hx hb d_Run_relayAll_27 rfl (lv_at hl 1 rfl) ?_
        refine g_Run_32 S hX hH hZ hk d_Run_relayAll_28 ?_
        refine lv_iload hx hb d_Run_relayAll_31 (lv_at hl 0 rfl) ?_
        obtain ⟨hn1, hf2⟩ := o_in hf2
        refine q_iald (j := (f_MC_cellOf x2 x3).toNatClampNeg) hx hb hX hH (aa_Run_7 hZ hk) hn1 rfl d_Run_relayAll_33 ?_
        refine lv_iload_n hx hb d_Run_relayAll_34 rfl (lv_at hl 2 rfl) ?_
        refine lv_iconst (v := (1 : Int32)) hx hb d_Run_relayAll_35 (by decide) ?_
        refine lv_isub hx hb d_Run_relayAll_36 ?_
        refine lv_icmp_ne (tgt := 63) hx hb d_Run_relayAll_37 (by decide) (fun hc => ?_) (fun hc => ?_)
        · replace hf2 := o_f hc hf2
          refine lv_iinc (v := x3 + (1 : Int32)) (lv' := [(3, .int (x3 + (1 : Int32))), (4, .int (f_MC_cellOf x2 x3)), (0, .ref (Z.2.2.1 k)), (1, .int x1), (2, .int x2)]) hx hb d_Run_relayAll_63 hl (k := 4) rfl rfl (by decide) rfl (fun ls hl => ?_)
          refine lv_goto (tgt := 15) hx hb d_Run_relayAll_66 (by decide) ?_
          exact hG2 _ (o_v hf2).symm _ _ _ hH (lv_sub hl [2, 3, 4, 0] rfl)
        · replace hf2 := o_t hc hf2
          refine lv_aload_n hx hb d_Run_relayAll_40 rfl (lv_at hl 1 rfl) ?_
          refine lv_iload_n hx hb d_Run_relayAll_41 rfl (lv_at hl 3 rfl) ?_
          refine lv_iload_n hx hb d_Run_relayAll_42 rfl (lv_at hl 4 rfl) ?_
          obtain ⟨y3, hc2, hf2⟩ := o_b hf2
          refine q_cVi (As := [.int x2, .int x3]) (rest := []) S hX hH (c_Run_relays l hI hZ k M x2 x3 hk hc2) (cw_Run_136 S.2.2.2.2 (Nat.le_trans (Nat.le_of_ble_eq_true rfl) hR.1) (Nat.le_trans (Nat.le_of_ble_eq_true rfl) hR.2)) (rc_Run hX hH hZ hk) rfl hl.1 rfl (Nat.le_of_ble_eq_true rfl) d_Run_relayAll_43 ⟨Nat.zero_le _, Nat.zero_le _⟩ (fun H locs hH => ?_)
          refine lv_if_eq (tgt := 63) hx hb d_Run_relayAll_46 (by decide) (fun hc => ?_) (fun hc => ?_)
          · replace hf2 := o_t hc hf2
            refine lv_iinc (v := x3 + (1 : Int32)) (lv' := [(3, .int (x3 + (1 : Int32))), (4, .int (f_MC_cellOf x2 x3)), (0, .ref (Z.2.2.1 k)), (1, .int x1), (2, .int x2)]) hx hb d_Run_relayAll_63 hl (k := 4) rfl rfl (by decide) rfl (fun ls hl => ?_)
            refine lv_goto (tgt := 15) hx hb d_Run_relayAll_66 (by decide) ?_
            exact hG2 _ (o_v hf2).symm _ _ _ hH (lv_sub hl [2, 3, 4, 0] rfl)
          · replace hf2 := o_f hc hf2
            refine lv_aload_n hx hb d_Run_relayAll_49 rfl (lv_at hl 1 rfl) ?_
            refine lv_iload_n hx hb d_Run_relayAll_50 rfl (lv_at hl 2 rfl) ?_
            refine lv_iload_n hx hb d_Run_relayAll_51 rfl (lv_at hl 3 rfl) ?_
            refine lv_iload_n hx hb d_Run_relayAll_52 rfl (lv_at hl 4 rfl) ?_
            refine lv_aload_n hx hb d_Run_relayAll_53 rfl (lv_at hl 1 rfl) ?_
            refine g_Run_38 S hX hH hZ hk d_Run_relayAll_54 ?_
            refine lv_iload hx hb d_Run_relayAll_57 (lv_at hl 0 rfl) ?_
            refine q_iald (j := (f_MC_cellOf x2 x3).toNatClampNeg) hx hb hX hH (aa_Run_9 hZ hk) hn1 rfl d_Run_relayAll_59 ?_
            obtain ⟨M5, hc4, hf2⟩ := o_b hf2
            refine q_cVv (As := [.int x1, .int x2, .int x3, .int (M (k + 9) (f_MC_cellOf x2 x3).toNatClampNeg)]) (rest := []) S hX hH (c_Run_sendOthers l hI hZ k M x1 x2 x3 (M (k + 9) (f_MC_cellOf x2 x3).toNatClampNeg) hk hc4) (cw_Run_129 S.2.2.2.2 (Nat.le_trans (Nat.le_of_ble_eq_true rfl) hR.1) (Nat.le_trans (Nat.le_of_ble_eq_true rfl) hR.2)) (rc_Run hX hH hZ hk) rfl hl.1 rfl (Nat.le_of_ble_eq_true rfl) d_Run_relayAll_60 ⟨Nat.zero_le _, Nat.zero_le _⟩ (fun H locs hH => ?_)
            refine lv_iinc (v := x3 + (1 : Int32)) (lv' := [(3, .int (x3 + (1 : Int32))), (4, .int (f_MC_cellOf x2 x3)), (0, .ref (Z.2.2.1 k)), (1, .int x1), (2, .int x2)]) hx hb d_Run_relayAll_63 hl (k := 4) rfl rfl (by decide) rfl (fun ls hl => ?_)
            refine lv_goto (tgt := 15) hx hb d_Run_relayAll_66 (by decide) ?_
            exact hG2 _ (o_v hf2).symm _ _ _ hH (lv_sub hl [2, 3, 4, 0] rfl)
    refine lv_iload_n hx hb d_Run_relayAll_2 rfl (lv_at hl 2 rfl) ?_
    refine lv_aload_n hx hb d_Run_relayAll_3 rfl (lv_at hl 0 rfl) ?_
    refine g_Run_47 S hX hH hZ hk d_Run_relayAll_4 ?_
    refine g_Run_133 S hX hH hZ isPlay_0 d_Run_relayAll_7 ?_
    refine lv_icmp_ge (tgt := 75) hx hb d_Run_relayAll_10 (by decide) (fun hc => ?_) (fun hc => ?_)
    · replace hf1 := o_t hc hf1
      obtain rfl := hR1 _ (o_v hf1).symm
      obtain rfl := o_v hf0
      exact hQ _ _ _ _ hH d_Run_relayAll_75
    · replace hf1 := o_f hc hf1
      refine lv_iconst (v := (0 : Int32)) hx hb d_Run_relayAll_13 (by decide) ?_
      refine lv_istore_n (lv' := [(3, .int (0 : Int32)), (0, .ref (Z.2.2.1 k)), (1, .int x1), (2, .int x2)]) hx hb d_Run_relayAll_14 rfl hl (by decide) rfl (fun ls hl => ?_)
      exact J15 _ _ _ _ _ _ hf1 hH (lv_sub hl [1, 2, 3, 0] rfl)
  refine lv_iconst (v := (0 : Int32)) hx hb d_Run_relayAll_0 (by decide) ?_
  refine lv_istore_n (lv' := [(2, .int (0 : Int32)), (0, .ref (Z.2.2.1 k)), (1, .int x1)]) hx hb d_Run_relayAll_1 rfl hl (by decide) rfl (fun ls hl => ?_)
  exact J2 _ _ _ _ _ _ hf0 hH (lv_sub hl [1, 2, 0] rfl)
theorem c_Run_relayAll (l : Launch) {Z : WD} (hI : wI Z) (hZ : IsC Z) (k : Nat) (M : Mem) (x1 : Int32) (hk : isRun k) {M' : Mem} (hf : f_Run_relayAll k M x1 = some M') : Cv l Z y_Run_relayAll b_Run_relayAll 5 none 3 70 [.ref (Z.2.2.1 k), .int x1] M M' := by
  refine Met.ofW (cc := b_Run_relayAll) (maxL := 5) (ret := none) (by decide) rfl ?_
  intro p e s m args below meth c s₁ B hml hv
  obtain ⟨rfl, hP, hX⟩ := hv
  have S : CallFix p m c b_Run_relayAll 5 s ([.ref (Z.2.2.1 k), .int x1] : List Value).toArray gtb R_Run := ⟨B.exec, B.bytes, hml, findClass_of_methodNamed B.named, fun w hw => atoms_spec (ws := .code y_Run_relayAll b_Run_relayAll 5 none :: gtb) B.pre w (List.mem_cons_of_mem _ hw)⟩
  have hl := lv_entry ([.ref (Z.2.2.1 k), .int x1]) (n := 5) (Nat.le_of_ble_eq_true rfl)
  rw [lg_entry_eq]
  exact wk_Run_relayAll hI hZ k M x1 hk S hX ⟨Nat.le_refl _, Nat.le_refl _⟩ (fun pc H locs ls hH d => q_rv S.1 S.2.1 B.returns B.notSynchronized hH rfl d) hf ⟨hP, va_S.rf⟩ hl
theorem cw_Run_172 {R : Room} {s : State} {args : Array Value} (ht : ∀ w ∈ gtb, w.before args s = true) (h1 : 0 + 1 ≤ R.frames) (h2 : 8 + (1 + 11) + 0 ≤ R.locals) : CallB R s args R_Run 172 y_Chain_size b_Chain_size 1 (some .int) (.code y_Chain_size b_Chain_size 1 (some .int) :: gtb) { frames := 0, cells := 0, slots := 0, locals := 0 } 0 0 1 ∧ (Cond.static y_Chain_size).before args s = true := va_cwS 1 ht (gS w2_39 w2_8 w1_6 w2_9) rfl rfl rfl ⟨by decide, by decide, by decide +kernel⟩ ⟨h1, h2⟩
theorem cw_Run_175 {R : Room} {s : State} {args : Array Value} (ht : ∀ w ∈ gtb, w.before args s = true) (h1 : 0 + 1 ≤ R.frames) (h2 : 8 + (2 + 11) + 0 ≤ R.locals) : CallB R s args R_Run 175 y_Chain_markAt b_Chain_markAt 2 (some .int) (.code y_Chain_markAt b_Chain_markAt 2 (some .int) :: gtb) { frames := 0, cells := 0, slots := 0, locals := 0 } 0 0 2 ∧ (Cond.static y_Chain_markAt).before args s = true := va_cwS 2 ht (gS w2_40 w2_41 w1_6 w2_42) rfl rfl rfl ⟨by decide, by decide, by decide +kernel⟩ ⟨h1, h2⟩
noncomputable def f_Run_canMark_L3 (k : Nat) (M : Mem) (x1 : Int32) (x2 : Int32) (x3 : Int32) (x4 : Int32) : Option (Int32 ⊕ Bool) := if (f_Chain_size x1) ≤ x4 then some (.inr true) else 
    gIn (f_MC_cellOf (f_Chain_markAt x1 x4) x2) 32 (if (M (k + 10) (f_MC_cellOf (f_Chain_markAt x1 x4) x2).toNatClampNeg) ≤ x3 then some (.inl (x4 + (1 : Int32))) else some (.inr false))
noncomputable def f_Run_canMark_W3 (k : Nat) (M : Mem) (x1 : Int32) (x2 : Int32) (x3 : Int32) (u : Int32) : Option Bool := loop (fun t => f_Run_canMark_L3 k M x1 x2 x3 t) u
noncomputable def f_Run_canMark_J3 (k : Nat) (M : Mem) (x1 : Int32) (x2 : Int32) (x3 : Int32) (x4 : Int32) : Option (Bool) := bnd (f_Run_canMark_W3 k M x1 x2 x3 x4) (fun e3 => some e3)
noncomputable def f_Run_canMark (k : Nat) (M : Mem) (x1 : Int32) (x2 : Int32) (x3 : Int32) : Option Bool := f_Run_canMark_J3 k M x1 x2 x3 (0 : Int32)
set_option maxHeartbeats 4000000 in
theorem wk_Run_canMark {l : Launch} {Z : WD} (hI : wI Z) (hZ : IsC Z) (k : Nat) (M : Mem) (x1 : Int32) (x2 : Int32) (x3 : Int32) (hk : isRun k) {r : Bool} {p : Program} {e : Env} {R : Room} {s : State} {m : MethodId} {args : Array Value} {below : List Frame} {meth : Method} {c : Code} {H : Heap} {locs : List Loc} {ls : Array Slot} {Q : State → Prop} (S : CallFix p m c b_Run_canMark 5 s args gtb R_Run) (hX : wX Z s) (hR : 1 ≤ R.frames ∧ 21 ≤ R.locals) (hQ : ∀ (pc : Nat) (H : Heap) (locs : List Loc) (ls : Array Slot), HW Z M s H locs → decode b_Run_canMark pc = .ok (.ireturn, 1) → W p l e R s m args below meth c H locs 0 0 Q (F0 m pc ls [.int (bI r)])) (hf0 : f_Run_canMark k M x1 x2 x3 = some r) (hH : HW Z M s H locs) (hl : lv_has ls 5 [(0, .ref (Z.2.2.1 k)), (1, .int x1), (2, .int x2), (3, .int x3)]) : W p l e R s m args below meth c H locs 0 0 Q (F0 m 0 ls []) := by
  have hx := S.1
  have hb := S.2.1
  have hown := S.2.2.2.1
  have ht := S.2.2.2.2
  unfold f_Run_canMark at hf0
  have J3 : ∀ (x1 : Int32) (x2 : Int32) (x3 : Int32) (x4 : Int32) (H : Heap) (locs : List Loc) (ls : Array Slot), f_Run_canMark_J3 k M x1 x2 x3 x4 = some r → HW Z M s H locs → lv_has ls 5 [(0, .ref (Z.2.2.1 k)), (1, .int x1), (2, .int x2), (3, .int x3), (4, .int x4)] → W p l e R s m args below meth c H locs 0 0 Q (F0 m 3 ls []) := by
    intro x1 x2 x3 x4 H locs ls hf0 hH hl
    unfold f_Run_canMark_J3 at hf0
    obtain ⟨e3, he3, hf0⟩ := o_b hf0
    unfold f_Run_canMark_W3 at he3
    refine loop_W (fun t => ∀ (H : Heap) (locs : List Loc) (ls : Array Slot), HW Z M s H locs → lv_has ls 5 [(0, .ref (Z.2.2.1 k)), (1, .int x1), (2, .int x2), (3, .int x3), (4, .int t)] → W p l e R s m args below meth c H locs 0 0 Q (F0 m 3 ls [])) ?_ he3 H locs ls hH hl
    rintro x4 o1 hf1 hG1 hR1 H locs ls hH hl
    replace hH : HW Z M s H locs := hH
    replace hl : lv_has ls 5 [(0, .ref (Z.2.2.1 k)), (1, .int x1), (2, .int x2), (3, .int x3), (4, .int x4)] := hl
    replace hf1 : f_Run_canMark_L3 k M x1 x2 x3 x4 = some o1 := hf1
    unfold f_Run_canMark_L3 at hf1
    refine lv_iload hx hb d_Run_canMark_3 (lv_at hl 4 rfl) ?_
    refine lv_iload_n hx hb d_Run_canMark_5 rfl (lv_at hl 1 rfl) ?_
    refine q_cSi (As := [.int x1]) (rest := [.int x4]) S hX hH (c_Chain_size l hI M x1 rfl) (cw_Run_172 S.2.2.2.2 (Nat.le_trans (Nat.le_of_ble_eq_true rfl) hR.1) (Nat.le_trans (Nat.le_of_ble_eq_true rfl) hR.2)) rfl hl.1 rfl (Nat.le_of_ble_eq_true rfl) d_Run_canMark_6 ⟨Nat.zero_le _, Nat.zero_le _⟩ (fun H locs hH => ?_)
    refine lv_icmp_ge (tgt := 39) hx hb d_Run_canMark_9 (by decide) (fun hc => ?_) (fun hc => ?_)
    · replace hf1 := o_t hc hf1
      refine lv_iconst (v := (1 : Int32)) hx hb d_Run_canMark_39 (by decide) ?_
      obtain rfl := hR1 _ (o_v hf1).symm
      obtain rfl := o_v hf0
      exact hQ _ _ _ _ hH d_Run_canMark_40
    · replace hf1 := o_f hc hf1
      refine lv_aload_n hx hb d_Run_canMark_12 rfl (lv_at hl 0 rfl) ?_
      refine g_Run_41 S hX hH hZ hk d_Run_canMark_13 ?_
      refine lv_iload_n hx hb d_Run_canMark_16 rfl (lv_at hl 1 rfl) ?_
      refine lv_iload hx hb d_Run_canMark_17 (lv_at hl 4 rfl) ?_
      refine q_cSi (As := [.int x1, .int x4]) (rest := [.ref (Z.2.2.1 (k + 10))]) S hX hH (c_Chain_markAt l hI M x1 x4 rfl) (cw_Run_175 S.2.2.2.2 (Nat.le_trans (Nat.le_of_ble_eq_true rfl) hR.1) (Nat.le_trans (Nat.le_of_ble_eq_true rfl) hR.2)) rfl hl.1 rfl (Nat.le_of_ble_eq_true rfl) d_Run_canMark_19 ⟨Nat.zero_le _, Nat.zero_le _⟩ (fun H locs hH => ?_)
      refine lv_iload_n hx hb d_Run_canMark_22 rfl (lv_at hl 2 rfl) ?_
      refine q_cNi (As := [.int (f_Chain_markAt x1 x4), .int x2]) (rest := [.ref (Z.2.2.1 (k + 10))]) S hX hH (c_MC_cellOf l hI M (f_Chain_markAt x1 x4) x2 rfl) (cw_Run_125 S.2.2.2.2 hX.2.1 (Nat.le_trans (Nat.le_of_ble_eq_true rfl) hR.1) (Nat.le_trans (Nat.le_of_ble_eq_true rfl) hR.2)) rfl hl.1 rfl (Nat.le_of_ble_eq_true rfl) d_Run_canMark_23 ⟨Nat.zero_le _, Nat.zero_le _⟩ (fun H locs hH => ?_)
      obtain ⟨hn1, hf1⟩ := o_in hf1
      refine q_iald (j := (f_MC_cellOf (f_Chain_markAt x1 x4) x2).toNatClampNeg) hx hb hX hH (aa_Run_10 hZ hk) hn1 rfl d_Run_canMark_26 ?_
      refine lv_iload_n hx hb d_Run_canMark_27 rfl (lv_at hl 3 rfl) ?_
      refine lv_icmp_le (tgt := 33) hx hb d_Run_canMark_28 (by decide) (fun hc => ?_) (fun hc => ?_)
      · replace hf1 := o_t hc hf1
        refine lv_iinc (v := x4 + (1 : Int32)) (lv' := [(4, .int (x4 + (1 : Int32))), (0, .ref (Z.2.2.1 k)), (1, .int x1), (2, .int x2), (3, .int x3)]) hx hb d_Run_canMark_33 hl (k := 4) rfl rfl (by decide) rfl (fun ls hl => ?_)
        refine lv_goto (tgt := 3) hx hb d_Run_canMark_36 (by decide) ?_
        exact hG1 _ (o_v hf1).symm _ _ _ hH (lv_sub hl [1, 2, 3, 4, 0] rfl)
      · replace hf1 := o_f hc hf1
        refine lv_iconst (v := (0 : Int32)) hx hb d_Run_canMark_31 (by decide) ?_
        obtain rfl := hR1 _ (o_v hf1).symm
        obtain rfl := o_v hf0
        exact hQ _ _ _ _ hH d_Run_canMark_32
  refine lv_iconst (v := (0 : Int32)) hx hb d_Run_canMark_0 (by decide) ?_
  refine lv_istore (lv' := [(4, .int (0 : Int32)), (0, .ref (Z.2.2.1 k)), (1, .int x1), (2, .int x2), (3, .int x3)]) hx hb d_Run_canMark_1 hl (by decide) rfl (fun ls hl => ?_)
  exact J3 _ _ _ _ _ _ _ hf0 hH (lv_sub hl [1, 2, 3, 4, 0] rfl)
theorem c_Run_canMark (l : Launch) {Z : WD} (hI : wI Z) (hZ : IsC Z) (k : Nat) (M : Mem) (x1 : Int32) (x2 : Int32) (x3 : Int32) (hk : isRun k) {r : Bool} (hf : f_Run_canMark k M x1 x2 x3 = some r) : Ci l Z y_Run_canMark b_Run_canMark 5 (some .boolean) 1 21 [.ref (Z.2.2.1 k), .int x1, .int x2, .int x3] M M (bI r) := by
  refine Met.ofW (cc := b_Run_canMark) (maxL := 5) (ret := (some .boolean)) (by decide) rfl ?_
  intro p e s m args below meth c s₁ B hml hv
  obtain ⟨rfl, hP, hX⟩ := hv
  have S : CallFix p m c b_Run_canMark 5 s ([.ref (Z.2.2.1 k), .int x1, .int x2, .int x3] : List Value).toArray gtb R_Run := ⟨B.exec, B.bytes, hml, findClass_of_methodNamed B.named, fun w hw => atoms_spec (ws := .code y_Run_canMark b_Run_canMark 5 (some .boolean) :: gtb) B.pre w (List.mem_cons_of_mem _ hw)⟩
  have hl := lv_entry ([.ref (Z.2.2.1 k), .int x1, .int x2, .int x3]) (n := 5) (Nat.le_of_ble_eq_true rfl)
  rw [lg_entry_eq]
  exact wk_Run_canMark hI hZ k M x1 x2 x3 hk S hX ⟨Nat.le_refl _, Nat.le_refl _⟩ (fun pc H locs ls hH d => q_rz S.1 S.2.1 B.returns B.notSynchronized hH rfl rfl d) hf ⟨hP, va_S.rf⟩ hl
theorem cw_Run_168 {R : Room} {s : State} {args : Array Value} (ht : ∀ w ∈ gtb, w.before args s = true) (h1 : 1 + 1 ≤ R.frames) (h2 : 8 + (5 + 11) + 21 ≤ R.locals) : CallW R s args R_Run R_Run 168 y_Run_canMark b_Run_canMark 5 (some .boolean) (.code y_Run_canMark b_Run_canMark 5 (some .boolean) :: gtb) { frames := 1, cells := 0, slots := 0, locals := 21 } 0 0 3 := cwV 3 ht (gV w2_35 w2_37 ws_Run_canMark w1_4 w2_38) rfl rfl rfl ⟨rfl, by decide, by decide, by decide +kernel⟩ ⟨h1, h2⟩
theorem cw_Run_159 {R : Room} {s : State} {args : Array Value} (ht : ∀ w ∈ gtb, w.before args s = true) (h1 : 0 + 1 ≤ R.frames) (h2 : 8 + (1 + 11) + 0 ≤ R.locals) : CallB R s args R_Run 159 y_Route_fromOf b_Route_fromOf 1 (some .int) (.code y_Route_fromOf b_Route_fromOf 1 (some .int) :: gtb) { frames := 0, cells := 0, slots := 0, locals := 0 } 0 0 1 ∧ (Cond.static y_Route_fromOf).before args s = true := va_cwS 1 ht (gS w2_32 w2_33 w1_7 w2_34) rfl rfl rfl ⟨by decide, by decide, by decide +kernel⟩ ⟨h1, h2⟩
noncomputable def f_Run_sendPlans_J120 (k : Nat) (M : Mem) (x1 : Int32) (x2 : Int32) (x4 : Int32) : Option ((Int32 × Mem) ⊕ Mem) := if x4 = 0 then some (.inl (x2 + (1 : Int32), M)) else 
    lt1 (upM M k 3 ((M k 3) ||| ((1 : Int32) <<< (x2 &&& 31)))) (fun M1 => some (.inl (x2 + (1 : Int32), M1)))
noncomputable def f_Run_sendPlans_J61 (k : Nat) (M : Mem) (x1 : Int32) (x2 : Int32) (x3 : Int32) (s0 : Int32) : Option ((Int32 × Mem) ⊕ Mem) := if s0 = 0 then f_Run_sendPlans_J120 k M x1 x2 s0 else 
    gIn x2 16 (bnd (f_Run_canMark k M (M 4 x2.toNatClampNeg) (M 3 x2.toNatClampNeg) x1) (fun y4 => 
    if (bI y4) = 0 then f_Run_sendPlans_J120 k M x1 x2 s0 else 
    bnd (f_Run_post k M x3 (M 3 x2.toNatClampNeg) (M 4 x2.toNatClampNeg)) (fun M6 => some (.inl (x2 + (1 : Int32), M6)))))
noncomputable def f_Run_sendPlans_J60 (k : Nat) (M : Mem) (x1 : Int32) (x2 : Int32) (x3 : Int32) : Option ((Int32 × Mem) ⊕ Mem) := f_Run_sendPlans_J61 k M x1 x2 x3 (0 : Int32)
noncomputable def f_Run_sendPlans_L2 (k : Nat) (x1 : Int32) (x2 : Int32) (M : Mem) : Option ((Int32 × Mem) ⊕ Mem) := if (M 0 2) ≤ x2 then some (.inr M) else 
    gIn x2 16 (if (((M k 2) >>> (x2 &&& 31)) &&& (1 : Int32)) = 0 then f_Run_sendPlans_J60 k M x1 x2 (M 2 x2.toNatClampNeg) else 
    if (f_Route_roundOf (M 2 x2.toNatClampNeg)) = x1 then 
    if (bI (f_Play_isLiar 0 M (f_Route_fromOf (M 2 x2.toNatClampNeg)))) = 0 then f_Run_sendPlans_J60 k M x1 x2 (M 2 x2.toNatClampNeg) else f_Run_sendPlans_J61 k M x1 x2 (M 2 x2.toNatClampNeg) (1 : Int32) else f_Run_sendPlans_J60 k M x1 x2 (M 2 x2.toNatClampNeg))
noncomputable def f_Run_sendPlans_W2 (k : Nat) (x1 : Int32) (u : (Int32 × Mem)) : Option Mem := loop (fun t => f_Run_sendPlans_L2 k x1 t.1 t.2) u
noncomputable def f_Run_sendPlans_J2 (k : Nat) (M : Mem) (x1 : Int32) (x2 : Int32) : Option (Mem) := bnd (f_Run_sendPlans_W2 k x1 (x2, M)) (fun e2 => some e2)
noncomputable def f_Run_sendPlans (k : Nat) (M : Mem) (x1 : Int32) : Option Mem := f_Run_sendPlans_J2 k M x1 (0 : Int32)
set_option maxHeartbeats 4000000 in
theorem wk_Run_sendPlans {l : Launch} {Z : WD} (hI : wI Z) (hZ : IsC Z) (k : Nat) (M : Mem) (x1 : Int32) (hk : isRun k) {M' : Mem} {p : Program} {e : Env} {R : Room} {s : State} {m : MethodId} {args : Array Value} {below : List Frame} {meth : Method} {c : Code} {H : Heap} {locs : List Loc} {ls : Array Slot} {Q : State → Prop} (S : CallFix p m c b_Run_sendPlans 5 s args gtb R_Run) (hX : wX Z s) (hR : 2 ≤ R.frames ∧ 45 ≤ R.locals) (hQ : ∀ (pc : Nat) (H : Heap) (locs : List Loc) (ls : Array Slot), HW Z M' s H locs → decode b_Run_sendPlans pc = .ok (.return_, 1) → W p l e R s m args below meth c H locs 0 0 Q (F0 m pc ls [])) (hf0 : f_Run_sendPlans k M x1 = some M') (hH : HW Z M s H locs) (hl : lv_has ls 5 [(0, .ref (Z.2.2.1 k)), (1, .int x1)]) : W p l e R s m args below meth c H locs 0 0 Q (F0 m 0 ls []) := by
  have hx := S.1
  have hb := S.2.1
  have hown := S.2.2.2.1
  have ht := S.2.2.2.2
  unfold f_Run_sendPlans at hf0
  have J2 : ∀ (M : Mem) (x1 : Int32) (x2 : Int32) (H : Heap) (locs : List Loc) (ls : Array Slot), f_Run_sendPlans_J2 k M x1 x2 = some M' → HW Z M s H locs → lv_has ls 5 [(0, .ref (Z.2.2.1 k)), (1, .int x1), (2, .int x2)] → W p l e R s m args below meth c H locs 0 0 Q (F0 m 2 ls []) := by
    intro M x1 x2 H locs ls hf0 hH hl
    unfold f_Run_sendPlans_J2 at hf0
    obtain ⟨e2, he2, hf0⟩ := o_b hf0
    unfold f_Run_sendPlans_W2 at he2
    refine loop_W (fun t => ∀ (H : Heap) (locs : List Loc) (ls : Array Slot), HW Z t.2 s H locs → lv_has ls 5 [(0, .ref (Z.2.2.1 k)), (1, .int x1), (2, .int t.1)] → W p l e R s m args below meth c H locs 0 0 Q (F0 m 2 ls [])) ?_ he2 H locs ls hH hl
    rintro ⟨x2, M⟩ o1 hf1 hG1 hR1 H locs ls hH hl
    replace hH : HW Z M s H locs := hH
    replace hl : lv_has ls 5 [(0, .ref (Z.2.2.1 k)), (1, .int x1), (2, .int x2)] := hl
    replace hf1 : f_Run_sendPlans_L2 k x1 x2 M = some o1 := hf1
    unfold f_Run_sendPlans_L2 at hf1
    have J120 : ∀ (M : Mem) (x2 : Int32) (x4 : Int32) (H : Heap) (locs : List Loc) (ls : Array Slot), f_Run_sendPlans_J120 k M x1 x2 x4 = some o1 → HW Z M s H locs → lv_has ls 5 [(0, .ref (Z.2.2.1 k)), (1, .int x1), (2, .int x2), (4, .int x4)] → W p l e R s m args below meth c H locs 0 0 Q (F0 m 120 ls []) := by
      intro M x2 x4 H locs ls hf1 hH hl
      unfold f_Run_sendPlans_J120 at hf1
      refine lv_iload hx hb d_Run_sendPlans_120 (lv_at hl 3 rfl) ?_
      refine lv_if_eq (tgt := 137) hx hb d_Run_sendPlans_122 (by decide) (fun hc => ?_) (fun hc => ?_)
      · replace hf1 := o_t hc hf1
        refine lv_iinc (v := x2 + (1 : Int32)) (lv' := [(2, .int (x2 + (1 : Int32))), (0, .ref (Z.2.2.1 k)), (1, .int x1), (4, .int x4)]) hx hb d_Run_sendPlans_137 hl (k := 2) rfl rfl (by decide) rfl (fun ls hl => ?_)
        refine lv_goto (tgt := 2) hx hb d_Run_sendPlans_140 (by decide) ?_
        exact hG1 _ (o_v hf1).symm _ _ _ hH (lv_sub hl [1, 2, 0] rfl)
      · replace hf1 := o_f hc hf1
        refine lv_aload_n hx hb d_Run_sendPlans_125 rfl (lv_at hl 0 rfl) ?_
        refine lv_dup hx hb d_Run_sendPlans_126 rfl ?_
        refine g_Run_113 S hX hH hZ hk d_Run_sendPlans_127 ?_
        refine lv_iconst (v := (1 : Int32)) hx hb d_Run_sendPlans_130 (by decide) ?_
        refine lv_iload_n hx hb d_Run_sendPlans_131 rfl (lv_at hl 2 rfl) ?_
        refine lv_ishl hx hb d_Run_sendPlans_132 ?_
        refine lv_ior hx hb d_Run_sendPlans_133 ?_
        obtain ⟨M1, hM1, hf1⟩ := o_l hf1
        refine s_Run_113 S hX hI hH hZ hk d_Run_sendPlans_134 (fun H locs hH => ?_)
        rw [hM1] at hH
        refine lv_iinc (v := x2 + (1 : Int32)) (lv' := [(2, .int (x2 + (1 : Int32))), (0, .ref (Z.2.2.1 k)), (1, .int x1), (4, .int x4)]) hx hb d_Run_sendPlans_137 hl (k := 2) rfl rfl (by decide) rfl (fun ls hl => ?_)
        refine lv_goto (tgt := 2) hx hb d_Run_sendPlans_140 (by decide) ?_
        exact hG1 _ (o_v hf1).symm _ _ _ hH (lv_sub hl [1, 2, 0] rfl)
    have J61 : ∀ (M : Mem) (x2 : Int32) (x3 : Int32) (s0 : Int32) (H : Heap) (locs : List Loc) (ls : Array Slot), f_Run_sendPlans_J61 k M x1 x2 x3 s0 = some o1 → HW Z M s H locs → lv_has ls 5 [(0, .ref (Z.2.2.1 k)), (1, .int x1), (2, .int x2), (3, .int x3)] → W p l e R s m args below meth c H locs 0 0 Q (F0 m 61 ls [.int s0]) := by
      intro M x2 x3 s0 H locs ls hf1 hH hl
      unfold f_Run_sendPlans_J61 at hf1
      refine lv_istore (lv' := [(4, .int s0), (0, .ref (Z.2.2.1 k)), (1, .int x1), (2, .int x2), (3, .int x3)]) hx hb d_Run_sendPlans_61 hl (by decide) rfl (fun ls hl => ?_)
      refine lv_iload hx hb d_Run_sendPlans_63 (lv_at hl 0 rfl) ?_
      refine lv_if_eq (tgt := 120) hx hb d_Run_sendPlans_65 (by decide) (fun hc => ?_) (fun hc => ?_)
      · replace hf1 := o_t hc hf1
        exact J120 _ _ _ _ _ _ hf1 hH (lv_sub hl [1, 2, 3, 0] rfl)
      · replace hf1 := o_f hc hf1
        refine lv_aload_n hx hb d_Run_sendPlans_68 rfl (lv_at hl 1 rfl) ?_
        refine lv_aload_n hx hb d_Run_sendPlans_69 rfl (lv_at hl 1 rfl) ?_
        refine g_Run_47 S hX hH hZ hk d_Run_sendPlans_70 ?_
        refine g_Run_162 S hX hH hZ isPlay_0 d_Run_sendPlans_73 ?_
        refine lv_iload_n hx hb d_Run_sendPlans_76 rfl (lv_at hl 3 rfl) ?_
        obtain ⟨hn2, hf1⟩ := o_in hf1
        refine q_iald (j := x2.toNatClampNeg) hx hb hX hH (aa_Play_4 hZ isPlay_0) hn2 rfl d_Run_sendPlans_77 ?_
        refine lv_aload_n hx hb d_Run_sendPlans_78 rfl (lv_at hl 1 rfl) ?_
        refine g_Run_47 S hX hH hZ hk d_Run_sendPlans_79 ?_
        refine g_Run_165 S hX hH hZ isPlay_0 d_Run_sendPlans_82 ?_
        refine lv_iload_n hx hb d_Run_sendPlans_85 rfl (lv_at hl 3 rfl) ?_
        refine q_iald (j := x2.toNatClampNeg) hx hb hX hH (aa_Play_3 hZ isPlay_0) hn2 rfl d_Run_sendPlans_86 ?_
        refine lv_iload_n hx hb d_Run_sendPlans_87 rfl (lv_at hl 2 rfl) ?_
        obtain ⟨y4, hc3, hf1⟩ := o_b hf1
        refine q_cVi (As := [.int (M 4 x2.toNatClampNeg), .int (M 3 x2.toNatClampNeg), .int x1]) (rest := []) S hX hH (c_Run_canMark l hI hZ k M (M 4 x2.toNatClampNeg) (M 3 x2.toNatClampNeg) x1 hk hc3) (cw_Run_168 S.2.2.2.2 (Nat.le_trans (Nat.le_of_ble_eq_true rfl) hR.1) (Nat.le_trans (Nat.le_of_ble_eq_true rfl) hR.2)) (rc_Run hX hH hZ hk) rfl hl.1 rfl (Nat.le_of_ble_eq_true rfl) d_Run_sendPlans_88 ⟨Nat.zero_le _, Nat.zero_le _⟩ (fun H locs hH => ?_)
        refine lv_if_eq (tgt := 120) hx hb d_Run_sendPlans_91 (by decide) (fun hc => ?_) (fun hc => ?_)
        · replace hf1 := o_t hc hf1
          exact J120 _ _ _ _ _ _ hf1 hH (lv_sub hl [1, 2, 3, 0] rfl)
        · replace hf1 := o_f hc hf1
          refine lv_aload_n hx hb d_Run_sendPlans_94 rfl (lv_at hl 1 rfl) ?_
          refine lv_iload_n hx hb d_Run_sendPlans_95 rfl (lv_at hl 4 rfl) ?_
          refine lv_aload_n hx hb d_Run_sendPlans_96 rfl (lv_at hl 1 rfl) ?_
          refine g_Run_47 S hX hH hZ hk d_Run_sendPlans_97 ?_
          refine g_Run_165 S hX hH hZ isPlay_0 d_Run_sendPlans_100 ?_
          refine lv_iload_n hx hb d_Run_sendPlans_103 rfl (lv_at hl 3 rfl) ?_
          refine q_iald (j := x2.toNatClampNeg) hx hb hX hH (aa_Play_3 hZ isPlay_0) hn2 rfl d_Run_sendPlans_104 ?_
          refine lv_aload_n hx hb d_Run_sendPlans_105 rfl (lv_at hl 1 rfl) ?_
          refine g_Run_47 S hX hH hZ hk d_Run_sendPlans_106 ?_
          refine g_Run_162 S hX hH hZ isPlay_0 d_Run_sendPlans_109 ?_
          refine lv_iload_n hx hb d_Run_sendPlans_112 rfl (lv_at hl 3 rfl) ?_
          refine q_iald (j := x2.toNatClampNeg) hx hb hX hH (aa_Play_4 hZ isPlay_0) hn2 rfl d_Run_sendPlans_113 ?_
          obtain ⟨M6, hc5, hf1⟩ := o_b hf1
          refine q_cVv (As := [.int x3, .int (M 3 x2.toNatClampNeg), .int (M 4 x2.toNatClampNeg)]) (rest := []) S hX hH (c_Run_post l hI hZ k M x3 (M 3 x2.toNatClampNeg) (M 4 x2.toNatClampNeg) hk hc5) (cw_Run_146 S.2.2.2.2 (Nat.le_trans (Nat.le_of_ble_eq_true rfl) hR.1) (Nat.le_trans (Nat.le_of_ble_eq_true rfl) hR.2)) (rc_Run hX hH hZ hk) rfl hl.1 rfl (Nat.le_of_ble_eq_true rfl) d_Run_sendPlans_114 ⟨Nat.zero_le _, Nat.zero_le _⟩ (fun H locs hH => ?_)
          refine lv_goto (tgt := 137) hx hb d_Run_sendPlans_117 (by decide) ?_
          refine lv_iinc (v := x2 + (1 : Int32)) (lv' := [(2, .int (x2 + (1 : Int32))), (4, .int s0), (0, .ref (Z.2.2.1 k)), (1, .int x1), (3, .int x3)]) hx hb d_Run_sendPlans_137 hl (k := 3) rfl rfl (by decide) rfl (fun ls hl => ?_)
          refine lv_goto (tgt := 2) hx hb d_Run_sendPlans_140 (by decide) ?_
          exact hG1 _ (o_v hf1).symm _ _ _ hH (lv_sub hl [2, 3, 0] rfl)
    have J60 : ∀ (M : Mem) (x2 : Int32) (x3 : Int32) (H : Heap) (locs : List Loc) (ls : Array Slot), f_Run_sendPlans_J60 k M x1 x2 x3 = some o1 → HW Z M s H locs → lv_has ls 5 [(0, .ref (Z.2.2.1 k)), (1, .int x1), (2, .int x2), (3, .int x3)] → W p l e R s m args below meth c H locs 0 0 Q (F0 m 60 ls []) := by
      intro M x2 x3 H locs ls hf1 hH hl
      unfold f_Run_sendPlans_J60 at hf1
      refine lv_iconst (v := (0 : Int32)) hx hb d_Run_sendPlans_60 (by decide) ?_
      exact J61 _ _ _ _ _ _ _ hf1 hH (lv_sub hl [0, 1, 2, 3] rfl)
    refine lv_iload_n hx hb d_Run_sendPlans_2 rfl (lv_at hl 2 rfl) ?_
    refine lv_aload_n hx hb d_Run_sendPlans_3 rfl (lv_at hl 0 rfl) ?_
    refine g_Run_47 S hX hH hZ hk d_Run_sendPlans_4 ?_
    refine g_Run_150 S hX hH hZ isPlay_0 d_Run_sendPlans_7 ?_
    refine lv_icmp_ge (tgt := 143) hx hb d_Run_sendPlans_10 (by decide) (fun hc => ?_) (fun hc => ?_)
    · replace hf1 := o_t hc hf1
      obtain rfl := hR1 _ (o_v hf1).symm
      obtain rfl := o_v hf0
      exact hQ _ _ _ _ hH d_Run_sendPlans_143
    · replace hf1 := o_f hc hf1
      refine lv_aload_n hx hb d_Run_sendPlans_13 rfl (lv_at hl 0 rfl) ?_
      refine g_Run_47 S hX hH hZ hk d_Run_sendPlans_14 ?_
      refine g_Run_153 S hX hH hZ isPlay_0 d_Run_sendPlans_17 ?_
      refine lv_iload_n hx hb d_Run_sendPlans_20 rfl (lv_at hl 2 rfl) ?_
      obtain ⟨hn7, hf1⟩ := o_in hf1
      refine q_iald (j := x2.toNatClampNeg) hx hb hX hH (aa_Play_2 hZ isPlay_0) hn7 rfl d_Run_sendPlans_21 ?_
      refine lv_istore_n (lv' := [(3, .int (M 2 x2.toNatClampNeg)), (0, .ref (Z.2.2.1 k)), (1, .int x1), (2, .int x2)]) hx hb d_Run_sendPlans_22 rfl hl (by decide) rfl (fun ls hl => ?_)
      refine lv_aload_n hx hb d_Run_sendPlans_23 rfl (lv_at hl 1 rfl) ?_
      refine g_Run_60 S hX hH hZ hk d_Run_sendPlans_24 ?_
      refine lv_iload_n hx hb d_Run_sendPlans_27 rfl (lv_at hl 3 rfl) ?_
      refine lv_ishr hx hb d_Run_sendPlans_28 ?_
      refine lv_iconst (v := (1 : Int32)) hx hb d_Run_sendPlans_29 (by decide) ?_
      refine lv_iand hx hb d_Run_sendPlans_30 ?_
      refine lv_if_eq (tgt := 60) hx hb d_Run_sendPlans_31 (by decide) (fun hc => ?_) (fun hc => ?_)
      · replace hf1 := o_t hc hf1
        exact J60 _ _ _ _ _ _ hf1 hH (lv_sub hl [1, 2, 3, 0] rfl)
      · replace hf1 := o_f hc hf1
        refine lv_iload_n hx hb d_Run_sendPlans_34 rfl (lv_at hl 0 rfl) ?_
        refine q_cSi (As := [.int (M 2 x2.toNatClampNeg)]) (rest := []) S hX hH (c_Route_roundOf l hI M (M 2 x2.toNatClampNeg) rfl) (cw_Run_156 S.2.2.2.2 (Nat.le_trans (Nat.le_of_ble_eq_true rfl) hR.1) (Nat.le_trans (Nat.le_of_ble_eq_true rfl) hR.2)) rfl hl.1 rfl (Nat.le_of_ble_eq_true rfl) d_Run_sendPlans_35 ⟨Nat.zero_le _, Nat.zero_le _⟩ (fun H locs hH => ?_)
        refine lv_iload_n hx hb d_Run_sendPlans_38 rfl (lv_at hl 2 rfl) ?_
        refine lv_icmp_ne (tgt := 60) hx hb d_Run_sendPlans_39 (by decide) (fun hc => ?_) (fun hc => ?_)
        · replace hf1 := o_f hc hf1
          exact J60 _ _ _ _ _ _ hf1 hH (lv_sub hl [1, 2, 3, 0] rfl)
        · replace hf1 := o_t hc hf1
          refine lv_aload_n hx hb d_Run_sendPlans_42 rfl (lv_at hl 1 rfl) ?_
          refine g_Run_47 S hX hH hZ hk d_Run_sendPlans_43 ?_
          refine lv_iload_n hx hb d_Run_sendPlans_46 rfl (lv_at hl 0 rfl) ?_
          refine q_cSi (As := [.int (M 2 x2.toNatClampNeg)]) (rest := [.ref (Z.2.2.1 0)]) S hX hH (c_Route_fromOf l hI M (M 2 x2.toNatClampNeg) rfl) (cw_Run_159 S.2.2.2.2 (Nat.le_trans (Nat.le_of_ble_eq_true rfl) hR.1) (Nat.le_trans (Nat.le_of_ble_eq_true rfl) hR.2)) rfl hl.1 rfl (Nat.le_of_ble_eq_true rfl) d_Run_sendPlans_47 ⟨Nat.zero_le _, Nat.zero_le _⟩ (fun H locs hH => ?_)
          refine q_cVi (As := [.int (f_Route_fromOf (M 2 x2.toNatClampNeg))]) (rest := []) S hX hH (c_Play_isLiar l hI hZ 0 M (f_Route_fromOf (M 2 x2.toNatClampNeg)) isPlay_0 rfl) (cw_Run_118 S.2.2.2.2 (Nat.le_trans (Nat.le_of_ble_eq_true rfl) hR.1) (Nat.le_trans (Nat.le_of_ble_eq_true rfl) hR.2)) (rc_Play hX hH hZ isPlay_0) rfl hl.1 rfl (Nat.le_of_ble_eq_true rfl) d_Run_sendPlans_50 ⟨Nat.zero_le _, Nat.zero_le _⟩ (fun H locs hH => ?_)
          refine lv_if_eq (tgt := 60) hx hb d_Run_sendPlans_53 (by decide) (fun hc => ?_) (fun hc => ?_)
          · replace hf1 := o_t hc hf1
            exact J60 _ _ _ _ _ _ hf1 hH (lv_sub hl [1, 2, 3, 0] rfl)
          · replace hf1 := o_f hc hf1
            refine lv_iconst (v := (1 : Int32)) hx hb d_Run_sendPlans_56 (by decide) ?_
            refine lv_goto (tgt := 61) hx hb d_Run_sendPlans_57 (by decide) ?_
            exact J61 _ _ _ _ _ _ _ hf1 hH (lv_sub hl [1, 2, 3, 0] rfl)
  refine lv_iconst (v := (0 : Int32)) hx hb d_Run_sendPlans_0 (by decide) ?_
  refine lv_istore_n (lv' := [(2, .int (0 : Int32)), (0, .ref (Z.2.2.1 k)), (1, .int x1)]) hx hb d_Run_sendPlans_1 rfl hl (by decide) rfl (fun ls hl => ?_)
  exact J2 _ _ _ _ _ _ hf0 hH (lv_sub hl [1, 2, 0] rfl)
theorem c_Run_sendPlans (l : Launch) {Z : WD} (hI : wI Z) (hZ : IsC Z) (k : Nat) (M : Mem) (x1 : Int32) (hk : isRun k) {M' : Mem} (hf : f_Run_sendPlans k M x1 = some M') : Cv l Z y_Run_sendPlans b_Run_sendPlans 5 none 2 45 [.ref (Z.2.2.1 k), .int x1] M M' := by
  refine Met.ofW (cc := b_Run_sendPlans) (maxL := 5) (ret := none) (by decide) rfl ?_
  intro p e s m args below meth c s₁ B hml hv
  obtain ⟨rfl, hP, hX⟩ := hv
  have S : CallFix p m c b_Run_sendPlans 5 s ([.ref (Z.2.2.1 k), .int x1] : List Value).toArray gtb R_Run := ⟨B.exec, B.bytes, hml, findClass_of_methodNamed B.named, fun w hw => atoms_spec (ws := .code y_Run_sendPlans b_Run_sendPlans 5 none :: gtb) B.pre w (List.mem_cons_of_mem _ hw)⟩
  have hl := lv_entry ([.ref (Z.2.2.1 k), .int x1]) (n := 5) (Nat.le_of_ble_eq_true rfl)
  rw [lg_entry_eq]
  exact wk_Run_sendPlans hI hZ k M x1 hk S hX ⟨Nat.le_refl _, Nat.le_refl _⟩ (fun pc H locs ls hH d => q_rv S.1 S.2.1 B.returns B.notSynchronized hH rfl d) hf ⟨hP, va_S.rf⟩ hl
noncomputable def f_Run_rowOf (x0 : Int32) : Int32 := x0 * (8 : Int32)
set_option maxHeartbeats 4000000 in
theorem wk_Run_rowOf {l : Launch} {Z : WD} (hI : wI Z) (M : Mem) (x0 : Int32) {r : Int32} {p : Program} {e : Env} {R : Room} {s : State} {m : MethodId} {args : Array Value} {below : List Frame} {meth : Method} {c : Code} {H : Heap} {locs : List Loc} {ls : Array Slot} {Q : State → Prop} (S : CallFix p m c b_Run_rowOf 1 s args gtb R_Run) (hX : wX Z s) (hR : 0 ≤ R.frames ∧ 0 ≤ R.locals) (hQ : ∀ (pc : Nat) (H : Heap) (locs : List Loc) (ls : Array Slot), HW Z M s H locs → decode b_Run_rowOf pc = .ok (.ireturn, 1) → W p l e R s m args below meth c H locs 0 0 Q (F0 m pc ls [.int r])) (hf0 : f_Run_rowOf x0 = r) (hH : HW Z M s H locs) (hl : lv_has ls 1 [(0, .int x0)]) : W p l e R s m args below meth c H locs 0 0 Q (F0 m 0 ls []) := by
  have hx := S.1
  have hb := S.2.1
  have hown := S.2.2.2.1
  have ht := S.2.2.2.2
  unfold f_Run_rowOf at hf0
  refine lv_iload_n hx hb d_Run_rowOf_0 rfl (lv_at hl 0 rfl) ?_
  refine lv_bipush (v := (8 : Int32)) hx hb d_Run_rowOf_1 (by decide) ?_
  refine lv_imul hx hb d_Run_rowOf_3 ?_
  subst hf0
  exact hQ _ _ _ _ hH d_Run_rowOf_4
theorem c_Run_rowOf (l : Launch) {Z : WD} (hI : wI Z) (M : Mem) (x0 : Int32) {r : Int32} (hf : f_Run_rowOf x0 = r) : Ci l Z y_Run_rowOf b_Run_rowOf 1 (some .int) 0 0 [.int x0] M M r := by
  refine Met.ofW (cc := b_Run_rowOf) (maxL := 1) (ret := (some .int)) (by decide) rfl ?_
  intro p e s m args below meth c s₁ B hml hv
  obtain ⟨rfl, hP, hX⟩ := hv
  have S : CallFix p m c b_Run_rowOf 1 s ([.int x0] : List Value).toArray gtb R_Run := ⟨B.exec, B.bytes, hml, findClass_of_methodNamed B.named, fun w hw => atoms_spec (ws := .code y_Run_rowOf b_Run_rowOf 1 (some .int) :: gtb) B.pre w (List.mem_cons_of_mem _ hw)⟩
  have hl := lv_entry ([.int x0]) (n := 1) (Nat.le_of_ble_eq_true rfl)
  rw [lg_entry_eq]
  exact wk_Run_rowOf hI M x0 S hX ⟨Nat.le_refl _, Nat.le_refl _⟩ (fun pc H locs ls hH d => q_ri S.1 S.2.1 B.returns B.notSynchronized hH rfl rfl d) hf ⟨hP, va_S.rf⟩ hl
noncomputable def f_Run_learn_L3 (k : Nat) (x1 : Int32) (x2 : Int32) (x3 : Int32) (x4 : Int32) (M : Mem) : Option ((Int32 × Mem) ⊕ Mem) := if (f_Chain_size x1) ≤ x4 then some (.inr M) else 
    gIn (f_MC_cellOf (f_Chain_markAt x1 x4) x2) 32 (lt1 (upM M (k + 10) ((f_MC_cellOf (f_Chain_markAt x1 x4) x2).toNatClampNeg) (miI (M (k + 10) (f_MC_cellOf (f_Chain_markAt x1 x4) x2).toNatClampNeg) (x3 + (1 : Int32)))) (fun M2 => some (.inl (x4 + (1 : Int32), M2))))
noncomputable def f_Run_learn_W3 (k : Nat) (x1 : Int32) (x2 : Int32) (x3 : Int32) (u : (Int32 × Mem)) : Option Mem := loop (fun t => f_Run_learn_L3 k x1 x2 x3 t.1 t.2) u
noncomputable def f_Run_learn_J3 (k : Nat) (M : Mem) (x1 : Int32) (x2 : Int32) (x3 : Int32) (x4 : Int32) : Option (Mem) := bnd (f_Run_learn_W3 k x1 x2 x3 (x4, M)) (fun e3 => some e3)
noncomputable def f_Run_learn (k : Nat) (M : Mem) (x1 : Int32) (x2 : Int32) (x3 : Int32) : Option Mem := f_Run_learn_J3 k M x1 x2 x3 (0 : Int32)
set_option maxHeartbeats 4000000 in
theorem wk_Run_learn {l : Launch} {Z : WD} (hI : wI Z) (hZ : IsC Z) (k : Nat) (M : Mem) (x1 : Int32) (x2 : Int32) (x3 : Int32) (hk : isRun k) {M' : Mem} {p : Program} {e : Env} {R : Room} {s : State} {m : MethodId} {args : Array Value} {below : List Frame} {meth : Method} {c : Code} {H : Heap} {locs : List Loc} {ls : Array Slot} {Q : State → Prop} (S : CallFix p m c b_Run_learn 6 s args gtb R_Run) (hX : wX Z s) (hR : 1 ≤ R.frames ∧ 21 ≤ R.locals) (hQ : ∀ (pc : Nat) (H : Heap) (locs : List Loc) (ls : Array Slot), HW Z M' s H locs → decode b_Run_learn pc = .ok (.return_, 1) → W p l e R s m args below meth c H locs 0 0 Q (F0 m pc ls [])) (hf0 : f_Run_learn k M x1 x2 x3 = some M') (hH : HW Z M s H locs) (hl : lv_has ls 6 [(0, .ref (Z.2.2.1 k)), (1, .int x1), (2, .int x2), (3, .int x3)]) : W p l e R s m args below meth c H locs 0 0 Q (F0 m 0 ls []) := by
  have hx := S.1
  have hb := S.2.1
  have hown := S.2.2.2.1
  have ht := S.2.2.2.2
  unfold f_Run_learn at hf0
  have J3 : ∀ (M : Mem) (x1 : Int32) (x2 : Int32) (x3 : Int32) (x4 : Int32) (H : Heap) (locs : List Loc) (ls : Array Slot), f_Run_learn_J3 k M x1 x2 x3 x4 = some M' → HW Z M s H locs → lv_has ls 6 [(0, .ref (Z.2.2.1 k)), (1, .int x1), (2, .int x2), (3, .int x3), (4, .int x4)] → W p l e R s m args below meth c H locs 0 0 Q (F0 m 3 ls []) := by
    intro M x1 x2 x3 x4 H locs ls hf0 hH hl
    unfold f_Run_learn_J3 at hf0
    obtain ⟨e3, he3, hf0⟩ := o_b hf0
    unfold f_Run_learn_W3 at he3
    refine loop_W (fun t => ∀ (H : Heap) (locs : List Loc) (ls : Array Slot), HW Z t.2 s H locs → lv_has ls 6 [(0, .ref (Z.2.2.1 k)), (1, .int x1), (2, .int x2), (3, .int x3), (4, .int t.1)] → W p l e R s m args below meth c H locs 0 0 Q (F0 m 3 ls [])) ?_ he3 H locs ls hH hl
    rintro ⟨x4, M⟩ o1 hf1 hG1 hR1 H locs ls hH hl
    replace hH : HW Z M s H locs := hH
    replace hl : lv_has ls 6 [(0, .ref (Z.2.2.1 k)), (1, .int x1), (2, .int x2), (3, .int x3), (4, .int x4)] := hl
    replace hf1 : f_Run_learn_L3 k x1 x2 x3 x4 M = some o1 := hf1
    unfold f_Run_learn_L3 at hf1
    refine lv_iload hx hb d_Run_learn_3 (lv_at hl 4 rfl) ?_
    refine lv_iload_n hx hb d_Run_learn_5 rfl (lv_at hl 1 rfl) ?_
    refine q_cSi (As := [.int x1]) (rest := [.int x4]) S hX hH (c_Chain_size l hI M x1 rfl) (cw_Run_172 S.2.2.2.2 (Nat.le_trans (Nat.le_of_ble_eq_true rfl) hR.1) (Nat.le_trans (Nat.le_of_ble_eq_true rfl) hR.2)) rfl hl.1 rfl (Nat.le_of_ble_eq_true rfl) d_Run_learn_6 ⟨Nat.zero_le _, Nat.zero_le _⟩ (fun H locs hH => ?_)
    refine lv_icmp_ge (tgt := 50) hx hb d_Run_learn_9 (by decide) (fun hc => ?_) (fun hc => ?_)
    · replace hf1 := o_t hc hf1
      obtain rfl := hR1 _ (o_v hf1).symm
      obtain rfl := o_v hf0
      exact hQ _ _ _ _ hH d_Run_learn_50
    · replace hf1 := o_f hc hf1
      refine lv_iload_n hx hb d_Run_learn_12 rfl (lv_at hl 1 rfl) ?_
      refine lv_iload hx hb d_Run_learn_13 (lv_at hl 4 rfl) ?_
      refine q_cSi (As := [.int x1, .int x4]) (rest := []) S hX hH (c_Chain_markAt l hI M x1 x4 rfl) (cw_Run_175 S.2.2.2.2 (Nat.le_trans (Nat.le_of_ble_eq_true rfl) hR.1) (Nat.le_trans (Nat.le_of_ble_eq_true rfl) hR.2)) rfl hl.1 rfl (Nat.le_of_ble_eq_true rfl) d_Run_learn_15 ⟨Nat.zero_le _, Nat.zero_le _⟩ (fun H locs hH => ?_)
      refine lv_iload_n hx hb d_Run_learn_18 rfl (lv_at hl 2 rfl) ?_
      refine q_cNi (As := [.int (f_Chain_markAt x1 x4), .int x2]) (rest := []) S hX hH (c_MC_cellOf l hI M (f_Chain_markAt x1 x4) x2 rfl) (cw_Run_125 S.2.2.2.2 hX.2.1 (Nat.le_trans (Nat.le_of_ble_eq_true rfl) hR.1) (Nat.le_trans (Nat.le_of_ble_eq_true rfl) hR.2)) rfl hl.1 rfl (Nat.le_of_ble_eq_true rfl) d_Run_learn_19 ⟨Nat.zero_le _, Nat.zero_le _⟩ (fun H locs hH => ?_)
      refine lv_istore (lv' := [(5, .int (f_MC_cellOf (f_Chain_markAt x1 x4) x2)), (0, .ref (Z.2.2.1 k)), (1, .int x1), (2, .int x2), (3, .int x3), (4, .int x4)]) hx hb d_Run_learn_22 hl (by decide) rfl (fun ls hl => ?_)
      refine lv_aload_n hx hb d_Run_learn_24 rfl (lv_at hl 1 rfl) ?_
      refine g_Run_41 S hX hH hZ hk d_Run_learn_25 ?_
      refine lv_iload hx hb d_Run_learn_28 (lv_at hl 0 rfl) ?_
      refine lv_aload_n hx hb d_Run_learn_30 rfl (lv_at hl 1 rfl) ?_
      refine g_Run_41 S hX hH hZ hk d_Run_learn_31 ?_
      refine lv_iload hx hb d_Run_learn_34 (lv_at hl 0 rfl) ?_
      obtain ⟨hn1, hf1⟩ := o_in hf1
      refine q_iald (j := (f_MC_cellOf (f_Chain_markAt x1 x4) x2).toNatClampNeg) hx hb hX hH (aa_Run_10 hZ hk) hn1 rfl d_Run_learn_36 ?_
      refine lv_iload_n hx hb d_Run_learn_37 rfl (lv_at hl 4 rfl) ?_
      refine lv_iconst (v := (1 : Int32)) hx hb d_Run_learn_38 (by decide) ?_
      refine lv_iadd hx hb d_Run_learn_39 ?_
      refine q_min S hl.1 w2_60 w2_61 w1_9 w2_62 (Nat.le_trans (Nat.le_of_ble_eq_true rfl) hR.1) (Nat.le_trans (Nat.le_of_ble_eq_true rfl) hR.2) d_Run_learn_40 ?_
      obtain ⟨M2, hM2, hf1⟩ := o_l hf1
      refine q_iast (j := (f_MC_cellOf (f_Chain_markAt x1 x4) x2).toNatClampNeg) hx hb hX hI hH (aa_Run_10 hZ hk) hn1 rfl d_Run_learn_43 (fun H locs hH => ?_)
      rw [hM2] at hH
      refine lv_iinc (v := x4 + (1 : Int32)) (lv' := [(4, .int (x4 + (1 : Int32))), (5, .int (f_MC_cellOf (f_Chain_markAt x1 x4) x2)), (0, .ref (Z.2.2.1 k)), (1, .int x1), (2, .int x2), (3, .int x3)]) hx hb d_Run_learn_44 hl (k := 5) rfl rfl (by decide) rfl (fun ls hl => ?_)
      refine lv_goto (tgt := 3) hx hb d_Run_learn_47 (by decide) ?_
      exact hG1 _ (o_v hf1).symm _ _ _ hH (lv_sub hl [2, 3, 4, 5, 0] rfl)
  refine lv_iconst (v := (0 : Int32)) hx hb d_Run_learn_0 (by decide) ?_
  refine lv_istore (lv' := [(4, .int (0 : Int32)), (0, .ref (Z.2.2.1 k)), (1, .int x1), (2, .int x2), (3, .int x3)]) hx hb d_Run_learn_1 hl (by decide) rfl (fun ls hl => ?_)
  exact J3 _ _ _ _ _ _ _ _ hf0 hH (lv_sub hl [1, 2, 3, 4, 0] rfl)
theorem c_Run_learn (l : Launch) {Z : WD} (hI : wI Z) (hZ : IsC Z) (k : Nat) (M : Mem) (x1 : Int32) (x2 : Int32) (x3 : Int32) (hk : isRun k) {M' : Mem} (hf : f_Run_learn k M x1 x2 x3 = some M') : Cv l Z y_Run_learn b_Run_learn 6 none 1 21 [.ref (Z.2.2.1 k), .int x1, .int x2, .int x3] M M' := by
  refine Met.ofW (cc := b_Run_learn) (maxL := 6) (ret := none) (by decide) rfl ?_
  intro p e s m args below meth c s₁ B hml hv
  obtain ⟨rfl, hP, hX⟩ := hv
  have S : CallFix p m c b_Run_learn 6 s ([.ref (Z.2.2.1 k), .int x1, .int x2, .int x3] : List Value).toArray gtb R_Run := ⟨B.exec, B.bytes, hml, findClass_of_methodNamed B.named, fun w hw => atoms_spec (ws := .code y_Run_learn b_Run_learn 6 none :: gtb) B.pre w (List.mem_cons_of_mem _ hw)⟩
  have hl := lv_entry ([.ref (Z.2.2.1 k), .int x1, .int x2, .int x3]) (n := 6) (Nat.le_of_ble_eq_true rfl)
  rw [lg_entry_eq]
  exact wk_Run_learn hI hZ k M x1 x2 x3 hk S hX ⟨Nat.le_refl _, Nat.le_refl _⟩ (fun pc H locs ls hH d => q_rv S.1 S.2.1 B.returns B.notSynchronized hH rfl d) hf ⟨hP, va_S.rf⟩ hl
noncomputable def f_Run_counts_J29 (k : Nat) (M : Mem) : Bool := false
noncomputable def f_Run_counts (k : Nat) (M : Mem) (x1 : Int32) (x2 : Int32) : Bool := 
    if (f_Chain_markAt x1 (0 : Int32)) = (M 1 0) then if (f_Chain_size x1) < x2 then f_Run_counts_J29 k M else true else f_Run_counts_J29 k M
set_option maxHeartbeats 4000000 in
theorem wk_Run_counts {l : Launch} {Z : WD} (hI : wI Z) (hZ : IsC Z) (k : Nat) (M : Mem) (x1 : Int32) (x2 : Int32) (hk : isRun k) {r : Bool} {p : Program} {e : Env} {R : Room} {s : State} {m : MethodId} {args : Array Value} {below : List Frame} {meth : Method} {c : Code} {H : Heap} {locs : List Loc} {ls : Array Slot} {Q : State → Prop} (S : CallFix p m c b_Run_counts 3 s args gtb R_Run) (hX : wX Z s) (hR : 1 ≤ R.frames ∧ 21 ≤ R.locals) (hQ : ∀ (pc : Nat) (H : Heap) (locs : List Loc) (ls : Array Slot), HW Z M s H locs → decode b_Run_counts pc = .ok (.ireturn, 1) → W p l e R s m args below meth c H locs 0 0 Q (F0 m pc ls [.int (bI r)])) (hf0 : f_Run_counts k M x1 x2 = r) (hH : HW Z M s H locs) (hl : lv_has ls 3 [(0, .ref (Z.2.2.1 k)), (1, .int x1), (2, .int x2)]) : W p l e R s m args below meth c H locs 0 0 Q (F0 m 0 ls []) := by
  have hx := S.1
  have hb := S.2.1
  have hown := S.2.2.2.1
  have ht := S.2.2.2.2
  unfold f_Run_counts at hf0
  have J29 : ∀ (H : Heap) (locs : List Loc) (ls : Array Slot), f_Run_counts_J29 k M = r → HW Z M s H locs → lv_has ls 3 [] → W p l e R s m args below meth c H locs 0 0 Q (F0 m 29 ls []) := by
    intro H locs ls hf0 hH hl
    unfold f_Run_counts_J29 at hf0
    refine lv_iconst (v := (0 : Int32)) hx hb d_Run_counts_29 (by decide) ?_
    subst hf0
    exact hQ _ _ _ _ hH d_Run_counts_30
  refine lv_iload_n hx hb d_Run_counts_0 rfl (lv_at hl 1 rfl) ?_
  refine lv_iconst (v := (0 : Int32)) hx hb d_Run_counts_1 (by decide) ?_
  refine q_cSi (As := [.int x1, .int (0 : Int32)]) (rest := []) S hX hH (c_Chain_markAt l hI M x1 (0 : Int32) rfl) (cw_Run_175 S.2.2.2.2 (Nat.le_trans (Nat.le_of_ble_eq_true rfl) hR.1) (Nat.le_trans (Nat.le_of_ble_eq_true rfl) hR.2)) rfl hl.1 rfl (Nat.le_of_ble_eq_true rfl) d_Run_counts_2 ⟨Nat.zero_le _, Nat.zero_le _⟩ (fun H locs hH => ?_)
  refine lv_aload_n hx hb d_Run_counts_5 rfl (lv_at hl 0 rfl) ?_
  refine g_Run_47 S hX hH hZ hk d_Run_counts_6 ?_
  refine g_Run_51 S hX hH hZ isPlay_0 d_Run_counts_9 ?_
  refine lv_iconst (v := (0 : Int32)) hx hb d_Run_counts_12 (by decide) ?_
  refine q_iald (j := 0) hx hb hX hH (aa_Play_1 hZ isPlay_0) (vp_c (by decide)) (by decide) d_Run_counts_13 ?_
  refine lv_icmp_ne (tgt := 29) hx hb d_Run_counts_14 (by decide) (fun hc => ?_) (fun hc => ?_)
  · replace hf0 := o_f hc hf0
    exact J29 _ _ _ hf0 hH (lv_sub hl [] rfl)
  · replace hf0 := o_t hc hf0
    refine lv_iload_n hx hb d_Run_counts_17 rfl (lv_at hl 1 rfl) ?_
    refine q_cSi (As := [.int x1]) (rest := []) S hX hH (c_Chain_size l hI M x1 rfl) (cw_Run_172 S.2.2.2.2 (Nat.le_trans (Nat.le_of_ble_eq_true rfl) hR.1) (Nat.le_trans (Nat.le_of_ble_eq_true rfl) hR.2)) rfl hl.1 rfl (Nat.le_of_ble_eq_true rfl) d_Run_counts_18 ⟨Nat.zero_le _, Nat.zero_le _⟩ (fun H locs hH => ?_)
    refine lv_iload_n hx hb d_Run_counts_21 rfl (lv_at hl 2 rfl) ?_
    refine lv_icmp_lt (tgt := 29) hx hb d_Run_counts_22 (by decide) (fun hc => ?_) (fun hc => ?_)
    · replace hf0 := o_t hc hf0
      exact J29 _ _ _ hf0 hH (lv_sub hl [] rfl)
    · replace hf0 := o_f hc hf0
      refine lv_iconst (v := (1 : Int32)) hx hb d_Run_counts_25 (by decide) ?_
      refine lv_goto (tgt := 30) hx hb d_Run_counts_26 (by decide) ?_
      subst hf0
      exact hQ _ _ _ _ hH d_Run_counts_30
theorem c_Run_counts (l : Launch) {Z : WD} (hI : wI Z) (hZ : IsC Z) (k : Nat) (M : Mem) (x1 : Int32) (x2 : Int32) (hk : isRun k) {r : Bool} (hf : f_Run_counts k M x1 x2 = r) : Ci l Z y_Run_counts b_Run_counts 3 (some .boolean) 1 21 [.ref (Z.2.2.1 k), .int x1, .int x2] M M (bI r) := by
  refine Met.ofW (cc := b_Run_counts) (maxL := 3) (ret := (some .boolean)) (by decide) rfl ?_
  intro p e s m args below meth c s₁ B hml hv
  obtain ⟨rfl, hP, hX⟩ := hv
  have S : CallFix p m c b_Run_counts 3 s ([.ref (Z.2.2.1 k), .int x1, .int x2] : List Value).toArray gtb R_Run := ⟨B.exec, B.bytes, hml, findClass_of_methodNamed B.named, fun w hw => atoms_spec (ws := .code y_Run_counts b_Run_counts 3 (some .boolean) :: gtb) B.pre w (List.mem_cons_of_mem _ hw)⟩
  have hl := lv_entry ([.ref (Z.2.2.1 k), .int x1, .int x2]) (n := 3) (Nat.le_of_ble_eq_true rfl)
  rw [lg_entry_eq]
  exact wk_Run_counts hI hZ k M x1 x2 hk S hX ⟨Nat.le_refl _, Nat.le_refl _⟩ (fun pc H locs ls hH d => q_rz S.1 S.2.1 B.returns B.notSynchronized hH rfl rfl d) hf ⟨hP, va_S.rf⟩ hl
theorem cw_Run_97 {R : Room} {s : State} {args : Array Value} (ht : ∀ w ∈ gtb, w.before args s = true) (h1 : 0 + 1 ≤ R.frames) (h2 : 8 + (1 + 11) + 0 ≤ R.locals) : CallB R s args R_Run 97 y_Run_rowOf b_Run_rowOf 1 (some .int) (.code y_Run_rowOf b_Run_rowOf 1 (some .int) :: gtb) { frames := 0, cells := 0, slots := 0, locals := 0 } 0 0 1 ∧ (Cond.static y_Run_rowOf).before args s = true := va_cwS 1 ht (gS w2_43 w2_44 w1_4 w2_45) rfl rfl rfl ⟨by decide, by decide, by decide +kernel⟩ ⟨h1, h2⟩
noncomputable def f_Run_takes (k : Nat) (M : Mem) (x1 : Int32) (x2 : Int32) (x3 : Int32) : Option (Bool × Mem) := 
    gIn x1 212 (gIn ((f_Run_rowOf x3) + x2) 72 (if ((M (k + 11) ((f_Run_rowOf x3) + x2).toNatClampNeg) &&& ((1 : Int32) <<< ((M (k + 3) x1.toNatClampNeg) &&& 31))) = 0 then 
    lt1 (upM M (k + 11) (((f_Run_rowOf x3) + x2).toNatClampNeg) ((M (k + 11) ((f_Run_rowOf x3) + x2).toNatClampNeg) ||| ((1 : Int32) <<< ((M (k + 3) x1.toNatClampNeg) &&& 31)))) (fun M3 => 
    gIn (f_MC_cellOf x2 (M3 (k + 3) x1.toNatClampNeg)) 32 (lt1 (upM M3 (k + 7) ((f_MC_cellOf x2 (M3 (k + 3) x1.toNatClampNeg)).toNatClampNeg) x3) (fun M5 => 
    lt1 (upM M5 (k + 8) ((f_MC_cellOf x2 (M3 (k + 3) x1.toNatClampNeg)).toNatClampNeg) (f_Route_fromOf (M5 (k + 2) x1.toNatClampNeg))) (fun M6 => 
    lt1 (upM M6 (k + 9) ((f_MC_cellOf x2 (M3 (k + 3) x1.toNatClampNeg)).toNatClampNeg) (M6 (k + 4) x1.toNatClampNeg)) (fun M7 => some (true, M7)))))) else some (false, M)))
set_option maxHeartbeats 4000000 in
theorem wk_Run_takes {l : Launch} {Z : WD} (hI : wI Z) (hZ : IsC Z) (k : Nat) (M : Mem) (x1 : Int32) (x2 : Int32) (x3 : Int32) (hk : isRun k) {r : Bool} {M' : Mem} {p : Program} {e : Env} {R : Room} {s : State} {m : MethodId} {args : Array Value} {below : List Frame} {meth : Method} {c : Code} {H : Heap} {locs : List Loc} {ls : Array Slot} {Q : State → Prop} (S : CallFix p m c b_Run_takes 7 s args gtb R_Run) (hX : wX Z s) (hR : 1 ≤ R.frames ∧ 21 ≤ R.locals) (hQ : ∀ (pc : Nat) (H : Heap) (locs : List Loc) (ls : Array Slot), HW Z M' s H locs → decode b_Run_takes pc = .ok (.ireturn, 1) → W p l e R s m args below meth c H locs 0 0 Q (F0 m pc ls [.int (bI r)])) (hf0 : f_Run_takes k M x1 x2 x3 = some (r, M')) (hH : HW Z M s H locs) (hl : lv_has ls 7 [(0, .ref (Z.2.2.1 k)), (1, .int x1), (2, .int x2), (3, .int x3)]) : W p l e R s m args below meth c H locs 0 0 Q (F0 m 0 ls []) := by
  have hx := S.1
  have hb := S.2.1
  have hown := S.2.2.2.1
  have ht := S.2.2.2.2
  unfold f_Run_takes at hf0
  refine lv_iconst (v := (1 : Int32)) hx hb d_Run_takes_0 (by decide) ?_
  refine lv_aload_n hx hb d_Run_takes_1 rfl (lv_at hl 0 rfl) ?_
  refine g_Run_20 S hX hH hZ hk d_Run_takes_2 ?_
  refine lv_iload_n hx hb d_Run_takes_5 rfl (lv_at hl 1 rfl) ?_
  obtain ⟨hn1, hf0⟩ := o_in hf0
  refine q_iald (j := x1.toNatClampNeg) hx hb hX hH (aa_Run_3 hZ hk) hn1 rfl d_Run_takes_6 ?_
  refine lv_ishl hx hb d_Run_takes_7 ?_
  refine lv_istore (lv' := [(4, .int ((1 : Int32) <<< ((M (k + 3) x1.toNatClampNeg) &&& 31))), (0, .ref (Z.2.2.1 k)), (1, .int x1), (2, .int x2), (3, .int x3)]) hx hb d_Run_takes_8 hl (by decide) rfl (fun ls hl => ?_)
  refine lv_iload_n hx hb d_Run_takes_10 rfl (lv_at hl 4 rfl) ?_
  refine q_cSi (As := [.int x3]) (rest := []) S hX hH (c_Run_rowOf l hI M x3 rfl) (cw_Run_97 S.2.2.2.2 (Nat.le_trans (Nat.le_of_ble_eq_true rfl) hR.1) (Nat.le_trans (Nat.le_of_ble_eq_true rfl) hR.2)) rfl hl.1 rfl (Nat.le_of_ble_eq_true rfl) d_Run_takes_11 ⟨Nat.zero_le _, Nat.zero_le _⟩ (fun H locs hH => ?_)
  refine lv_iload_n hx hb d_Run_takes_14 rfl (lv_at hl 3 rfl) ?_
  refine lv_iadd hx hb d_Run_takes_15 ?_
  refine lv_istore (lv' := [(5, .int ((f_Run_rowOf x3) + x2)), (4, .int ((1 : Int32) <<< ((M (k + 3) x1.toNatClampNeg) &&& 31))), (0, .ref (Z.2.2.1 k)), (1, .int x1), (2, .int x2), (3, .int x3)]) hx hb d_Run_takes_16 hl (by decide) rfl (fun ls hl => ?_)
  refine lv_aload_n hx hb d_Run_takes_18 rfl (lv_at hl 2 rfl) ?_
  refine g_Run_44 S hX hH hZ hk d_Run_takes_19 ?_
  refine lv_iload hx hb d_Run_takes_22 (lv_at hl 0 rfl) ?_
  obtain ⟨hn2, hf0⟩ := o_in hf0
  refine q_iald (j := ((f_Run_rowOf x3) + x2).toNatClampNeg) hx hb hX hH (aa_Run_11 hZ hk) hn2 rfl d_Run_takes_24 ?_
  refine lv_iload hx hb d_Run_takes_25 (lv_at hl 1 rfl) ?_
  refine lv_iand hx hb d_Run_takes_27 ?_
  refine lv_if_eq (tgt := 33) hx hb d_Run_takes_28 (by decide) (fun hc => ?_) (fun hc => ?_)
  · replace hf0 := o_t hc hf0
    refine lv_aload_n hx hb d_Run_takes_33 rfl (lv_at hl 2 rfl) ?_
    refine g_Run_44 S hX hH hZ hk d_Run_takes_34 ?_
    refine lv_iload hx hb d_Run_takes_37 (lv_at hl 0 rfl) ?_
    refine lv_dup2_11 hx hb d_Run_takes_39 rfl rfl ?_
    refine q_iald (j := ((f_Run_rowOf x3) + x2).toNatClampNeg) hx hb hX hH (aa_Run_11 hZ hk) hn2 rfl d_Run_takes_40 ?_
    refine lv_iload hx hb d_Run_takes_41 (lv_at hl 1 rfl) ?_
    refine lv_ior hx hb d_Run_takes_43 ?_
    obtain ⟨M3, hM3, hf0⟩ := o_l hf0
    refine q_iast (j := ((f_Run_rowOf x3) + x2).toNatClampNeg) hx hb hX hI hH (aa_Run_11 hZ hk) hn2 rfl d_Run_takes_44 (fun H locs hH => ?_)
    rw [hM3] at hH
    refine lv_iload_n hx hb d_Run_takes_45 rfl (lv_at hl 4 rfl) ?_
    refine lv_aload_n hx hb d_Run_takes_46 rfl (lv_at hl 2 rfl) ?_
    refine g_Run_20 S hX hH hZ hk d_Run_takes_47 ?_
    refine lv_iload_n hx hb d_Run_takes_50 rfl (lv_at hl 3 rfl) ?_
    refine q_iald (j := x1.toNatClampNeg) hx hb hX hH (aa_Run_3 hZ hk) hn1 rfl d_Run_takes_51 ?_
    refine q_cNi (As := [.int x2, .int (M3 (k + 3) x1.toNatClampNeg)]) (rest := []) S hX hH (c_MC_cellOf l hI M3 x2 (M3 (k + 3) x1.toNatClampNeg) rfl) (cw_Run_125 S.2.2.2.2 hX.2.1 (Nat.le_trans (Nat.le_of_ble_eq_true rfl) hR.1) (Nat.le_trans (Nat.le_of_ble_eq_true rfl) hR.2)) rfl hl.1 rfl (Nat.le_of_ble_eq_true rfl) d_Run_takes_52 ⟨Nat.zero_le _, Nat.zero_le _⟩ (fun H locs hH => ?_)
    refine lv_istore (lv' := [(6, .int (f_MC_cellOf x2 (M3 (k + 3) x1.toNatClampNeg))), (5, .int ((f_Run_rowOf x3) + x2)), (4, .int ((1 : Int32) <<< ((M (k + 3) x1.toNatClampNeg) &&& 31))), (0, .ref (Z.2.2.1 k)), (1, .int x1), (2, .int x2), (3, .int x3)]) hx hb d_Run_takes_55 hl (by decide) rfl (fun ls hl => ?_)
    refine lv_aload_n hx hb d_Run_takes_57 rfl (lv_at hl 3 rfl) ?_
    refine g_Run_32 S hX hH hZ hk d_Run_takes_58 ?_
    refine lv_iload hx hb d_Run_takes_61 (lv_at hl 0 rfl) ?_
    refine lv_iload_n hx hb d_Run_takes_63 rfl (lv_at hl 6 rfl) ?_
    obtain ⟨hn4, hf0⟩ := o_in hf0
    obtain ⟨M5, hM5, hf0⟩ := o_l hf0
    refine q_iast (j := (f_MC_cellOf x2 (M3 (k + 3) x1.toNatClampNeg)).toNatClampNeg) hx hb hX hI hH (aa_Run_7 hZ hk) hn4 rfl d_Run_takes_64 (fun H locs hH => ?_)
    rw [hM5] at hH
    refine lv_aload_n hx hb d_Run_takes_65 rfl (lv_at hl 3 rfl) ?_
    refine g_Run_35 S hX hH hZ hk d_Run_takes_66 ?_
    refine lv_iload hx hb d_Run_takes_69 (lv_at hl 0 rfl) ?_
    refine lv_aload_n hx hb d_Run_takes_71 rfl (lv_at hl 3 rfl) ?_
    refine g_Run_17 S hX hH hZ hk d_Run_takes_72 ?_
    refine lv_iload_n hx hb d_Run_takes_75 rfl (lv_at hl 4 rfl) ?_
    refine q_iald (j := x1.toNatClampNeg) hx hb hX hH (aa_Run_2 hZ hk) hn1 rfl d_Run_takes_76 ?_
    refine q_cSi (As := [.int (M5 (k + 2) x1.toNatClampNeg)]) (rest := [.int (f_MC_cellOf x2 (M3 (k + 3) x1.toNatClampNeg)), .ref (Z.2.2.1 (k + 8))]) S hX hH (c_Route_fromOf l hI M5 (M5 (k + 2) x1.toNatClampNeg) rfl) (cw_Run_159 S.2.2.2.2 (Nat.le_trans (Nat.le_of_ble_eq_true rfl) hR.1) (Nat.le_trans (Nat.le_of_ble_eq_true rfl) hR.2)) rfl hl.1 rfl (Nat.le_of_ble_eq_true rfl) d_Run_takes_77 ⟨Nat.zero_le _, Nat.zero_le _⟩ (fun H locs hH => ?_)
    obtain ⟨M6, hM6, hf0⟩ := o_l hf0
    refine q_iast (j := (f_MC_cellOf x2 (M3 (k + 3) x1.toNatClampNeg)).toNatClampNeg) hx hb hX hI hH (aa_Run_8 hZ hk) hn4 rfl d_Run_takes_80 (fun H locs hH => ?_)
    rw [hM6] at hH
    refine lv_aload_n hx hb d_Run_takes_81 rfl (lv_at hl 3 rfl) ?_
    refine g_Run_38 S hX hH hZ hk d_Run_takes_82 ?_
    refine lv_iload hx hb d_Run_takes_85 (lv_at hl 0 rfl) ?_
    refine lv_aload_n hx hb d_Run_takes_87 rfl (lv_at hl 3 rfl) ?_
    refine g_Run_23 S hX hH hZ hk d_Run_takes_88 ?_
    refine lv_iload_n hx hb d_Run_takes_91 rfl (lv_at hl 4 rfl) ?_
    refine q_iald (j := x1.toNatClampNeg) hx hb hX hH (aa_Run_4 hZ hk) hn1 rfl d_Run_takes_92 ?_
    obtain ⟨M7, hM7, hf0⟩ := o_l hf0
    refine q_iast (j := (f_MC_cellOf x2 (M3 (k + 3) x1.toNatClampNeg)).toNatClampNeg) hx hb hX hI hH (aa_Run_9 hZ hk) hn4 rfl d_Run_takes_93 (fun H locs hH => ?_)
    rw [hM7] at hH
    refine lv_iconst (v := (1 : Int32)) hx hb d_Run_takes_94 (by decide) ?_
    obtain ⟨rfl, rfl⟩ := o_p hf0
    exact hQ _ _ _ _ hH d_Run_takes_95
  · replace hf0 := o_f hc hf0
    refine lv_iconst (v := (0 : Int32)) hx hb d_Run_takes_31 (by decide) ?_
    obtain ⟨rfl, rfl⟩ := o_p hf0
    exact hQ _ _ _ _ hH d_Run_takes_32
theorem c_Run_takes (l : Launch) {Z : WD} (hI : wI Z) (hZ : IsC Z) (k : Nat) (M : Mem) (x1 : Int32) (x2 : Int32) (x3 : Int32) (hk : isRun k) {r : Bool} {M' : Mem} (hf : f_Run_takes k M x1 x2 x3 = some (r, M')) : Ci l Z y_Run_takes b_Run_takes 7 (some .boolean) 1 21 [.ref (Z.2.2.1 k), .int x1, .int x2, .int x3] M M' (bI r) := by
  refine Met.ofW (cc := b_Run_takes) (maxL := 7) (ret := (some .boolean)) (by decide) rfl ?_
  intro p e s m args below meth c s₁ B hml hv
  obtain ⟨rfl, hP, hX⟩ := hv
  have S : CallFix p m c b_Run_takes 7 s ([.ref (Z.2.2.1 k), .int x1, .int x2, .int x3] : List Value).toArray gtb R_Run := ⟨B.exec, B.bytes, hml, findClass_of_methodNamed B.named, fun w hw => atoms_spec (ws := .code y_Run_takes b_Run_takes 7 (some .boolean) :: gtb) B.pre w (List.mem_cons_of_mem _ hw)⟩
  have hl := lv_entry ([.ref (Z.2.2.1 k), .int x1, .int x2, .int x3]) (n := 7) (Nat.le_of_ble_eq_true rfl)
  rw [lg_entry_eq]
  exact wk_Run_takes hI hZ k M x1 x2 x3 hk S hX ⟨Nat.le_refl _, Nat.le_refl _⟩ (fun pc H locs ls hH d => q_rz S.1 S.2.1 B.returns B.notSynchronized hH rfl rfl d) hf ⟨hP, va_S.rf⟩ hl
theorem cw_Run_178 {R : Room} {s : State} {args : Array Value} (ht : ∀ w ∈ gtb, w.before args s = true) (h1 : 0 + 1 ≤ R.frames) (h2 : 8 + (1 + 11) + 0 ≤ R.locals) : CallB R s args R_Run 178 y_Route_toOf b_Route_toOf 1 (some .int) (.code y_Route_toOf b_Route_toOf 1 (some .int) :: gtb) { frames := 0, cells := 0, slots := 0, locals := 0 } 0 0 1 ∧ (Cond.static y_Route_toOf).before args s = true := va_cwS 1 ht (gS w2_53 w2_54 w1_7 w2_55) rfl rfl rfl ⟨by decide, by decide, by decide +kernel⟩ ⟨h1, h2⟩
theorem cw_Run_184 {R : Room} {s : State} {args : Array Value} (ht : ∀ w ∈ gtb, w.before args s = true) (h1 : 1 + 1 ≤ R.frames) (h2 : 8 + (3 + 11) + 21 ≤ R.locals) : CallW R s args R_Run R_Run 184 y_Run_counts b_Run_counts 3 (some .boolean) (.code y_Run_counts b_Run_counts 3 (some .boolean) :: gtb) { frames := 1, cells := 0, slots := 0, locals := 21 } 0 0 2 := cwV 2 ht (gV w2_63 w2_65 ws_Run_counts w1_4 w2_66) rfl rfl rfl ⟨rfl, by decide, by decide, by decide +kernel⟩ ⟨h1, h2⟩
theorem cw_Run_187 {R : Room} {s : State} {args : Array Value} (ht : ∀ w ∈ gtb, w.before args s = true) (h1 : 1 + 1 ≤ R.frames) (h2 : 8 + (7 + 11) + 21 ≤ R.locals) : CallW R s args R_Run R_Run 187 y_Run_takes b_Run_takes 7 (some .boolean) (.code y_Run_takes b_Run_takes 7 (some .boolean) :: gtb) { frames := 1, cells := 0, slots := 0, locals := 21 } 0 0 3 := cwV 3 ht (gV w2_67 w2_69 ws_Run_takes w1_4 w2_70) rfl rfl rfl ⟨rfl, by decide, by decide, by decide +kernel⟩ ⟨h1, h2⟩
theorem cw_Run_181 {R : Room} {s : State} {args : Array Value} (ht : ∀ w ∈ gtb, w.before args s = true) (h1 : 1 + 1 ≤ R.frames) (h2 : 8 + (6 + 11) + 21 ≤ R.locals) : CallW R s args R_Run R_Run 181 y_Run_learn b_Run_learn 6 none (.code y_Run_learn b_Run_learn 6 none :: gtb) { frames := 1, cells := 0, slots := 0, locals := 21 } 0 0 3 := cwV 3 ht (gV w2_56 w2_58 ws_Run_learn w1_4 w2_59) rfl rfl rfl ⟨rfl, by decide, by decide, by decide +kernel⟩ ⟨h1, h2⟩
noncomputable def f_Run_readAll_J95 (k : Nat) (M : Mem) (x1 : Int32) (x2 : Int32) (s0 : Int32) (s1 : Int32) : Option ((Int32 × Mem) ⊕ Mem) := gIn s1 212 (lt1 (upM M (k + 6) s1.toNatClampNeg s0) (fun M2 => some (.inl (x2 + (1 : Int32), M2))))
noncomputable def f_Run_readAll_L2 (k : Nat) (x1 : Int32) (x2 : Int32) (M : Mem) : Option ((Int32 × Mem) ⊕ Mem) := if (M k 4) ≤ x2 then some (.inr M) else 
    gIn x2 212 (if (M (k + 5) x2.toNatClampNeg) = x1 then 
    if (bI (f_Play_isLiar 0 M (f_Route_toOf (M (k + 2) x2.toNatClampNeg)))) = 0 then 
    if (bI (f_Run_counts k M (M (k + 4) x2.toNatClampNeg) x1)) = 0 then some (.inl (x2 + (1 : Int32), M)) else 
    bnd2 (f_Run_takes k M x2 (f_Route_toOf (M (k + 2) x2.toNatClampNeg)) x1) (fun y6 M5 => 
    if (bI y6) = 0 then f_Run_readAll_J95 k M5 x1 x2 (1 : Int32) x2 else f_Run_readAll_J95 k M5 x1 x2 (2 : Int32) x2) else 
    bnd (f_Run_learn k M (M (k + 4) x2.toNatClampNeg) (M (k + 3) x2.toNatClampNeg) x1) (fun M8 => some (.inl (x2 + (1 : Int32), M8))) else some (.inl (x2 + (1 : Int32), M)))
noncomputable def f_Run_readAll_W2 (k : Nat) (x1 : Int32) (u : (Int32 × Mem)) : Option Mem := loop (fun t => f_Run_readAll_L2 k x1 t.1 t.2) u
noncomputable def f_Run_readAll_J2 (k : Nat) (M : Mem) (x1 : Int32) (x2 : Int32) : Option (Mem) := bnd (f_Run_readAll_W2 k x1 (x2, M)) (fun e2 => some e2)
noncomputable def f_Run_readAll (k : Nat) (M : Mem) (x1 : Int32) : Option Mem := f_Run_readAll_J2 k M x1 (0 : Int32)
set_option maxHeartbeats 4000000 in
theorem wk_Run_readAll {l : Launch} {Z : WD} (hI : wI Z) (hZ : IsC Z) (k : Nat) (M : Mem) (x1 : Int32) (hk : isRun k) {M' : Mem} {p : Program} {e : Env} {R : Room} {s : State} {m : MethodId} {args : Array Value} {below : List Frame} {meth : Method} {c : Code} {H : Heap} {locs : List Loc} {ls : Array Slot} {Q : State → Prop} (S : CallFix p m c b_Run_readAll 4 s args gtb R_Run) (hX : wX Z s) (hR : 2 ≤ R.frames ∧ 47 ≤ R.locals) (hQ : ∀ (pc : Nat) (H : Heap) (locs : List Loc) (ls : Array Slot), HW Z M' s H locs → decode b_Run_readAll pc = .ok (.return_, 1) → W p l e R s m args below meth c H locs 0 0 Q (F0 m pc ls [])) (hf0 : f_Run_readAll k M x1 = some M') (hH : HW Z M s H locs) (hl : lv_has ls 4 [(0, .ref (Z.2.2.1 k)), (1, .int x1)]) : W p l e R s m args below meth c H locs 0 0 Q (F0 m 0 ls []) := by
  have hx := S.1
  have hb := S.2.1
  have hown := S.2.2.2.1
  have ht := S.2.2.2.2
  unfold f_Run_readAll at hf0
  have J2 : ∀ (M : Mem) (x1 : Int32) (x2 : Int32) (H : Heap) (locs : List Loc) (ls : Array Slot), f_Run_readAll_J2 k M x1 x2 = some M' → HW Z M s H locs → lv_has ls 4 [(0, .ref (Z.2.2.1 k)), (1, .int x1), (2, .int x2)] → W p l e R s m args below meth c H locs 0 0 Q (F0 m 2 ls []) := by
    intro M x1 x2 H locs ls hf0 hH hl
    unfold f_Run_readAll_J2 at hf0
    obtain ⟨e2, he2, hf0⟩ := o_b hf0
    unfold f_Run_readAll_W2 at he2
    refine loop_W (fun t => ∀ (H : Heap) (locs : List Loc) (ls : Array Slot), HW Z t.2 s H locs → lv_has ls 4 [(0, .ref (Z.2.2.1 k)), (1, .int x1), (2, .int t.1)] → W p l e R s m args below meth c H locs 0 0 Q (F0 m 2 ls [])) ?_ he2 H locs ls hH hl
    rintro ⟨x2, M⟩ o1 hf1 hG1 hR1 H locs ls hH hl
    replace hH : HW Z M s H locs := hH
    replace hl : lv_has ls 4 [(0, .ref (Z.2.2.1 k)), (1, .int x1), (2, .int x2)] := hl
    replace hf1 : f_Run_readAll_L2 k x1 x2 M = some o1 := hf1
    unfold f_Run_readAll_L2 at hf1
    have J95 : ∀ (M : Mem) (x2 : Int32) (s0 : Int32) (s1 : Int32) (H : Heap) (locs : List Loc) (ls : Array Slot), f_Run_readAll_J95 k M x1 x2 s0 s1 = some o1 → HW Z M s H locs → lv_has ls 4 [(0, .ref (Z.2.2.1 k)), (1, .int x1), (2, .int x2)] → W p l e R s m args below meth c H locs 0 0 Q (F0 m 95 ls [.int s0, .int s1, .ref (Z.2.2.1 (k + 6))]) := by
      intro M x2 s0 s1 H locs ls hf1 hH hl
      unfold f_Run_readAll_J95 at hf1
      obtain ⟨hn1, hf1⟩ := o_in hf1
      obtain ⟨M2, hM2, hf1⟩ := o_l hf1
      refine q_iast (j := s1.toNatClampNeg) hx hb hX hI hH (aa_Run_6 hZ hk) hn1 rfl d_Run_readAll_95 (fun H locs hH => ?_)
      rw [hM2] at hH
      refine lv_iinc (v := x2 + (1 : Int32)) (lv' := [(2, .int (x2 + (1 : Int32))), (0, .ref (Z.2.2.1 k)), (1, .int x1)]) hx hb d_Run_readAll_96 hl (k := 2) rfl rfl (by decide) rfl (fun ls hl => ?_)
      refine lv_goto (tgt := 2) hx hb d_Run_readAll_99 (by decide) ?_
      exact hG1 _ (o_v hf1).symm _ _ _ hH (lv_sub hl [1, 2, 0] rfl)
    refine lv_iload_n hx hb d_Run_readAll_2 rfl (lv_at hl 2 rfl) ?_
    refine lv_aload_n hx hb d_Run_readAll_3 rfl (lv_at hl 0 rfl) ?_
    refine g_Run_110 S hX hH hZ hk d_Run_readAll_4 ?_
    refine lv_icmp_ge (tgt := 102) hx hb d_Run_readAll_7 (by decide) (fun hc => ?_) (fun hc => ?_)
    · replace hf1 := o_t hc hf1
      obtain rfl := hR1 _ (o_v hf1).symm
      obtain rfl := o_v hf0
      exact hQ _ _ _ _ hH d_Run_readAll_102
    · replace hf1 := o_f hc hf1
      refine lv_aload_n hx hb d_Run_readAll_10 rfl (lv_at hl 0 rfl) ?_
      refine g_Run_26 S hX hH hZ hk d_Run_readAll_11 ?_
      refine lv_iload_n hx hb d_Run_readAll_14 rfl (lv_at hl 2 rfl) ?_
      obtain ⟨hn3, hf1⟩ := o_in hf1
      refine q_iald (j := x2.toNatClampNeg) hx hb hX hH (aa_Run_5 hZ hk) hn3 rfl d_Run_readAll_15 ?_
      refine lv_iload_n hx hb d_Run_readAll_16 rfl (lv_at hl 1 rfl) ?_
      refine lv_icmp_ne (tgt := 96) hx hb d_Run_readAll_17 (by decide) (fun hc => ?_) (fun hc => ?_)
      · replace hf1 := o_f hc hf1
        refine lv_iinc (v := x2 + (1 : Int32)) (lv' := [(2, .int (x2 + (1 : Int32))), (0, .ref (Z.2.2.1 k)), (1, .int x1)]) hx hb d_Run_readAll_96 hl (k := 2) rfl rfl (by decide) rfl (fun ls hl => ?_)
        refine lv_goto (tgt := 2) hx hb d_Run_readAll_99 (by decide) ?_
        exact hG1 _ (o_v hf1).symm _ _ _ hH (lv_sub hl [1, 2, 0] rfl)
      · replace hf1 := o_t hc hf1
        refine lv_aload_n hx hb d_Run_readAll_20 rfl (lv_at hl 0 rfl) ?_
        refine g_Run_17 S hX hH hZ hk d_Run_readAll_21 ?_
        refine lv_iload_n hx hb d_Run_readAll_24 rfl (lv_at hl 2 rfl) ?_
        refine q_iald (j := x2.toNatClampNeg) hx hb hX hH (aa_Run_2 hZ hk) hn3 rfl d_Run_readAll_25 ?_
        refine q_cSi (As := [.int (M (k + 2) x2.toNatClampNeg)]) (rest := []) S hX hH (c_Route_toOf l hI M (M (k + 2) x2.toNatClampNeg) rfl) (cw_Run_178 S.2.2.2.2 (Nat.le_trans (Nat.le_of_ble_eq_true rfl) hR.1) (Nat.le_trans (Nat.le_of_ble_eq_true rfl) hR.2)) rfl hl.1 rfl (Nat.le_of_ble_eq_true rfl) d_Run_readAll_26 ⟨Nat.zero_le _, Nat.zero_le _⟩ (fun H locs hH => ?_)
        refine lv_istore_n (lv' := [(3, .int (f_Route_toOf (M (k + 2) x2.toNatClampNeg))), (0, .ref (Z.2.2.1 k)), (1, .int x1), (2, .int x2)]) hx hb d_Run_readAll_29 rfl hl (by decide) rfl (fun ls hl => ?_)
        refine lv_aload_n hx hb d_Run_readAll_30 rfl (lv_at hl 1 rfl) ?_
        refine g_Run_47 S hX hH hZ hk d_Run_readAll_31 ?_
        refine lv_iload_n hx hb d_Run_readAll_34 rfl (lv_at hl 0 rfl) ?_
        refine q_cVi (As := [.int (f_Route_toOf (M (k + 2) x2.toNatClampNeg))]) (rest := []) S hX hH (c_Play_isLiar l hI hZ 0 M (f_Route_toOf (M (k + 2) x2.toNatClampNeg)) isPlay_0 rfl) (cw_Run_118 S.2.2.2.2 (Nat.le_trans (Nat.le_of_ble_eq_true rfl) hR.1) (Nat.le_trans (Nat.le_of_ble_eq_true rfl) hR.2)) (rc_Play hX hH hZ isPlay_0) rfl hl.1 rfl (Nat.le_of_ble_eq_true rfl) d_Run_readAll_35 ⟨Nat.zero_le _, Nat.zero_le _⟩ (fun H locs hH => ?_)
        refine lv_if_eq (tgt := 61) hx hb d_Run_readAll_38 (by decide) (fun hc => ?_) (fun hc => ?_)
        · replace hf1 := o_t hc hf1
          refine lv_aload_n hx hb d_Run_readAll_61 rfl (lv_at hl 1 rfl) ?_
          refine lv_aload_n hx hb d_Run_readAll_62 rfl (lv_at hl 1 rfl) ?_
          refine g_Run_23 S hX hH hZ hk d_Run_readAll_63 ?_
          refine lv_iload_n hx hb d_Run_readAll_66 rfl (lv_at hl 3 rfl) ?_
          refine q_iald (j := x2.toNatClampNeg) hx hb hX hH (aa_Run_4 hZ hk) hn3 rfl d_Run_readAll_67 ?_
          refine lv_iload_n hx hb d_Run_readAll_68 rfl (lv_at hl 2 rfl) ?_
          refine q_cVi (As := [.int (M (k + 4) x2.toNatClampNeg), .int x1]) (rest := []) S hX hH (c_Run_counts l hI hZ k M (M (k + 4) x2.toNatClampNeg) x1 hk rfl) (cw_Run_184 S.2.2.2.2 (Nat.le_trans (Nat.le_of_ble_eq_true rfl) hR.1) (Nat.le_trans (Nat.le_of_ble_eq_true rfl) hR.2)) (rc_Run hX hH hZ hk) rfl hl.1 rfl (Nat.le_of_ble_eq_true rfl) d_Run_readAll_69 ⟨Nat.zero_le _, Nat.zero_le _⟩ (fun H locs hH => ?_)
          refine lv_if_eq (tgt := 96) hx hb d_Run_readAll_72 (by decide) (fun hc => ?_) (fun hc => ?_)
          · replace hf1 := o_t hc hf1
            refine lv_iinc (v := x2 + (1 : Int32)) (lv' := [(2, .int (x2 + (1 : Int32))), (3, .int (f_Route_toOf (M (k + 2) x2.toNatClampNeg))), (0, .ref (Z.2.2.1 k)), (1, .int x1)]) hx hb d_Run_readAll_96 hl (k := 3) rfl rfl (by decide) rfl (fun ls hl => ?_)
            refine lv_goto (tgt := 2) hx hb d_Run_readAll_99 (by decide) ?_
            exact hG1 _ (o_v hf1).symm _ _ _ hH (lv_sub hl [2, 3, 0] rfl)
          · replace hf1 := o_f hc hf1
            refine lv_aload_n hx hb d_Run_readAll_75 rfl (lv_at hl 1 rfl) ?_
            refine g_Run_29 S hX hH hZ hk d_Run_readAll_76 ?_
            refine lv_iload_n hx hb d_Run_readAll_79 rfl (lv_at hl 3 rfl) ?_
            refine lv_aload_n hx hb d_Run_readAll_80 rfl (lv_at hl 1 rfl) ?_
            refine lv_iload_n hx hb d_Run_readAll_81 rfl (lv_at hl 3 rfl) ?_
            refine lv_iload_n hx hb d_Run_readAll_82 rfl (lv_at hl 0 rfl) ?_
            refine lv_iload_n hx hb d_Run_readAll_83 rfl (lv_at hl 2 rfl) ?_
            obtain ⟨y6, M5, hc4, hf1⟩ := o_b2 hf1
            refine q_cVi (As := [.int x2, .int (f_Route_toOf (M (k + 2) x2.toNatClampNeg)), .int x1]) (rest := [.int x2, .ref (Z.2.2.1 (k + 6))]) S hX hH (c_Run_takes l hI hZ k M x2 (f_Route_toOf (M (k + 2) x2.toNatClampNeg)) x1 hk hc4) (cw_Run_187 S.2.2.2.2 (Nat.le_trans (Nat.le_of_ble_eq_true rfl) hR.1) (Nat.le_trans (Nat.le_of_ble_eq_true rfl) hR.2)) (rc_Run hX hH hZ hk) rfl hl.1 rfl (Nat.le_of_ble_eq_true rfl) d_Run_readAll_84 ⟨Nat.zero_le _, Nat.zero_le _⟩ (fun H locs hH => ?_)
            refine lv_if_eq (tgt := 94) hx hb d_Run_readAll_87 (by decide) (fun hc => ?_) (fun hc => ?_)
            · replace hf1 := o_t hc hf1
              refine lv_iconst (v := (1 : Int32)) hx hb d_Run_readAll_94 (by decide) ?_
              exact J95 _ _ _ _ _ _ _ hf1 hH (lv_sub hl [1, 2, 3] rfl)
            · replace hf1 := o_f hc hf1
              refine lv_iconst (v := (2 : Int32)) hx hb d_Run_readAll_90 (by decide) ?_
              refine lv_goto (tgt := 95) hx hb d_Run_readAll_91 (by decide) ?_
              exact J95 _ _ _ _ _ _ _ hf1 hH (lv_sub hl [1, 2, 3] rfl)
        · replace hf1 := o_f hc hf1
          refine lv_aload_n hx hb d_Run_readAll_41 rfl (lv_at hl 1 rfl) ?_
          refine lv_aload_n hx hb d_Run_readAll_42 rfl (lv_at hl 1 rfl) ?_
          refine g_Run_23 S hX hH hZ hk d_Run_readAll_43 ?_
          refine lv_iload_n hx hb d_Run_readAll_46 rfl (lv_at hl 3 rfl) ?_
          refine q_iald (j := x2.toNatClampNeg) hx hb hX hH (aa_Run_4 hZ hk) hn3 rfl d_Run_readAll_47 ?_
          refine lv_aload_n hx hb d_Run_readAll_48 rfl (lv_at hl 1 rfl) ?_
          refine g_Run_20 S hX hH hZ hk d_Run_readAll_49 ?_
          refine lv_iload_n hx hb d_Run_readAll_52 rfl (lv_at hl 3 rfl) ?_
          refine q_iald (j := x2.toNatClampNeg) hx hb hX hH (aa_Run_3 hZ hk) hn3 rfl d_Run_readAll_53 ?_
          refine lv_iload_n hx hb d_Run_readAll_54 rfl (lv_at hl 2 rfl) ?_
          obtain ⟨M8, hc7, hf1⟩ := o_b hf1
          refine q_cVv (As := [.int (M (k + 4) x2.toNatClampNeg), .int (M (k + 3) x2.toNatClampNeg), .int x1]) (rest := []) S hX hH (c_Run_learn l hI hZ k M (M (k + 4) x2.toNatClampNeg) (M (k + 3) x2.toNatClampNeg) x1 hk hc7) (cw_Run_181 S.2.2.2.2 (Nat.le_trans (Nat.le_of_ble_eq_true rfl) hR.1) (Nat.le_trans (Nat.le_of_ble_eq_true rfl) hR.2)) (rc_Run hX hH hZ hk) rfl hl.1 rfl (Nat.le_of_ble_eq_true rfl) d_Run_readAll_55 ⟨Nat.zero_le _, Nat.zero_le _⟩ (fun H locs hH => ?_)
          refine lv_goto (tgt := 96) hx hb d_Run_readAll_58 (by decide) ?_
          refine lv_iinc (v := x2 + (1 : Int32)) (lv' := [(2, .int (x2 + (1 : Int32))), (3, .int (f_Route_toOf (M (k + 2) x2.toNatClampNeg))), (0, .ref (Z.2.2.1 k)), (1, .int x1)]) hx hb d_Run_readAll_96 hl (k := 3) rfl rfl (by decide) rfl (fun ls hl => ?_)
          refine lv_goto (tgt := 2) hx hb d_Run_readAll_99 (by decide) ?_
          exact hG1 _ (o_v hf1).symm _ _ _ hH (lv_sub hl [2, 3, 0] rfl)
  refine lv_iconst (v := (0 : Int32)) hx hb d_Run_readAll_0 (by decide) ?_
  refine lv_istore_n (lv' := [(2, .int (0 : Int32)), (0, .ref (Z.2.2.1 k)), (1, .int x1)]) hx hb d_Run_readAll_1 rfl hl (by decide) rfl (fun ls hl => ?_)
  exact J2 _ _ _ _ _ _ hf0 hH (lv_sub hl [1, 2, 0] rfl)
theorem c_Run_readAll (l : Launch) {Z : WD} (hI : wI Z) (hZ : IsC Z) (k : Nat) (M : Mem) (x1 : Int32) (hk : isRun k) {M' : Mem} (hf : f_Run_readAll k M x1 = some M') : Cv l Z y_Run_readAll b_Run_readAll 4 none 2 47 [.ref (Z.2.2.1 k), .int x1] M M' := by
  refine Met.ofW (cc := b_Run_readAll) (maxL := 4) (ret := none) (by decide) rfl ?_
  intro p e s m args below meth c s₁ B hml hv
  obtain ⟨rfl, hP, hX⟩ := hv
  have S : CallFix p m c b_Run_readAll 4 s ([.ref (Z.2.2.1 k), .int x1] : List Value).toArray gtb R_Run := ⟨B.exec, B.bytes, hml, findClass_of_methodNamed B.named, fun w hw => atoms_spec (ws := .code y_Run_readAll b_Run_readAll 4 none :: gtb) B.pre w (List.mem_cons_of_mem _ hw)⟩
  have hl := lv_entry ([.ref (Z.2.2.1 k), .int x1]) (n := 4) (Nat.le_of_ble_eq_true rfl)
  rw [lg_entry_eq]
  exact wk_Run_readAll hI hZ k M x1 hk S hX ⟨Nat.le_refl _, Nat.le_refl _⟩ (fun pc H locs ls hH d => q_rv S.1 S.2.1 B.returns B.notSynchronized hH rfl d) hf ⟨hP, va_S.rf⟩ hl
theorem cw_Run_94 {R : Room} {s : State} {args : Array Value} (ht : ∀ w ∈ gtb, w.before args s = true) (h1 : 2 + 1 ≤ R.frames) (h2 : 8 + (5 + 11) + 45 ≤ R.locals) : CallW R s args R_Run R_Run 94 y_Run_sendPlans b_Run_sendPlans 5 none (.code y_Run_sendPlans b_Run_sendPlans 5 none :: gtb) { frames := 2, cells := 0, slots := 0, locals := 45 } 0 0 1 := cwV 1 ht (gV w2_28 w2_30 ws_Run_sendPlans w1_4 w2_31) rfl rfl rfl ⟨rfl, by decide, by decide, by decide +kernel⟩ ⟨h1, h2⟩
theorem cw_Run_107 {R : Room} {s : State} {args : Array Value} (ht : ∀ w ∈ gtb, w.before args s = true) (h1 : 2 + 1 ≤ R.frames) (h2 : 8 + (4 + 11) + 47 ≤ R.locals) : CallW R s args R_Run R_Run 107 y_Run_readAll b_Run_readAll 4 none (.code y_Run_readAll b_Run_readAll 4 none :: gtb) { frames := 2, cells := 0, slots := 0, locals := 47 } 0 0 1 := cwV 1 ht (gV w2_49 w2_51 ws_Run_readAll w1_4 w2_52) rfl rfl rfl ⟨rfl, by decide, by decide, by decide +kernel⟩ ⟨h1, h2⟩
theorem cw_Run_90 {R : Room} {s : State} {args : Array Value} (ht : ∀ w ∈ gtb, w.before args s = true) (h1 : 3 + 1 ≤ R.frames) (h2 : 8 + (5 + 11) + 70 ≤ R.locals) : CallW R s args R_Run R_Run 90 y_Run_relayAll b_Run_relayAll 5 none (.code y_Run_relayAll b_Run_relayAll 5 none :: gtb) { frames := 3, cells := 0, slots := 0, locals := 70 } 0 0 1 := cwV 1 ht (gV w2_20 w2_22 ws_Run_relayAll w1_4 w2_23) rfl rfl rfl ⟨rfl, by decide, by decide, by decide +kernel⟩ ⟨h1, h2⟩
theorem cw_Run_87 {R : Room} {s : State} {args : Array Value} (ht : ∀ w ∈ gtb, w.before args s = true) (h1 : 3 + 1 ≤ R.frames) (h2 : 8 + (2 + 11) + 70 ≤ R.locals) : CallW R s args R_Run R_Run 87 y_Run_sendFirst b_Run_sendFirst 2 none (.code y_Run_sendFirst b_Run_sendFirst 2 none :: gtb) { frames := 3, cells := 0, slots := 0, locals := 70 } 0 0 0 := cwV 0 ht (gV w1_236 w1_238 ws_Run_sendFirst w1_4 w1_239) rfl rfl rfl ⟨rfl, by decide, by decide, by decide +kernel⟩ ⟨h1, h2⟩
theorem cw_Run_84 {R : Room} {s : State} {args : Array Value} (ht : ∀ w ∈ gtb, w.before args s = true) (h1 : 2 + 1 ≤ R.frames) (h2 : 8 + (2 + 11) + 42 ≤ R.locals) : CallW R s args R_Run R_Run 84 y_Run_begin b_Run_begin 2 none (.code y_Run_begin b_Run_begin 2 none :: gtb) { frames := 2, cells := 0, slots := 0, locals := 42 } 0 0 0 := cwV 0 ht (gV w1_217 w1_219 ws_Run_begin w1_4 w1_220) rfl rfl rfl ⟨rfl, by decide, by decide, by decide +kernel⟩ ⟨h1, h2⟩
noncomputable def f_Run_play_J37 (k : Nat) (M : Mem) (x1 : Int32) : Option ((Int32 × Mem) ⊕ Mem) := bnd (f_Run_sendPlans k M x1) (fun M2 => 
    gIn (f_Run_rowOf (x1 - (1 : Int32))) 2147483648 (gIn (f_Run_rowOf x1) 2147483648 (gLt ((f_Run_rowOf (x1 - (1 : Int32))).toNatClampNeg + 8) 73 (gLt ((f_Run_rowOf x1).toNatClampNeg + 8) 73 (lt1 (cpM M2 (k + 11) (k + 11) ((f_Run_rowOf (x1 - (1 : Int32))).toNatClampNeg) ((f_Run_rowOf x1).toNatClampNeg) 8) (fun M7 => bnd (f_Run_readAll k M7 x1) (fun M9 => some (.inl (x1 + (1 : Int32), M9)))))))))
noncomputable def f_Run_play_L6 (k : Nat) (x1 : Int32) (M : Mem) : Option ((Int32 × Mem) ⊕ Mem) := if (M k 1) < x1 then some (.inr M) else 
    if (8 : Int32) < x1 then some (.inr M) else 
    if x1 = (1 : Int32) then bnd (f_Run_sendFirst k M) (fun M13 => f_Run_play_J37 k M13 x1) else bnd (f_Run_relayAll k M x1) (fun M11 => f_Run_play_J37 k M11 x1)
noncomputable def f_Run_play_W6 (k : Nat) (u : (Int32 × Mem)) : Option Mem := loop (fun t => f_Run_play_L6 k t.1 t.2) u
noncomputable def f_Run_play_J6 (k : Nat) (M : Mem) (x1 : Int32) : Option (Mem) := bnd (f_Run_play_W6 k (x1, M)) (fun e6 => some e6)
noncomputable def f_Run_play (k : Nat) (M : Mem) : Option Mem := bnd (f_Run_begin k M) (fun M15 => f_Run_play_J6 k M15 (1 : Int32))
set_option maxHeartbeats 4000000 in
theorem wk_Run_play {l : Launch} {Z : WD} (hI : wI Z) (hZ : IsC Z) (k : Nat) (M : Mem) (hk : isRun k) {M' : Mem} {p : Program} {e : Env} {R : Room} {s : State} {m : MethodId} {args : Array Value} {below : List Frame} {meth : Method} {c : Code} {H : Heap} {locs : List Loc} {ls : Array Slot} {Q : State → Prop} (S : CallFix p m c b_Run_play 2 s args gtb R_Run) (hX : wX Z s) (hR : 4 ≤ R.frames ∧ 94 ≤ R.locals) (hQ : ∀ (pc : Nat) (H : Heap) (locs : List Loc) (ls : Array Slot), HW Z M' s H locs → decode b_Run_play pc = .ok (.return_, 1) → W p l e R s m args below meth c H locs 0 0 Q (F0 m pc ls [])) (hf0 : f_Run_play k M = some M') (hH : HW Z M s H locs) (hl : lv_has ls 2 [(0, .ref (Z.2.2.1 k))]) : W p l e R s m args below meth c H locs 0 0 Q (F0 m 0 ls []) := by
  have hx := S.1
  have hb := S.2.1
  have hown := S.2.2.2.1
  have ht := S.2.2.2.2
  unfold f_Run_play at hf0
  have J6 : ∀ (M : Mem) (x1 : Int32) (H : Heap) (locs : List Loc) (ls : Array Slot), f_Run_play_J6 k M x1 = some M' → HW Z M s H locs → lv_has ls 2 [(0, .ref (Z.2.2.1 k)), (1, .int x1)] → W p l e R s m args below meth c H locs 0 0 Q (F0 m 6 ls []) := by
    intro M x1 H locs ls hf0 hH hl
    unfold f_Run_play_J6 at hf0
    obtain ⟨e6, he6, hf0⟩ := o_b hf0
    unfold f_Run_play_W6 at he6
    refine loop_W (fun t => ∀ (H : Heap) (locs : List Loc) (ls : Array Slot), HW Z t.2 s H locs → lv_has ls 2 [(0, .ref (Z.2.2.1 k)), (1, .int t.1)] → W p l e R s m args below meth c H locs 0 0 Q (F0 m 6 ls [])) ?_ he6 H locs ls hH hl
    rintro ⟨x1, M⟩ o1 hf1 hG1 hR1 H locs ls hH hl
    replace hH : HW Z M s H locs := hH
    replace hl : lv_has ls 2 [(0, .ref (Z.2.2.1 k)), (1, .int x1)] := hl
    replace hf1 : f_Run_play_L6 k x1 M = some o1 := hf1
    unfold f_Run_play_L6 at hf1
    have J37 : ∀ (M : Mem) (x1 : Int32) (H : Heap) (locs : List Loc) (ls : Array Slot), f_Run_play_J37 k M x1 = some o1 → HW Z M s H locs → lv_has ls 2 [(0, .ref (Z.2.2.1 k)), (1, .int x1)] → W p l e R s m args below meth c H locs 0 0 Q (F0 m 37 ls []) := by
      intro M x1 H locs ls hf1 hH hl
      unfold f_Run_play_J37 at hf1
      refine lv_aload_n hx hb d_Run_play_37 rfl (lv_at hl 0 rfl) ?_
      refine lv_iload_n hx hb d_Run_play_38 rfl (lv_at hl 1 rfl) ?_
      obtain ⟨M2, hc1, hf1⟩ := o_b hf1
      refine q_cVv (As := [.int x1]) (rest := []) S hX hH (c_Run_sendPlans l hI hZ k M x1 hk hc1) (cw_Run_94 S.2.2.2.2 (Nat.le_trans (Nat.le_of_ble_eq_true rfl) hR.1) (Nat.le_trans (Nat.le_of_ble_eq_true rfl) hR.2)) (rc_Run hX hH hZ hk) rfl hl.1 rfl (Nat.le_of_ble_eq_true rfl) d_Run_play_39 ⟨Nat.zero_le _, Nat.zero_le _⟩ (fun H locs hH => ?_)
      refine lv_aload_n hx hb d_Run_play_42 rfl (lv_at hl 0 rfl) ?_
      refine g_Run_44 S hX hH hZ hk d_Run_play_43 ?_
      refine lv_iload_n hx hb d_Run_play_46 rfl (lv_at hl 1 rfl) ?_
      refine lv_iconst (v := (1 : Int32)) hx hb d_Run_play_47 (by decide) ?_
      refine lv_isub hx hb d_Run_play_48 ?_
      refine q_cSi (As := [.int (x1 - (1 : Int32))]) (rest := [.ref (Z.2.2.1 (k + 11))]) S hX hH (c_Run_rowOf l hI M2 (x1 - (1 : Int32)) rfl) (cw_Run_97 S.2.2.2.2 (Nat.le_trans (Nat.le_of_ble_eq_true rfl) hR.1) (Nat.le_trans (Nat.le_of_ble_eq_true rfl) hR.2)) rfl hl.1 rfl (Nat.le_of_ble_eq_true rfl) d_Run_play_49 ⟨Nat.zero_le _, Nat.zero_le _⟩ (fun H locs hH => ?_)
      refine lv_aload_n hx hb d_Run_play_52 rfl (lv_at hl 0 rfl) ?_
      refine g_Run_44 S hX hH hZ hk d_Run_play_53 ?_
      refine lv_iload_n hx hb d_Run_play_56 rfl (lv_at hl 1 rfl) ?_
      refine q_cSi (As := [.int x1]) (rest := [.ref (Z.2.2.1 (k + 11)), .int (f_Run_rowOf (x1 - (1 : Int32))), .ref (Z.2.2.1 (k + 11))]) S hX hH (c_Run_rowOf l hI M2 x1 rfl) (cw_Run_97 S.2.2.2.2 (Nat.le_trans (Nat.le_of_ble_eq_true rfl) hR.1) (Nat.le_trans (Nat.le_of_ble_eq_true rfl) hR.2)) rfl hl.1 rfl (Nat.le_of_ble_eq_true rfl) d_Run_play_57 ⟨Nat.zero_le _, Nat.zero_le _⟩ (fun H locs hH => ?_)
      refine lv_bipush (v := (8 : Int32)) hx hb d_Run_play_60 (by decide) ?_
      obtain ⟨hn3, hf1⟩ := o_in hf1
      obtain ⟨hn4, hf1⟩ := o_in hf1
      obtain ⟨hq5, hf1⟩ := o_gl hf1
      obtain ⟨hq6, hf1⟩ := o_gl hf1
      obtain ⟨M7, hM7, hf1⟩ := o_l hf1
      refine q_copy (sp' := (f_Run_rowOf (x1 - (1 : Int32))).toNatClampNeg) (dp' := (f_Run_rowOf x1).toNatClampNeg) (n' := 8) S hX hI hH (aa_Run_11 hZ hk) (aa_Run_11 hZ hk) hl.1 w2_46 w2_48 w2_47 w1_8 hn3 hn4 (vp_c (by decide)) rfl rfl (by decide) (Nat.le_of_lt_succ hq5) (Nat.le_of_lt_succ hq6) (Nat.le_trans (Nat.le_of_ble_eq_true rfl) hR.1) (Nat.le_trans (Nat.le_of_ble_eq_true rfl) hR.2) d_Run_play_62 (fun H locs hH => ?_)
      rw [hM7] at hH
      refine lv_aload_n hx hb d_Run_play_65 rfl (lv_at hl 0 rfl) ?_
      refine lv_iload_n hx hb d_Run_play_66 rfl (lv_at hl 1 rfl) ?_
      obtain ⟨M9, hc8, hf1⟩ := o_b hf1
      refine q_cVv (As := [.int x1]) (rest := []) S hX hH (c_Run_readAll l hI hZ k M7 x1 hk hc8) (cw_Run_107 S.2.2.2.2 (Nat.le_trans (Nat.le_of_ble_eq_true rfl) hR.1) (Nat.le_trans (Nat.le_of_ble_eq_true rfl) hR.2)) (rc_Run hX hH hZ hk) rfl hl.1 rfl (Nat.le_of_ble_eq_true rfl) d_Run_play_67 ⟨Nat.zero_le _, Nat.zero_le _⟩ (fun H locs hH => ?_)
      refine lv_iinc (v := x1 + (1 : Int32)) (lv' := [(1, .int (x1 + (1 : Int32))), (0, .ref (Z.2.2.1 k))]) hx hb d_Run_play_70 hl (k := 1) rfl rfl (by decide) rfl (fun ls hl => ?_)
      refine lv_goto (tgt := 6) hx hb d_Run_play_73 (by decide) ?_
      exact hG1 _ (o_v hf1).symm _ _ _ hH (lv_sub hl [1, 0] rfl)
    refine lv_iload_n hx hb d_Run_play_6 rfl (lv_at hl 1 rfl) ?_
    refine lv_aload_n hx hb d_Run_play_7 rfl (lv_at hl 0 rfl) ?_
    refine g_Run_56 S hX hH hZ hk d_Run_play_8 ?_
    refine lv_icmp_gt (tgt := 76) hx hb d_Run_play_11 (by decide) (fun hc => ?_) (fun hc => ?_)
    · replace hf1 := o_t hc hf1
      obtain rfl := hR1 _ (o_v hf1).symm
      obtain rfl := o_v hf0
      exact hQ _ _ _ _ hH d_Run_play_76
    · replace hf1 := o_f hc hf1
      refine lv_iload_n hx hb d_Run_play_14 rfl (lv_at hl 1 rfl) ?_
      refine lv_bipush (v := (8 : Int32)) hx hb d_Run_play_15 (by decide) ?_
      refine lv_icmp_gt (tgt := 76) hx hb d_Run_play_17 (by decide) (fun hc => ?_) (fun hc => ?_)
      · replace hf1 := o_t hc hf1
        obtain rfl := hR1 _ (o_v hf1).symm
        obtain rfl := o_v hf0
        exact hQ _ _ _ _ hH d_Run_play_76
      · replace hf1 := o_f hc hf1
        refine lv_iload_n hx hb d_Run_play_20 rfl (lv_at hl 1 rfl) ?_
        refine lv_iconst (v := (1 : Int32)) hx hb d_Run_play_21 (by decide) ?_
        refine lv_icmp_ne (tgt := 32) hx hb d_Run_play_22 (by decide) (fun hc => ?_) (fun hc => ?_)
        · replace hf1 := o_f hc hf1
          refine lv_aload_n hx hb d_Run_play_32 rfl (lv_at hl 0 rfl) ?_
          refine lv_iload_n hx hb d_Run_play_33 rfl (lv_at hl 1 rfl) ?_
          obtain ⟨M11, hc10, hf1⟩ := o_b hf1
          refine q_cVv (As := [.int x1]) (rest := []) S hX hH (c_Run_relayAll l hI hZ k M x1 hk hc10) (cw_Run_90 S.2.2.2.2 (Nat.le_trans (Nat.le_of_ble_eq_true rfl) hR.1) (Nat.le_trans (Nat.le_of_ble_eq_true rfl) hR.2)) (rc_Run hX hH hZ hk) rfl hl.1 rfl (Nat.le_of_ble_eq_true rfl) d_Run_play_34 ⟨Nat.zero_le _, Nat.zero_le _⟩ (fun H locs hH => ?_)
          exact J37 _ _ _ _ _ hf1 hH (lv_sub hl [0, 1] rfl)
        · replace hf1 := o_t hc hf1
          refine lv_aload_n hx hb d_Run_play_25 rfl (lv_at hl 0 rfl) ?_
          obtain ⟨M13, hc12, hf1⟩ := o_b hf1
          refine q_cVv (As := []) (rest := []) S hX hH (c_Run_sendFirst l hI hZ k M hk hc12) (cw_Run_87 S.2.2.2.2 (Nat.le_trans (Nat.le_of_ble_eq_true rfl) hR.1) (Nat.le_trans (Nat.le_of_ble_eq_true rfl) hR.2)) (rc_Run hX hH hZ hk) rfl hl.1 rfl (Nat.le_of_ble_eq_true rfl) d_Run_play_26 ⟨Nat.zero_le _, Nat.zero_le _⟩ (fun H locs hH => ?_)
          refine lv_goto (tgt := 37) hx hb d_Run_play_29 (by decide) ?_
          exact J37 _ _ _ _ _ hf1 hH (lv_sub hl [0, 1] rfl)
  refine lv_aload_n hx hb d_Run_play_0 rfl (lv_at hl 0 rfl) ?_
  obtain ⟨M15, hc14, hf0⟩ := o_b hf0
  refine q_cVv (As := []) (rest := []) S hX hH (c_Run_begin l hI hZ k M hk hc14) (cw_Run_84 S.2.2.2.2 (Nat.le_trans (Nat.le_of_ble_eq_true rfl) hR.1) (Nat.le_trans (Nat.le_of_ble_eq_true rfl) hR.2)) (rc_Run hX hH hZ hk) rfl hl.1 rfl (Nat.le_of_ble_eq_true rfl) d_Run_play_1 ⟨Nat.zero_le _, Nat.zero_le _⟩ (fun H locs hH => ?_)
  refine lv_iconst (v := (1 : Int32)) hx hb d_Run_play_4 (by decide) ?_
  refine lv_istore_n (lv' := [(1, .int (1 : Int32)), (0, .ref (Z.2.2.1 k))]) hx hb d_Run_play_5 rfl hl (by decide) rfl (fun ls hl => ?_)
  exact J6 _ _ _ _ _ hf0 hH (lv_sub hl [1, 0] rfl)
theorem c_Run_play (l : Launch) {Z : WD} (hI : wI Z) (hZ : IsC Z) (k : Nat) (M : Mem) (hk : isRun k) {M' : Mem} (hf : f_Run_play k M = some M') : Cv l Z y_Run_play b_Run_play 2 none 4 94 [.ref (Z.2.2.1 k)] M M' := by
  refine Met.ofW (cc := b_Run_play) (maxL := 2) (ret := none) (by decide) rfl ?_
  intro p e s m args below meth c s₁ B hml hv
  obtain ⟨rfl, hP, hX⟩ := hv
  have S : CallFix p m c b_Run_play 2 s ([.ref (Z.2.2.1 k)] : List Value).toArray gtb R_Run := ⟨B.exec, B.bytes, hml, findClass_of_methodNamed B.named, fun w hw => atoms_spec (ws := .code y_Run_play b_Run_play 2 none :: gtb) B.pre w (List.mem_cons_of_mem _ hw)⟩
  have hl := lv_entry ([.ref (Z.2.2.1 k)]) (n := 2) (Nat.le_of_ble_eq_true rfl)
  rw [lg_entry_eq]
  exact wk_Run_play hI hZ k M hk S hX ⟨Nat.le_refl _, Nat.le_refl _⟩ (fun pc H locs ls hH d => q_rv S.1 S.2.1 B.returns B.notSynchronized hH rfl d) hf ⟨hP, va_S.rf⟩ hl
noncomputable def f_Run_setOf (k : Nat) (M : Mem) (x1 : Int32) (x2 : Int32) : Option Int32 := gIn ((f_Run_rowOf x2) + x1) 72 (some (M (k + 11) ((f_Run_rowOf x2) + x1).toNatClampNeg))
set_option maxHeartbeats 4000000 in
theorem wk_Run_setOf {l : Launch} {Z : WD} (hI : wI Z) (hZ : IsC Z) (k : Nat) (M : Mem) (x1 : Int32) (x2 : Int32) (hk : isRun k) {r : Int32} {p : Program} {e : Env} {R : Room} {s : State} {m : MethodId} {args : Array Value} {below : List Frame} {meth : Method} {c : Code} {H : Heap} {locs : List Loc} {ls : Array Slot} {Q : State → Prop} (S : CallFix p m c b_Run_setOf 3 s args gtb R_Run) (hX : wX Z s) (hR : 1 ≤ R.frames ∧ 20 ≤ R.locals) (hQ : ∀ (pc : Nat) (H : Heap) (locs : List Loc) (ls : Array Slot), HW Z M s H locs → decode b_Run_setOf pc = .ok (.ireturn, 1) → W p l e R s m args below meth c H locs 0 0 Q (F0 m pc ls [.int r])) (hf0 : f_Run_setOf k M x1 x2 = some r) (hH : HW Z M s H locs) (hl : lv_has ls 3 [(0, .ref (Z.2.2.1 k)), (1, .int x1), (2, .int x2)]) : W p l e R s m args below meth c H locs 0 0 Q (F0 m 0 ls []) := by
  have hx := S.1
  have hb := S.2.1
  have hown := S.2.2.2.1
  have ht := S.2.2.2.2
  unfold f_Run_setOf at hf0
  refine lv_aload_n hx hb d_Run_setOf_0 rfl (lv_at hl 0 rfl) ?_
  refine g_Run_44 S hX hH hZ hk d_Run_setOf_1 ?_
  refine lv_iload_n hx hb d_Run_setOf_4 rfl (lv_at hl 2 rfl) ?_
  refine q_cSi (As := [.int x2]) (rest := [.ref (Z.2.2.1 (k + 11))]) S hX hH (c_Run_rowOf l hI M x2 rfl) (cw_Run_97 S.2.2.2.2 (Nat.le_trans (Nat.le_of_ble_eq_true rfl) hR.1) (Nat.le_trans (Nat.le_of_ble_eq_true rfl) hR.2)) rfl hl.1 rfl (Nat.le_of_ble_eq_true rfl) d_Run_setOf_5 ⟨Nat.zero_le _, Nat.zero_le _⟩ (fun H locs hH => ?_)
  refine lv_iload_n hx hb d_Run_setOf_8 rfl (lv_at hl 1 rfl) ?_
  refine lv_iadd hx hb d_Run_setOf_9 ?_
  obtain ⟨hn1, hf0⟩ := o_in hf0
  refine q_iald (j := ((f_Run_rowOf x2) + x1).toNatClampNeg) hx hb hX hH (aa_Run_11 hZ hk) hn1 rfl d_Run_setOf_10 ?_
  obtain rfl := o_v hf0
  exact hQ _ _ _ _ hH d_Run_setOf_11
theorem c_Run_setOf (l : Launch) {Z : WD} (hI : wI Z) (hZ : IsC Z) (k : Nat) (M : Mem) (x1 : Int32) (x2 : Int32) (hk : isRun k) {r : Int32} (hf : f_Run_setOf k M x1 x2 = some r) : Ci l Z y_Run_setOf b_Run_setOf 3 (some .int) 1 20 [.ref (Z.2.2.1 k), .int x1, .int x2] M M r := by
  refine Met.ofW (cc := b_Run_setOf) (maxL := 3) (ret := (some .int)) (by decide) rfl ?_
  intro p e s m args below meth c s₁ B hml hv
  obtain ⟨rfl, hP, hX⟩ := hv
  have S : CallFix p m c b_Run_setOf 3 s ([.ref (Z.2.2.1 k), .int x1, .int x2] : List Value).toArray gtb R_Run := ⟨B.exec, B.bytes, hml, findClass_of_methodNamed B.named, fun w hw => atoms_spec (ws := .code y_Run_setOf b_Run_setOf 3 (some .int) :: gtb) B.pre w (List.mem_cons_of_mem _ hw)⟩
  have hl := lv_entry ([.ref (Z.2.2.1 k), .int x1, .int x2]) (n := 3) (Nat.le_of_ble_eq_true rfl)
  rw [lg_entry_eq]
  exact wk_Run_setOf hI hZ k M x1 x2 hk S hX ⟨Nat.le_refl _, Nat.le_refl _⟩ (fun pc H locs ls hH d => q_ri S.1 S.2.1 B.returns B.notSynchronized hH rfl rfl d) hf ⟨hP, va_S.rf⟩ hl
theorem cw_Run_195 {R : Room} {s : State} {args : Array Value} (ht : ∀ w ∈ gtb, w.before args s = true) (h1 : 1 + 1 ≤ R.frames) (h2 : 8 + (3 + 11) + 20 ≤ R.locals) : CallW R s args R_Run R_Run 195 y_Run_setOf b_Run_setOf 3 (some .int) (.code y_Run_setOf b_Run_setOf 3 (some .int) :: gtb) { frames := 1, cells := 0, slots := 0, locals := 20 } 0 0 2 := cwV 2 ht (gV w3_205 w3_194 w3_195 w1_4 w3_196) rfl rfl rfl ⟨rfl, by decide, by decide, by decide +kernel⟩ ⟨h1, h2⟩
noncomputable def f_Run_decisionOf_L12 (k : Nat) (M : Mem) (x2 : Int32) (x3 : Int32) : Option (Int32 ⊕ Int32) := if (4 : Int32) ≤ x3 then some (.inr (M 1 3)) else if x2 = ((1 : Int32) <<< (x3 &&& 31)) then some (.inr x3) else some (.inl (x3 + (1 : Int32)))
noncomputable def f_Run_decisionOf_W12 (k : Nat) (M : Mem) (x2 : Int32) (u : Int32) : Option Int32 := loop (fun t => f_Run_decisionOf_L12 k M x2 t) u
noncomputable def f_Run_decisionOf_J12 (k : Nat) (M : Mem) (x2 : Int32) (x3 : Int32) : Option (Int32) := bnd (f_Run_decisionOf_W12 k M x2 x3) (fun e12 => some e12)
noncomputable def f_Run_decisionOf (k : Nat) (M : Mem) (x1 : Int32) : Option Int32 := bnd (f_Run_setOf k M x1 (M k 1)) (fun y2 => f_Run_decisionOf_J12 k M y2 (0 : Int32))
set_option maxHeartbeats 4000000 in
theorem wk_Run_decisionOf {l : Launch} {Z : WD} (hI : wI Z) (hZ : IsC Z) (k : Nat) (M : Mem) (x1 : Int32) (hk : isRun k) {r : Int32} {p : Program} {e : Env} {R : Room} {s : State} {m : MethodId} {args : Array Value} {below : List Frame} {meth : Method} {c : Code} {H : Heap} {locs : List Loc} {ls : Array Slot} {Q : State → Prop} (S : CallFix p m c b_Run_decisionOf 4 s args gtb R_Run) (hX : wX Z s) (hR : 2 ≤ R.frames ∧ 42 ≤ R.locals) (hQ : ∀ (pc : Nat) (H : Heap) (locs : List Loc) (ls : Array Slot), HW Z M s H locs → decode b_Run_decisionOf pc = .ok (.ireturn, 1) → W p l e R s m args below meth c H locs 0 0 Q (F0 m pc ls [.int r])) (hf0 : f_Run_decisionOf k M x1 = some r) (hH : HW Z M s H locs) (hl : lv_has ls 4 [(0, .ref (Z.2.2.1 k)), (1, .int x1)]) : W p l e R s m args below meth c H locs 0 0 Q (F0 m 0 ls []) := by
  have hx := S.1
  have hb := S.2.1
  have hown := S.2.2.2.1
  have ht := S.2.2.2.2
  unfold f_Run_decisionOf at hf0
  have J12 : ∀ (x2 : Int32) (x3 : Int32) (H : Heap) (locs : List Loc) (ls : Array Slot), f_Run_decisionOf_J12 k M x2 x3 = some r → HW Z M s H locs → lv_has ls 4 [(0, .ref (Z.2.2.1 k)), (2, .int x2), (3, .int x3)] → W p l e R s m args below meth c H locs 0 0 Q (F0 m 12 ls []) := by
    intro x2 x3 H locs ls hf0 hH hl
    unfold f_Run_decisionOf_J12 at hf0
    obtain ⟨e12, he12, hf0⟩ := o_b hf0
    unfold f_Run_decisionOf_W12 at he12
    refine loop_W (fun t => ∀ (H : Heap) (locs : List Loc) (ls : Array Slot), HW Z M s H locs → lv_has ls 4 [(0, .ref (Z.2.2.1 k)), (2, .int x2), (3, .int t)] → W p l e R s m args below meth c H locs 0 0 Q (F0 m 12 ls [])) ?_ he12 H locs ls hH hl
    rintro x3 o1 hf1 hG1 hR1 H locs ls hH hl
    replace hH : HW Z M s H locs := hH
    replace hl : lv_has ls 4 [(0, .ref (Z.2.2.1 k)), (2, .int x2), (3, .int x3)] := hl
    replace hf1 : f_Run_decisionOf_L12 k M x2 x3 = some o1 := hf1
    unfold f_Run_decisionOf_L12 at hf1
    refine lv_iload_n hx hb d_Run_decisionOf_12 rfl (lv_at hl 2 rfl) ?_
    refine lv_iconst (v := (4 : Int32)) hx hb d_Run_decisionOf_13 (by decide) ?_
    refine lv_icmp_ge (tgt := 32) hx hb d_Run_decisionOf_14 (by decide) (fun hc => ?_) (fun hc => ?_)
    · replace hf1 := o_t hc hf1
      refine lv_aload_n hx hb d_Run_decisionOf_32 rfl (lv_at hl 0 rfl) ?_
      refine g_Run_47 S hX hH hZ hk d_Run_decisionOf_33 ?_
      refine g_Run_51 S hX hH hZ isPlay_0 d_Run_decisionOf_36 ?_
      refine lv_iconst (v := (3 : Int32)) hx hb d_Run_decisionOf_39 (by decide) ?_
      refine q_iald (j := 3) hx hb hX hH (aa_Play_1 hZ isPlay_0) (vp_c (by decide)) (by decide) d_Run_decisionOf_40 ?_
      obtain rfl := hR1 _ (o_v hf1).symm
      obtain rfl := o_v hf0
      exact hQ _ _ _ _ hH d_Run_decisionOf_41
    · replace hf1 := o_f hc hf1
      refine lv_iload_n hx hb d_Run_decisionOf_17 rfl (lv_at hl 1 rfl) ?_
      refine lv_iconst (v := (1 : Int32)) hx hb d_Run_decisionOf_18 (by decide) ?_
      refine lv_iload_n hx hb d_Run_decisionOf_19 rfl (lv_at hl 2 rfl) ?_
      refine lv_ishl hx hb d_Run_decisionOf_20 ?_
      refine lv_icmp_ne (tgt := 26) hx hb d_Run_decisionOf_21 (by decide) (fun hc => ?_) (fun hc => ?_)
      · replace hf1 := o_f hc hf1
        refine lv_iinc (v := x3 + (1 : Int32)) (lv' := [(3, .int (x3 + (1 : Int32))), (0, .ref (Z.2.2.1 k)), (2, .int x2)]) hx hb d_Run_decisionOf_26 hl (k := 2) rfl rfl (by decide) rfl (fun ls hl => ?_)
        refine lv_goto (tgt := 12) hx hb d_Run_decisionOf_29 (by decide) ?_
        exact hG1 _ (o_v hf1).symm _ _ _ hH (lv_sub hl [1, 2, 0] rfl)
      · replace hf1 := o_t hc hf1
        refine lv_iload_n hx hb d_Run_decisionOf_24 rfl (lv_at hl 2 rfl) ?_
        obtain rfl := hR1 _ (o_v hf1).symm
        obtain rfl := o_v hf0
        exact hQ _ _ _ _ hH d_Run_decisionOf_25
  refine lv_aload_n hx hb d_Run_decisionOf_0 rfl (lv_at hl 0 rfl) ?_
  refine lv_iload_n hx hb d_Run_decisionOf_1 rfl (lv_at hl 1 rfl) ?_
  refine lv_aload_n hx hb d_Run_decisionOf_2 rfl (lv_at hl 0 rfl) ?_
  refine g_Run_56 S hX hH hZ hk d_Run_decisionOf_3 ?_
  obtain ⟨y2, hc1, hf0⟩ := o_b hf0
  refine q_cVi (As := [.int x1, .int (M k 1)]) (rest := []) S hX hH (c_Run_setOf l hI hZ k M x1 (M k 1) hk hc1) (cw_Run_195 S.2.2.2.2 (Nat.le_trans (Nat.le_of_ble_eq_true rfl) hR.1) (Nat.le_trans (Nat.le_of_ble_eq_true rfl) hR.2)) (rc_Run hX hH hZ hk) rfl hl.1 rfl (Nat.le_of_ble_eq_true rfl) d_Run_decisionOf_6 ⟨Nat.zero_le _, Nat.zero_le _⟩ (fun H locs hH => ?_)
  refine lv_istore_n (lv' := [(2, .int y2), (0, .ref (Z.2.2.1 k)), (1, .int x1)]) hx hb d_Run_decisionOf_9 rfl hl (by decide) rfl (fun ls hl => ?_)
  refine lv_iconst (v := (0 : Int32)) hx hb d_Run_decisionOf_10 (by decide) ?_
  refine lv_istore_n (lv' := [(3, .int (0 : Int32)), (2, .int y2), (0, .ref (Z.2.2.1 k)), (1, .int x1)]) hx hb d_Run_decisionOf_11 rfl hl (by decide) rfl (fun ls hl => ?_)
  exact J12 _ _ _ _ _ hf0 hH (lv_sub hl [2, 1, 0] rfl)
theorem c_Run_decisionOf (l : Launch) {Z : WD} (hI : wI Z) (hZ : IsC Z) (k : Nat) (M : Mem) (x1 : Int32) (hk : isRun k) {r : Int32} (hf : f_Run_decisionOf k M x1 = some r) : Ci l Z y_Run_decisionOf b_Run_decisionOf 4 (some .int) 2 42 [.ref (Z.2.2.1 k), .int x1] M M r := by
  refine Met.ofW (cc := b_Run_decisionOf) (maxL := 4) (ret := (some .int)) (by decide) rfl ?_
  intro p e s m args below meth c s₁ B hml hv
  obtain ⟨rfl, hP, hX⟩ := hv
  have S : CallFix p m c b_Run_decisionOf 4 s ([.ref (Z.2.2.1 k), .int x1] : List Value).toArray gtb R_Run := ⟨B.exec, B.bytes, hml, findClass_of_methodNamed B.named, fun w hw => atoms_spec (ws := .code y_Run_decisionOf b_Run_decisionOf 4 (some .int) :: gtb) B.pre w (List.mem_cons_of_mem _ hw)⟩
  have hl := lv_entry ([.ref (Z.2.2.1 k), .int x1]) (n := 4) (Nat.le_of_ble_eq_true rfl)
  rw [lg_entry_eq]
  exact wk_Run_decisionOf hI hZ k M x1 hk S hX ⟨Nat.le_refl _, Nat.le_refl _⟩ (fun pc H locs ls hH d => q_ri S.1 S.2.1 B.returns B.notSynchronized hH rfl rfl d) hf ⟨hP, va_S.rf⟩ hl
theorem cw_Run_207 {R : Room} {s : State} {args : Array Value} (ht : ∀ w ∈ gtb, w.before args s = true) (h1 : 2 + 1 ≤ R.frames) (h2 : 8 + (2 + 11) + 43 ≤ R.locals) : CallB R s args R_Run 207 y_Chain_bears b_Chain_bears 2 (some .boolean) (.code y_Chain_bears b_Chain_bears 2 (some .boolean) :: gtb) { frames := 2, cells := 0, slots := 0, locals := 43 } 0 0 2 ∧ (Cond.static y_Chain_bears).before args s = true := va_cwS 2 ht (gS w3_228 w2_234 w1_6 w2_235) rfl rfl rfl ⟨by decide, by decide, by decide +kernel⟩ ⟨h1, h2⟩
theorem cw_Run_210 {R : Room} {s : State} {args : Array Value} (ht : ∀ w ∈ gtb, w.before args s = true) (h1 : 0 + 1 ≤ R.frames) (h2 : 8 + (1 + 11) + 0 ≤ R.locals) : CallB R s args R_Run 210 y_Int_bitCount b_Int_bitCount 1 (some .int) (.code y_Int_bitCount b_Int_bitCount 1 (some .int) :: gtb) { frames := 0, cells := 0, slots := 0, locals := 0 } 0 0 1 ∧ (Cond.static y_Int_bitCount).before args s = true := va_cwS 1 ht (gS w3_229 w3_127 w1_15 w3_128) rfl rfl rfl ⟨by decide, by decide, by decide +kernel⟩ ⟨h1, h2⟩
noncomputable def f_Run_firstTwoFaced_J86 (k : Nat) (M : Mem) (x1 : Int32) (x2 : Int32) (x3 : Int32) (x4 : Int32) (x5 : Int32) (s0 : Int32) : Option ((Int32 × Int32) ⊕ Int32) := if s0 = 0 then some (.inl (x3, x5 + (1 : Int32))) else 
    gIn x5 212 (bnd (f_Chain_bears (M (k + 4) x5.toNatClampNeg) x2) (fun y3 => 
    if (bI y3) = 0 then some (.inl (x3, x5 + (1 : Int32))) else some (.inl (x3 ||| ((1 : Int32) <<< ((M (k + 3) x5.toNatClampNeg) &&& 31)), x5 + (1 : Int32)))))
noncomputable def f_Run_firstTwoFaced_J85 (k : Nat) (M : Mem) (x1 : Int32) (x2 : Int32) (x3 : Int32) (x4 : Int32) (x5 : Int32) : Option ((Int32 × Int32) ⊕ Int32) := f_Run_firstTwoFaced_J86 k M x1 x2 x3 x4 x5 (0 : Int32)
noncomputable def f_Run_firstTwoFaced_L46 (k : Nat) (M : Mem) (x1 : Int32) (x2 : Int32) (x4 : Int32) (x3 : Int32) (x5 : Int32) : Option ((Int32 × Int32) ⊕ Int32) := if (M k 4) ≤ x5 then some (.inr x3) else 
    gIn x5 212 (if (M (k + 5) x5.toNatClampNeg) = x4 then 
    if (f_Route_toOf (M (k + 2) x5.toNatClampNeg)) = x1 then f_Run_firstTwoFaced_J86 k M x1 x2 x3 x4 x5 (1 : Int32) else f_Run_firstTwoFaced_J85 k M x1 x2 x3 x4 x5 else f_Run_firstTwoFaced_J85 k M x1 x2 x3 x4 x5)
noncomputable def f_Run_firstTwoFaced_W46 (k : Nat) (M : Mem) (x1 : Int32) (x2 : Int32) (x4 : Int32) (u : (Int32 × Int32)) : Option Int32 := loop (fun t => f_Run_firstTwoFaced_L46 k M x1 x2 x4 t.1 t.2) u
noncomputable def f_Run_firstTwoFaced_J46 (k : Nat) (M : Mem) (x1 : Int32) (x2 : Int32) (x3 : Int32) (x4 : Int32) (x5 : Int32) : Option ((Int32 × Int32) ⊕ Int32) := bnd (f_Run_firstTwoFaced_W46 k M x1 x2 x4 (x3, x5)) (fun e46 => if (f_Int_bitCount e46) ≤ (1 : Int32) then some (.inl (e46, x4 + (1 : Int32))) else some (.inr x4))
noncomputable def f_Run_firstTwoFaced_L34 (k : Nat) (M : Mem) (x1 : Int32) (x2 : Int32) (x3 : Int32) (x4 : Int32) : Option ((Int32 × Int32) ⊕ Int32) := if (M k 1) < x4 then some (.inr (-2 : Int32)) else f_Run_firstTwoFaced_J46 k M x1 x2 x3 x4 (0 : Int32)
noncomputable def f_Run_firstTwoFaced_W34 (k : Nat) (M : Mem) (x1 : Int32) (x2 : Int32) (u : (Int32 × Int32)) : Option Int32 := loop (fun t => f_Run_firstTwoFaced_L34 k M x1 x2 t.1 t.2) u
noncomputable def f_Run_firstTwoFaced_J34 (k : Nat) (M : Mem) (x1 : Int32) (x2 : Int32) (x3 : Int32) (x4 : Int32) : Option (Int32) := bnd (f_Run_firstTwoFaced_W34 k M x1 x2 (x3, x4)) (fun e34 => some e34)
noncomputable def f_Run_firstTwoFaced_J30 (k : Nat) (M : Mem) (x1 : Int32) (x2 : Int32) (s0 : Int32) : Option (Int32) := f_Run_firstTwoFaced_J34 k M x1 x2 s0 (1 : Int32)
noncomputable def f_Run_firstTwoFaced (k : Nat) (M : Mem) (x1 : Int32) : Option Int32 := 
    if x1 = (M 1 0) then f_Run_firstTwoFaced_J30 k M x1 (M 1 0) ((1 : Int32) <<< ((M 1 1) &&& 31)) else f_Run_firstTwoFaced_J30 k M x1 (M 1 0) (0 : Int32)
set_option maxHeartbeats 4000000 in
theorem wk_Run_firstTwoFaced {l : Launch} {Z : WD} (hI : wI Z) (hZ : IsC Z) (k : Nat) (M : Mem) (x1 : Int32) (hk : isRun k) {r : Int32} {p : Program} {e : Env} {R : Room} {s : State} {m : MethodId} {args : Array Value} {below : List Frame} {meth : Method} {c : Code} {H : Heap} {locs : List Loc} {ls : Array Slot} {Q : State → Prop} (S : CallFix p m c b_Run_firstTwoFaced 7 s args gtb R_Run) (hX : wX Z s) (hR : 3 ≤ R.frames ∧ 64 ≤ R.locals) (hQ : ∀ (pc : Nat) (H : Heap) (locs : List Loc) (ls : Array Slot), HW Z M s H locs → decode b_Run_firstTwoFaced pc = .ok (.ireturn, 1) → W p l e R s m args below meth c H locs 0 0 Q (F0 m pc ls [.int r])) (hf0 : f_Run_firstTwoFaced k M x1 = some r) (hH : HW Z M s H locs) (hl : lv_has ls 7 [(0, .ref (Z.2.2.1 k)), (1, .int x1)]) : W p l e R s m args below meth c H locs 0 0 Q (F0 m 0 ls []) := by
  have hx := S.1
  have hb := S.2.1
  have hown := S.2.2.2.1
  have ht := S.2.2.2.2
  unfold f_Run_firstTwoFaced at hf0
  have J34 : ∀ (x1 : Int32) (x2 : Int32) (x3 : Int32) (x4 : Int32) (H : Heap) (locs : List Loc) (ls : Array Slot), f_Run_firstTwoFaced_J34 k M x1 x2 x3 x4 = some r → HW Z M s H locs → lv_has ls 7 [(0, .ref (Z.2.2.1 k)), (1, .int x1), (2, .int x2), (3, .int x3), (4, .int x4)] → W p l e R s m args below meth c H locs 0 0 Q (F0 m 34 ls []) := by
    intro x1 x2 x3 x4 H locs ls hf0 hH hl
    unfold f_Run_firstTwoFaced_J34 at hf0
    obtain ⟨e34, he34, hf0⟩ := o_b hf0
    unfold f_Run_firstTwoFaced_W34 at he34
    refine loop_W (fun t => ∀ (H : Heap) (locs : List Loc) (ls : Array Slot), HW Z M s H locs → lv_has ls 7 [(0, .ref (Z.2.2.1 k)), (1, .int x1), (2, .int x2), (3, .int t.1), (4, .int t.2)] → W p l e R s m args below meth c H locs 0 0 Q (F0 m 34 ls [])) ?_ he34 H locs ls hH hl
    rintro ⟨x3, x4⟩ o1 hf1 hG1 hR1 H locs ls hH hl
    replace hH : HW Z M s H locs := hH
    replace hl : lv_has ls 7 [(0, .ref (Z.2.2.1 k)), (1, .int x1), (2, .int x2), (3, .int x3), (4, .int x4)] := hl
    replace hf1 : f_Run_firstTwoFaced_L34 k M x1 x2 x3 x4 = some o1 := hf1
    unfold f_Run_firstTwoFaced_L34 at hf1
    have J46 : ∀ (x3 : Int32) (x4 : Int32) (x5 : Int32) (H : Heap) (locs : List Loc) (ls : Array Slot), f_Run_firstTwoFaced_J46 k M x1 x2 x3 x4 x5 = some o1 → HW Z M s H locs → lv_has ls 7 [(0, .ref (Z.2.2.1 k)), (1, .int x1), (2, .int x2), (3, .int x3), (4, .int x4), (5, .int x5)] → W p l e R s m args below meth c H locs 0 0 Q (F0 m 46 ls []) := by
      intro x3 x4 x5 H locs ls hf1 hH hl
      unfold f_Run_firstTwoFaced_J46 at hf1
      obtain ⟨e46, he46, hf1⟩ := o_b hf1
      have KX46 : ∀ (H : Heap) (locs : List Loc) (ls : Array Slot), HW Z M s H locs → lv_has ls 7 [(0, .ref (Z.2.2.1 k)), (1, .int x1), (2, .int x2), (3, .int e46), (4, .int x4)] → W p l e R s m args below meth c H locs 0 0 Q (F0 m 125 ls []) := by
        intro H locs ls hH hl
        refine lv_iload_n hx hb d_Run_firstTwoFaced_125 rfl (lv_at hl 3 rfl) ?_
        refine q_cSi (As := [.int e46]) (rest := []) S hX hH (c_Int_bitCount l hI M e46 rfl) (cw_Run_210 S.2.2.2.2 (Nat.le_trans (Nat.le_of_ble_eq_true rfl) hR.1) (Nat.le_trans (Nat.le_of_ble_eq_true rfl) hR.2)) rfl hl.1 rfl (Nat.le_of_ble_eq_true rfl) d_Run_firstTwoFaced_126 ⟨Nat.zero_le _, Nat.zero_le _⟩ (fun H locs hH => ?_)
        refine lv_iconst (v := (1 : Int32)) hx hb d_Run_firstTwoFaced_129 (by decide) ?_
        refine lv_icmp_le (tgt := 136) hx hb d_Run_firstTwoFaced_130 (by decide) (fun hc => ?_) (fun hc => ?_)
        · replace hf1 := o_t hc hf1
          refine lv_iinc (v := x4 + (1 : Int32)) (lv' := [(4, .int (x4 + (1 : Int32))), (0, .ref (Z.2.2.1 k)), (1, .int x1), (2, .int x2), (3, .int e46)]) hx hb d_Run_firstTwoFaced_136 hl (k := 4) rfl rfl (by decide) rfl (fun ls hl => ?_)
          refine lv_goto (tgt := 34) hx hb d_Run_firstTwoFaced_139 (by decide) ?_
          exact hG1 _ (o_v hf1).symm _ _ _ hH (lv_sub hl [1, 2, 3, 4, 0] rfl)
        · replace hf1 := o_f hc hf1
          refine lv_iload hx hb d_Run_firstTwoFaced_133 (lv_at hl 4 rfl) ?_
          obtain rfl := hR1 _ (o_v hf1).symm
          obtain rfl := o_v hf0
          exact hQ _ _ _ _ hH d_Run_firstTwoFaced_135
      unfold f_Run_firstTwoFaced_W46 at he46
      refine loop_W (fun t => ∀ (H : Heap) (locs : List Loc) (ls : Array Slot), HW Z M s H locs → lv_has ls 7 [(0, .ref (Z.2.2.1 k)), (1, .int x1), (2, .int x2), (3, .int t.1), (4, .int x4), (5, .int t.2)] → W p l e R s m args below meth c H locs 0 0 Q (F0 m 46 ls [])) ?_ he46 H locs ls hH hl
      rintro ⟨x3, x5⟩ o2 hf2 hG2 hR2 H locs ls hH hl
      replace hH : HW Z M s H locs := hH
      replace hl : lv_has ls 7 [(0, .ref (Z.2.2.1 k)), (1, .int x1), (2, .int x2), (3, .int x3), (4, .int x4), (5, .int x5)] := hl
      replace hf2 : f_Run_firstTwoFaced_L46 k M x1 x2 x4 x3 x5 = some o2 := hf2
      unfold f_Run_firstTwoFaced_L46 at hf2
      have J86 : ∀ (x3 : Int32) (x5 : Int32) (s0 : Int32) (H : Heap) (locs : List Loc) (ls : Array Slot), f_Run_firstTwoFaced_J86 k M x1 x2 x3 x4 x5 s0 = some o2 → HW Z M s H locs → lv_has ls 7 [(0, .ref (Z.2.2.1 k)), (1, .int x1), (2, .int x2), (3, .int x3), (4, .int x4), (5, .int x5)] → W p l e R s m args below meth c H locs 0 0 Q (F0 m 86 ls [.int s0]) := by
        intro x3 x5 s0 H locs ls hf2 hH hl
        unfold f_Run_firstTwoFaced_J86 at hf2
        refine lv_istore (lv' := [(6, .int s0), (0, .ref (Z.2.2.1 k)), (1, .int x1), (2, .int x2), (3, .int x3), (4, .int x4), (5, .int x5)]) hx hb d_Run_firstTwoFaced_86 hl (by decide) rfl (fun ls hl => ?_)
        refine lv_iload hx hb d_Run_firstTwoFaced_88 (lv_at hl 0 rfl) ?_
        refine lv_if_eq (tgt := 119) hx hb d_Run_firstTwoFaced_90 (by decide) (fun hc => ?_) (fun hc => ?_)
        · replace hf2 := o_t hc hf2
          refine lv_iinc (v := x5 + (1 : Int32)) (lv' := [(5, .int (x5 + (1 : Int32))), (6, .int s0), (0, .ref (Z.2.2.1 k)), (1, .int x1), (2, .int x2), (3, .int x3), (4, .int x4)]) hx hb d_Run_firstTwoFaced_119 hl (k := 6) rfl rfl (by decide) rfl (fun ls hl => ?_)
          refine lv_goto (tgt := 46) hx hb d_Run_firstTwoFaced_122 (by decide) ?_
          exact hG2 _ (o_v hf2).symm _ _ _ hH (lv_sub hl [2, 3, 4, 5, 6, 0] rfl)
        · replace hf2 := o_f hc hf2
          refine lv_aload_n hx hb d_Run_firstTwoFaced_93 rfl (lv_at hl 1 rfl) ?_
          refine g_Run_23 S hX hH hZ hk d_Run_firstTwoFaced_94 ?_
          refine lv_iload hx hb d_Run_firstTwoFaced_97 (lv_at hl 6 rfl) ?_
          obtain ⟨hn1, hf2⟩ := o_in hf2
          refine q_iald (j := x5.toNatClampNeg) hx hb hX hH (aa_Run_4 hZ hk) hn1 rfl d_Run_firstTwoFaced_99 ?_
          refine lv_iload_n hx hb d_Run_firstTwoFaced_100 rfl (lv_at hl 3 rfl) ?_
          obtain ⟨y3, hc2, hf2⟩ := o_b hf2
          refine q_cSi (As := [.int (M (k + 4) x5.toNatClampNeg), .int x2]) (rest := []) S hX hH (c_Chain_bears l hI M (M (k + 4) x5.toNatClampNeg) x2 hc2) (cw_Run_207 S.2.2.2.2 (Nat.le_trans (Nat.le_of_ble_eq_true rfl) hR.1) (Nat.le_trans (Nat.le_of_ble_eq_true rfl) hR.2)) rfl hl.1 rfl (Nat.le_of_ble_eq_true rfl) d_Run_firstTwoFaced_101 ⟨Nat.zero_le _, Nat.zero_le _⟩ (fun H locs hH => ?_)
          refine lv_if_eq (tgt := 119) hx hb d_Run_firstTwoFaced_104 (by decide) (fun hc => ?_) (fun hc => ?_)
          · replace hf2 := o_t hc hf2
            refine lv_iinc (v := x5 + (1 : Int32)) (lv' := [(5, .int (x5 + (1 : Int32))), (6, .int s0), (0, .ref (Z.2.2.1 k)), (1, .int x1), (2, .int x2), (3, .int x3), (4, .int x4)]) hx hb d_Run_firstTwoFaced_119 hl (k := 6) rfl rfl (by decide) rfl (fun ls hl => ?_)
            refine lv_goto (tgt := 46) hx hb d_Run_firstTwoFaced_122 (by decide) ?_
            exact hG2 _ (o_v hf2).symm _ _ _ hH (lv_sub hl [2, 3, 4, 5, 6, 0] rfl)
          · replace hf2 := o_f hc hf2
            refine lv_iload_n hx hb d_Run_firstTwoFaced_107 rfl (lv_at hl 4 rfl) ?_
            refine lv_iconst (v := (1 : Int32)) hx hb d_Run_firstTwoFaced_108 (by decide) ?_
            refine lv_aload_n hx hb d_Run_firstTwoFaced_109 rfl (lv_at hl 1 rfl) ?_
            refine g_Run_20 S hX hH hZ hk d_Run_firstTwoFaced_110 ?_
            refine lv_iload hx hb d_Run_firstTwoFaced_113 (lv_at hl 6 rfl) ?_
            refine q_iald (j := x5.toNatClampNeg) hx hb hX hH (aa_Run_3 hZ hk) hn1 rfl d_Run_firstTwoFaced_115 ?_
            refine lv_ishl hx hb d_Run_firstTwoFaced_116 ?_
            refine lv_ior hx hb d_Run_firstTwoFaced_117 ?_
            refine lv_istore_n (lv' := [(3, .int (x3 ||| ((1 : Int32) <<< ((M (k + 3) x5.toNatClampNeg) &&& 31)))), (6, .int s0), (0, .ref (Z.2.2.1 k)), (1, .int x1), (2, .int x2), (4, .int x4), (5, .int x5)]) hx hb d_Run_firstTwoFaced_118 rfl hl (by decide) rfl (fun ls hl => ?_)
            refine lv_iinc (v := x5 + (1 : Int32)) (lv' := [(5, .int (x5 + (1 : Int32))), (3, .int (x3 ||| ((1 : Int32) <<< ((M (k + 3) x5.toNatClampNeg) &&& 31)))), (6, .int s0), (0, .ref (Z.2.2.1 k)), (1, .int x1), (2, .int x2), (4, .int x4)]) hx hb d_Run_firstTwoFaced_119 hl (k := 6) rfl rfl (by decide) rfl (fun ls hl => ?_)
            refine lv_goto (tgt := 46) hx hb d_Run_firstTwoFaced_122 (by decide) ?_
            exact hG2 _ (o_v hf2).symm _ _ _ hH (lv_sub hl [3, 4, 5, 1, 6, 0] rfl)
      have J85 : ∀ (x3 : Int32) (x5 : Int32) (H : Heap) (locs : List Loc) (ls : Array Slot), f_Run_firstTwoFaced_J85 k M x1 x2 x3 x4 x5 = some o2 → HW Z M s H locs → lv_has ls 7 [(0, .ref (Z.2.2.1 k)), (1, .int x1), (2, .int x2), (3, .int x3), (4, .int x4), (5, .int x5)] → W p l e R s m args below meth c H locs 0 0 Q (F0 m 85 ls []) := by
        intro x3 x5 H locs ls hf2 hH hl
        unfold f_Run_firstTwoFaced_J85 at hf2
        refine lv_iconst (v := (0 : Int32)) hx hb d_Run_firstTwoFaced_85 (by decide) ?_
        exact J86 _ _ _ _ _ _ hf2 hH (lv_sub hl [0, 1, 2, 3, 4, 5] rfl)
      refine lv_iload hx hb d_Run_firstTwoFaced_46 (lv_at hl 5 rfl) ?_
      refine lv_aload_n hx hb d_Run_firstTwoFaced_48 rfl (lv_at hl 0 rfl) ?_
      refine g_Run_110 S hX hH hZ hk d_Run_firstTwoFaced_49 ?_
      refine lv_icmp_ge (tgt := 125) hx hb d_Run_firstTwoFaced_52 (by decide) (fun hc => ?_) (fun hc => ?_)
      · replace hf2 := o_t hc hf2
        obtain rfl := hR2 _ (o_v hf2).symm
        exact KX46 _ _ _ hH (lv_sub hl [0, 1, 2, 3, 4] rfl)
      · replace hf2 := o_f hc hf2
        refine lv_aload_n hx hb d_Run_firstTwoFaced_55 rfl (lv_at hl 0 rfl) ?_
        refine g_Run_26 S hX hH hZ hk d_Run_firstTwoFaced_56 ?_
        refine lv_iload hx hb d_Run_firstTwoFaced_59 (lv_at hl 5 rfl) ?_
        obtain ⟨hn4, hf2⟩ := o_in hf2
        refine q_iald (j := x5.toNatClampNeg) hx hb hX hH (aa_Run_5 hZ hk) hn4 rfl d_Run_firstTwoFaced_61 ?_
        refine lv_iload hx hb d_Run_firstTwoFaced_62 (lv_at hl 4 rfl) ?_
        refine lv_icmp_ne (tgt := 85) hx hb d_Run_firstTwoFaced_64 (by decide) (fun hc => ?_) (fun hc => ?_)
        · replace hf2 := o_f hc hf2
          exact J85 _ _ _ _ _ hf2 hH (lv_sub hl [0, 1, 2, 3, 4, 5] rfl)
        · replace hf2 := o_t hc hf2
          refine lv_aload_n hx hb d_Run_firstTwoFaced_67 rfl (lv_at hl 0 rfl) ?_
          refine g_Run_17 S hX hH hZ hk d_Run_firstTwoFaced_68 ?_
          refine lv_iload hx hb d_Run_firstTwoFaced_71 (lv_at hl 5 rfl) ?_
          refine q_iald (j := x5.toNatClampNeg) hx hb hX hH (aa_Run_2 hZ hk) hn4 rfl d_Run_firstTwoFaced_73 ?_
          refine q_cSi (As := [.int (M (k + 2) x5.toNatClampNeg)]) (rest := []) S hX hH (c_Route_toOf l hI M (M (k + 2) x5.toNatClampNeg) rfl) (cw_Run_178 S.2.2.2.2 (Nat.le_trans (Nat.le_of_ble_eq_true rfl) hR.1) (Nat.le_trans (Nat.le_of_ble_eq_true rfl) hR.2)) rfl hl.1 rfl (Nat.le_of_ble_eq_true rfl) d_Run_firstTwoFaced_74 ⟨Nat.zero_le _, Nat.zero_le _⟩ (fun H locs hH => ?_)
          refine lv_iload_n hx hb d_Run_firstTwoFaced_77 rfl (lv_at hl 1 rfl) ?_
          refine lv_icmp_ne (tgt := 85) hx hb d_Run_firstTwoFaced_78 (by decide) (fun hc => ?_) (fun hc => ?_)
          · replace hf2 := o_f hc hf2
            exact J85 _ _ _ _ _ hf2 hH (lv_sub hl [0, 1, 2, 3, 4, 5] rfl)
          · replace hf2 := o_t hc hf2
            refine lv_iconst (v := (1 : Int32)) hx hb d_Run_firstTwoFaced_81 (by decide) ?_
            refine lv_goto (tgt := 86) hx hb d_Run_firstTwoFaced_82 (by decide) ?_
            exact J86 _ _ _ _ _ _ hf2 hH (lv_sub hl [0, 1, 2, 3, 4, 5] rfl)
    refine lv_iload hx hb d_Run_firstTwoFaced_34 (lv_at hl 4 rfl) ?_
    refine lv_aload_n hx hb d_Run_firstTwoFaced_36 rfl (lv_at hl 0 rfl) ?_
    refine g_Run_56 S hX hH hZ hk d_Run_firstTwoFaced_37 ?_
    refine lv_icmp_gt (tgt := 142) hx hb d_Run_firstTwoFaced_40 (by decide) (fun hc => ?_) (fun hc => ?_)
    · replace hf1 := o_t hc hf1
      refine lv_bipush (v := (-2 : Int32)) hx hb d_Run_firstTwoFaced_142 (by decide) ?_
      obtain rfl := hR1 _ (o_v hf1).symm
      obtain rfl := o_v hf0
      exact hQ _ _ _ _ hH d_Run_firstTwoFaced_144
    · replace hf1 := o_f hc hf1
      refine lv_iconst (v := (0 : Int32)) hx hb d_Run_firstTwoFaced_43 (by decide) ?_
      refine lv_istore (lv' := [(5, .int (0 : Int32)), (0, .ref (Z.2.2.1 k)), (1, .int x1), (2, .int x2), (3, .int x3), (4, .int x4)]) hx hb d_Run_firstTwoFaced_44 hl (by decide) rfl (fun ls hl => ?_)
      exact J46 _ _ _ _ _ _ hf1 hH (lv_sub hl [1, 2, 3, 4, 5, 0] rfl)
  have J30 : ∀ (x1 : Int32) (x2 : Int32) (s0 : Int32) (H : Heap) (locs : List Loc) (ls : Array Slot), f_Run_firstTwoFaced_J30 k M x1 x2 s0 = some r → HW Z M s H locs → lv_has ls 7 [(0, .ref (Z.2.2.1 k)), (1, .int x1), (2, .int x2)] → W p l e R s m args below meth c H locs 0 0 Q (F0 m 30 ls [.int s0]) := by
    intro x1 x2 s0 H locs ls hf0 hH hl
    unfold f_Run_firstTwoFaced_J30 at hf0
    refine lv_istore_n (lv' := [(3, .int s0), (0, .ref (Z.2.2.1 k)), (1, .int x1), (2, .int x2)]) hx hb d_Run_firstTwoFaced_30 rfl hl (by decide) rfl (fun ls hl => ?_)
    refine lv_iconst (v := (1 : Int32)) hx hb d_Run_firstTwoFaced_31 (by decide) ?_
    refine lv_istore (lv' := [(4, .int (1 : Int32)), (3, .int s0), (0, .ref (Z.2.2.1 k)), (1, .int x1), (2, .int x2)]) hx hb d_Run_firstTwoFaced_32 hl (by decide) rfl (fun ls hl => ?_)
    exact J34 _ _ _ _ _ _ _ hf0 hH (lv_sub hl [2, 3, 4, 1, 0] rfl)
  refine lv_aload_n hx hb d_Run_firstTwoFaced_0 rfl (lv_at hl 0 rfl) ?_
  refine g_Run_47 S hX hH hZ hk d_Run_firstTwoFaced_1 ?_
  refine g_Run_51 S hX hH hZ isPlay_0 d_Run_firstTwoFaced_4 ?_
  refine lv_iconst (v := (0 : Int32)) hx hb d_Run_firstTwoFaced_7 (by decide) ?_
  refine q_iald (j := 0) hx hb hX hH (aa_Play_1 hZ isPlay_0) (vp_c (by decide)) (by decide) d_Run_firstTwoFaced_8 ?_
  refine lv_istore_n (lv' := [(2, .int (M 1 0)), (0, .ref (Z.2.2.1 k)), (1, .int x1)]) hx hb d_Run_firstTwoFaced_9 rfl hl (by decide) rfl (fun ls hl => ?_)
  refine lv_iload_n hx hb d_Run_firstTwoFaced_10 rfl (lv_at hl 2 rfl) ?_
  refine lv_iload_n hx hb d_Run_firstTwoFaced_11 rfl (lv_at hl 0 rfl) ?_
  refine lv_icmp_ne (tgt := 29) hx hb d_Run_firstTwoFaced_12 (by decide) (fun hc => ?_) (fun hc => ?_)
  · replace hf0 := o_f hc hf0
    refine lv_iconst (v := (0 : Int32)) hx hb d_Run_firstTwoFaced_29 (by decide) ?_
    exact J30 _ _ _ _ _ _ hf0 hH (lv_sub hl [1, 2, 0] rfl)
  · replace hf0 := o_t hc hf0
    refine lv_iconst (v := (1 : Int32)) hx hb d_Run_firstTwoFaced_15 (by decide) ?_
    refine lv_aload_n hx hb d_Run_firstTwoFaced_16 rfl (lv_at hl 1 rfl) ?_
    refine g_Run_47 S hX hH hZ hk d_Run_firstTwoFaced_17 ?_
    refine g_Run_51 S hX hH hZ isPlay_0 d_Run_firstTwoFaced_20 ?_
    refine lv_iconst (v := (1 : Int32)) hx hb d_Run_firstTwoFaced_23 (by decide) ?_
    refine q_iald (j := 1) hx hb hX hH (aa_Play_1 hZ isPlay_0) (vp_c (by decide)) (by decide) d_Run_firstTwoFaced_24 ?_
    refine lv_ishl hx hb d_Run_firstTwoFaced_25 ?_
    refine lv_goto (tgt := 30) hx hb d_Run_firstTwoFaced_26 (by decide) ?_
    exact J30 _ _ _ _ _ _ hf0 hH (lv_sub hl [1, 2, 0] rfl)
theorem c_Run_firstTwoFaced (l : Launch) {Z : WD} (hI : wI Z) (hZ : IsC Z) (k : Nat) (M : Mem) (x1 : Int32) (hk : isRun k) {r : Int32} (hf : f_Run_firstTwoFaced k M x1 = some r) : Ci l Z y_Run_firstTwoFaced b_Run_firstTwoFaced 7 (some .int) 3 64 [.ref (Z.2.2.1 k), .int x1] M M r := by
  refine Met.ofW (cc := b_Run_firstTwoFaced) (maxL := 7) (ret := (some .int)) (by decide) rfl ?_
  intro p e s m args below meth c s₁ B hml hv
  obtain ⟨rfl, hP, hX⟩ := hv
  have S : CallFix p m c b_Run_firstTwoFaced 7 s ([.ref (Z.2.2.1 k), .int x1] : List Value).toArray gtb R_Run := ⟨B.exec, B.bytes, hml, findClass_of_methodNamed B.named, fun w hw => atoms_spec (ws := .code y_Run_firstTwoFaced b_Run_firstTwoFaced 7 (some .int) :: gtb) B.pre w (List.mem_cons_of_mem _ hw)⟩
  have hl := lv_entry ([.ref (Z.2.2.1 k), .int x1]) (n := 7) (Nat.le_of_ble_eq_true rfl)
  rw [lg_entry_eq]
  exact wk_Run_firstTwoFaced hI hZ k M x1 hk S hX ⟨Nat.le_refl _, Nat.le_refl _⟩ (fun pc H locs ls hH d => q_ri S.1 S.2.1 B.returns B.notSynchronized hH rfl rfl d) hf ⟨hP, va_S.rf⟩ hl
noncomputable def f_Run_lettersOf_L4 (k : Nat) (M : Mem) (x1 : Int32) (x2 : Int32) (x3 : Int32) : Option ((Int32 × Int32) ⊕ Int32) := if (M k 4) ≤ x3 then some (.inr x2) else 
    gIn x3 212 (if (f_Route_roundOf (M (k + 2) x3.toNatClampNeg)) = x1 then some (.inl (x2 + (1 : Int32), x3 + (1 : Int32))) else some (.inl (x2, x3 + (1 : Int32))))
noncomputable def f_Run_lettersOf_W4 (k : Nat) (M : Mem) (x1 : Int32) (u : (Int32 × Int32)) : Option Int32 := loop (fun t => f_Run_lettersOf_L4 k M x1 t.1 t.2) u
noncomputable def f_Run_lettersOf_J4 (k : Nat) (M : Mem) (x1 : Int32) (x2 : Int32) (x3 : Int32) : Option (Int32) := bnd (f_Run_lettersOf_W4 k M x1 (x2, x3)) (fun e4 => some e4)
noncomputable def f_Run_lettersOf (k : Nat) (M : Mem) (x1 : Int32) : Option Int32 := f_Run_lettersOf_J4 k M x1 (0 : Int32) (0 : Int32)
set_option maxHeartbeats 4000000 in
theorem wk_Run_lettersOf {l : Launch} {Z : WD} (hI : wI Z) (hZ : IsC Z) (k : Nat) (M : Mem) (x1 : Int32) (hk : isRun k) {r : Int32} {p : Program} {e : Env} {R : Room} {s : State} {m : MethodId} {args : Array Value} {below : List Frame} {meth : Method} {c : Code} {H : Heap} {locs : List Loc} {ls : Array Slot} {Q : State → Prop} (S : CallFix p m c b_Run_lettersOf 4 s args gtb R_Run) (hX : wX Z s) (hR : 1 ≤ R.frames ∧ 20 ≤ R.locals) (hQ : ∀ (pc : Nat) (H : Heap) (locs : List Loc) (ls : Array Slot), HW Z M s H locs → decode b_Run_lettersOf pc = .ok (.ireturn, 1) → W p l e R s m args below meth c H locs 0 0 Q (F0 m pc ls [.int r])) (hf0 : f_Run_lettersOf k M x1 = some r) (hH : HW Z M s H locs) (hl : lv_has ls 4 [(0, .ref (Z.2.2.1 k)), (1, .int x1)]) : W p l e R s m args below meth c H locs 0 0 Q (F0 m 0 ls []) := by
  have hx := S.1
  have hb := S.2.1
  have hown := S.2.2.2.1
  have ht := S.2.2.2.2
  unfold f_Run_lettersOf at hf0
  have J4 : ∀ (x1 : Int32) (x2 : Int32) (x3 : Int32) (H : Heap) (locs : List Loc) (ls : Array Slot), f_Run_lettersOf_J4 k M x1 x2 x3 = some r → HW Z M s H locs → lv_has ls 4 [(0, .ref (Z.2.2.1 k)), (1, .int x1), (2, .int x2), (3, .int x3)] → W p l e R s m args below meth c H locs 0 0 Q (F0 m 4 ls []) := by
    intro x1 x2 x3 H locs ls hf0 hH hl
    unfold f_Run_lettersOf_J4 at hf0
    obtain ⟨e4, he4, hf0⟩ := o_b hf0
    unfold f_Run_lettersOf_W4 at he4
    refine loop_W (fun t => ∀ (H : Heap) (locs : List Loc) (ls : Array Slot), HW Z M s H locs → lv_has ls 4 [(0, .ref (Z.2.2.1 k)), (1, .int x1), (2, .int t.1), (3, .int t.2)] → W p l e R s m args below meth c H locs 0 0 Q (F0 m 4 ls [])) ?_ he4 H locs ls hH hl
    rintro ⟨x2, x3⟩ o1 hf1 hG1 hR1 H locs ls hH hl
    replace hH : HW Z M s H locs := hH
    replace hl : lv_has ls 4 [(0, .ref (Z.2.2.1 k)), (1, .int x1), (2, .int x2), (3, .int x3)] := hl
    replace hf1 : f_Run_lettersOf_L4 k M x1 x2 x3 = some o1 := hf1
    unfold f_Run_lettersOf_L4 at hf1
    refine lv_iload_n hx hb d_Run_lettersOf_4 rfl (lv_at hl 3 rfl) ?_
    refine lv_aload_n hx hb d_Run_lettersOf_5 rfl (lv_at hl 0 rfl) ?_
    refine g_Run_110 S hX hH hZ hk d_Run_lettersOf_6 ?_
    refine lv_icmp_ge (tgt := 34) hx hb d_Run_lettersOf_9 (by decide) (fun hc => ?_) (fun hc => ?_)
    · replace hf1 := o_t hc hf1
      refine lv_iload_n hx hb d_Run_lettersOf_34 rfl (lv_at hl 2 rfl) ?_
      obtain rfl := hR1 _ (o_v hf1).symm
      obtain rfl := o_v hf0
      exact hQ _ _ _ _ hH d_Run_lettersOf_35
    · replace hf1 := o_f hc hf1
      refine lv_aload_n hx hb d_Run_lettersOf_12 rfl (lv_at hl 0 rfl) ?_
      refine g_Run_17 S hX hH hZ hk d_Run_lettersOf_13 ?_
      refine lv_iload_n hx hb d_Run_lettersOf_16 rfl (lv_at hl 3 rfl) ?_
      obtain ⟨hn1, hf1⟩ := o_in hf1
      refine q_iald (j := x3.toNatClampNeg) hx hb hX hH (aa_Run_2 hZ hk) hn1 rfl d_Run_lettersOf_17 ?_
      refine q_cSi (As := [.int (M (k + 2) x3.toNatClampNeg)]) (rest := []) S hX hH (c_Route_roundOf l hI M (M (k + 2) x3.toNatClampNeg) rfl) (cw_Run_156 S.2.2.2.2 (Nat.le_trans (Nat.le_of_ble_eq_true rfl) hR.1) (Nat.le_trans (Nat.le_of_ble_eq_true rfl) hR.2)) rfl hl.1 rfl (Nat.le_of_ble_eq_true rfl) d_Run_lettersOf_18 ⟨Nat.zero_le _, Nat.zero_le _⟩ (fun H locs hH => ?_)
      refine lv_iload_n hx hb d_Run_lettersOf_21 rfl (lv_at hl 1 rfl) ?_
      refine lv_icmp_ne (tgt := 28) hx hb d_Run_lettersOf_22 (by decide) (fun hc => ?_) (fun hc => ?_)
      · replace hf1 := o_f hc hf1
        refine lv_iinc (v := x3 + (1 : Int32)) (lv' := [(3, .int (x3 + (1 : Int32))), (0, .ref (Z.2.2.1 k)), (1, .int x1), (2, .int x2)]) hx hb d_Run_lettersOf_28 hl (k := 3) rfl rfl (by decide) rfl (fun ls hl => ?_)
        refine lv_goto (tgt := 4) hx hb d_Run_lettersOf_31 (by decide) ?_
        exact hG1 _ (o_v hf1).symm _ _ _ hH (lv_sub hl [1, 2, 3, 0] rfl)
      · replace hf1 := o_t hc hf1
        refine lv_iinc (v := x2 + (1 : Int32)) (lv' := [(2, .int (x2 + (1 : Int32))), (0, .ref (Z.2.2.1 k)), (1, .int x1), (3, .int x3)]) hx hb d_Run_lettersOf_25 hl (k := 2) rfl rfl (by decide) rfl (fun ls hl => ?_)
        refine lv_iinc (v := x3 + (1 : Int32)) (lv' := [(3, .int (x3 + (1 : Int32))), (2, .int (x2 + (1 : Int32))), (0, .ref (Z.2.2.1 k)), (1, .int x1)]) hx hb d_Run_lettersOf_28 hl (k := 3) rfl rfl (by decide) rfl (fun ls hl => ?_)
        refine lv_goto (tgt := 4) hx hb d_Run_lettersOf_31 (by decide) ?_
        exact hG1 _ (o_v hf1).symm _ _ _ hH (lv_sub hl [2, 3, 1, 0] rfl)
  refine lv_iconst (v := (0 : Int32)) hx hb d_Run_lettersOf_0 (by decide) ?_
  refine lv_istore_n (lv' := [(2, .int (0 : Int32)), (0, .ref (Z.2.2.1 k)), (1, .int x1)]) hx hb d_Run_lettersOf_1 rfl hl (by decide) rfl (fun ls hl => ?_)
  refine lv_iconst (v := (0 : Int32)) hx hb d_Run_lettersOf_2 (by decide) ?_
  refine lv_istore_n (lv' := [(3, .int (0 : Int32)), (2, .int (0 : Int32)), (0, .ref (Z.2.2.1 k)), (1, .int x1)]) hx hb d_Run_lettersOf_3 rfl hl (by decide) rfl (fun ls hl => ?_)
  exact J4 _ _ _ _ _ _ hf0 hH (lv_sub hl [2, 3, 1, 0] rfl)
theorem c_Run_lettersOf (l : Launch) {Z : WD} (hI : wI Z) (hZ : IsC Z) (k : Nat) (M : Mem) (x1 : Int32) (hk : isRun k) {r : Int32} (hf : f_Run_lettersOf k M x1 = some r) : Ci l Z y_Run_lettersOf b_Run_lettersOf 4 (some .int) 1 20 [.ref (Z.2.2.1 k), .int x1] M M r := by
  refine Met.ofW (cc := b_Run_lettersOf) (maxL := 4) (ret := (some .int)) (by decide) rfl ?_
  intro p e s m args below meth c s₁ B hml hv
  obtain ⟨rfl, hP, hX⟩ := hv
  have S : CallFix p m c b_Run_lettersOf 4 s ([.ref (Z.2.2.1 k), .int x1] : List Value).toArray gtb R_Run := ⟨B.exec, B.bytes, hml, findClass_of_methodNamed B.named, fun w hw => atoms_spec (ws := .code y_Run_lettersOf b_Run_lettersOf 4 (some .int) :: gtb) B.pre w (List.mem_cons_of_mem _ hw)⟩
  have hl := lv_entry ([.ref (Z.2.2.1 k), .int x1]) (n := 4) (Nat.le_of_ble_eq_true rfl)
  rw [lg_entry_eq]
  exact wk_Run_lettersOf hI hZ k M x1 hk S hX ⟨Nat.le_refl _, Nat.le_refl _⟩ (fun pc H locs ls hH d => q_ri S.1 S.2.1 B.returns B.notSynchronized hH rfl rfl d) hf ⟨hP, va_S.rf⟩ hl
noncomputable def f_Run_bitsOfLetter (k : Nat) (M : Mem) (x1 : Int32) : Option Int32 := gIn x1 212 (some ((5 : Int32) + ((3 : Int32) * (f_Chain_size (M (k + 4) x1.toNatClampNeg)))))
set_option maxHeartbeats 4000000 in
theorem wk_Run_bitsOfLetter {l : Launch} {Z : WD} (hI : wI Z) (hZ : IsC Z) (k : Nat) (M : Mem) (x1 : Int32) (hk : isRun k) {r : Int32} {p : Program} {e : Env} {R : Room} {s : State} {m : MethodId} {args : Array Value} {below : List Frame} {meth : Method} {c : Code} {H : Heap} {locs : List Loc} {ls : Array Slot} {Q : State → Prop} (S : CallFix p m c b_Run_bitsOfLetter 2 s args gtb R_Run) (hX : wX Z s) (hR : 1 ≤ R.frames ∧ 20 ≤ R.locals) (hQ : ∀ (pc : Nat) (H : Heap) (locs : List Loc) (ls : Array Slot), HW Z M s H locs → decode b_Run_bitsOfLetter pc = .ok (.ireturn, 1) → W p l e R s m args below meth c H locs 0 0 Q (F0 m pc ls [.int r])) (hf0 : f_Run_bitsOfLetter k M x1 = some r) (hH : HW Z M s H locs) (hl : lv_has ls 2 [(0, .ref (Z.2.2.1 k)), (1, .int x1)]) : W p l e R s m args below meth c H locs 0 0 Q (F0 m 0 ls []) := by
  have hx := S.1
  have hb := S.2.1
  have hown := S.2.2.2.1
  have ht := S.2.2.2.2
  unfold f_Run_bitsOfLetter at hf0
  refine lv_iconst (v := (5 : Int32)) hx hb d_Run_bitsOfLetter_0 (by decide) ?_
  refine lv_iconst (v := (3 : Int32)) hx hb d_Run_bitsOfLetter_1 (by decide) ?_
  refine lv_aload_n hx hb d_Run_bitsOfLetter_2 rfl (lv_at hl 0 rfl) ?_
  refine g_Run_23 S hX hH hZ hk d_Run_bitsOfLetter_3 ?_
  refine lv_iload_n hx hb d_Run_bitsOfLetter_6 rfl (lv_at hl 1 rfl) ?_
  obtain ⟨hn1, hf0⟩ := o_in hf0
  refine q_iald (j := x1.toNatClampNeg) hx hb hX hH (aa_Run_4 hZ hk) hn1 rfl d_Run_bitsOfLetter_7 ?_
  refine q_cSi (As := [.int (M (k + 4) x1.toNatClampNeg)]) (rest := [.int (3 : Int32), .int (5 : Int32)]) S hX hH (c_Chain_size l hI M (M (k + 4) x1.toNatClampNeg) rfl) (cw_Run_172 S.2.2.2.2 (Nat.le_trans (Nat.le_of_ble_eq_true rfl) hR.1) (Nat.le_trans (Nat.le_of_ble_eq_true rfl) hR.2)) rfl hl.1 rfl (Nat.le_of_ble_eq_true rfl) d_Run_bitsOfLetter_8 ⟨Nat.zero_le _, Nat.zero_le _⟩ (fun H locs hH => ?_)
  refine lv_imul hx hb d_Run_bitsOfLetter_11 ?_
  refine lv_iadd hx hb d_Run_bitsOfLetter_12 ?_
  obtain rfl := o_v hf0
  exact hQ _ _ _ _ hH d_Run_bitsOfLetter_13
theorem c_Run_bitsOfLetter (l : Launch) {Z : WD} (hI : wI Z) (hZ : IsC Z) (k : Nat) (M : Mem) (x1 : Int32) (hk : isRun k) {r : Int32} (hf : f_Run_bitsOfLetter k M x1 = some r) : Ci l Z y_Run_bitsOfLetter b_Run_bitsOfLetter 2 (some .int) 1 20 [.ref (Z.2.2.1 k), .int x1] M M r := by
  refine Met.ofW (cc := b_Run_bitsOfLetter) (maxL := 2) (ret := (some .int)) (by decide) rfl ?_
  intro p e s m args below meth c s₁ B hml hv
  obtain ⟨rfl, hP, hX⟩ := hv
  have S : CallFix p m c b_Run_bitsOfLetter 2 s ([.ref (Z.2.2.1 k), .int x1] : List Value).toArray gtb R_Run := ⟨B.exec, B.bytes, hml, findClass_of_methodNamed B.named, fun w hw => atoms_spec (ws := .code y_Run_bitsOfLetter b_Run_bitsOfLetter 2 (some .int) :: gtb) B.pre w (List.mem_cons_of_mem _ hw)⟩
  have hl := lv_entry ([.ref (Z.2.2.1 k), .int x1]) (n := 2) (Nat.le_of_ble_eq_true rfl)
  rw [lg_entry_eq]
  exact wk_Run_bitsOfLetter hI hZ k M x1 hk S hX ⟨Nat.le_refl _, Nat.le_refl _⟩ (fun pc H locs ls hH d => q_ri S.1 S.2.1 B.returns B.notSynchronized hH rfl rfl d) hf ⟨hP, va_S.rf⟩ hl
theorem cw_Run_215 {R : Room} {s : State} {args : Array Value} (ht : ∀ w ∈ gtb, w.before args s = true) (h1 : 1 + 1 ≤ R.frames) (h2 : 8 + (2 + 11) + 20 ≤ R.locals) : CallW R s args R_Run R_Run 215 y_Run_bitsOfLetter b_Run_bitsOfLetter 2 (some .int) (.code y_Run_bitsOfLetter b_Run_bitsOfLetter 2 (some .int) :: gtb) { frames := 1, cells := 0, slots := 0, locals := 20 } 0 0 1 := cwV 1 ht (gV w4_56 w4_58 ws_Run_bitsOfLetter w1_4 w4_59) rfl rfl rfl ⟨rfl, by decide, by decide, by decide +kernel⟩ ⟨h1, h2⟩
noncomputable def f_Run_greatestBits_L4 (k : Nat) (M : Mem) (x1 : Int32) (x2 : Int32) : Option ((Int32 × Int32) ⊕ Int32) := if (M k 4) ≤ x2 then some (.inr x1) else bnd (f_Run_bitsOfLetter k M x2) (fun y2 => some (.inl (maI x1 y2, x2 + (1 : Int32))))
noncomputable def f_Run_greatestBits_W4 (k : Nat) (M : Mem) (u : (Int32 × Int32)) : Option Int32 := loop (fun t => f_Run_greatestBits_L4 k M t.1 t.2) u
noncomputable def f_Run_greatestBits_J4 (k : Nat) (M : Mem) (x1 : Int32) (x2 : Int32) : Option (Int32) := bnd (f_Run_greatestBits_W4 k M (x1, x2)) (fun e4 => some e4)
noncomputable def f_Run_greatestBits (k : Nat) (M : Mem) : Option Int32 := f_Run_greatestBits_J4 k M (0 : Int32) (0 : Int32)
set_option maxHeartbeats 4000000 in
theorem wk_Run_greatestBits {l : Launch} {Z : WD} (hI : wI Z) (hZ : IsC Z) (k : Nat) (M : Mem) (hk : isRun k) {r : Int32} {p : Program} {e : Env} {R : Room} {s : State} {m : MethodId} {args : Array Value} {below : List Frame} {meth : Method} {c : Code} {H : Heap} {locs : List Loc} {ls : Array Slot} {Q : State → Prop} (S : CallFix p m c b_Run_greatestBits 3 s args gtb R_Run) (hX : wX Z s) (hR : 2 ≤ R.frames ∧ 41 ≤ R.locals) (hQ : ∀ (pc : Nat) (H : Heap) (locs : List Loc) (ls : Array Slot), HW Z M s H locs → decode b_Run_greatestBits pc = .ok (.ireturn, 1) → W p l e R s m args below meth c H locs 0 0 Q (F0 m pc ls [.int r])) (hf0 : f_Run_greatestBits k M = some r) (hH : HW Z M s H locs) (hl : lv_has ls 3 [(0, .ref (Z.2.2.1 k))]) : W p l e R s m args below meth c H locs 0 0 Q (F0 m 0 ls []) := by
  have hx := S.1
  have hb := S.2.1
  have hown := S.2.2.2.1
  have ht := S.2.2.2.2
  unfold f_Run_greatestBits at hf0
  have J4 : ∀ (x1 : Int32) (x2 : Int32) (H : Heap) (locs : List Loc) (ls : Array Slot), f_Run_greatestBits_J4 k M x1 x2 = some r → HW Z M s H locs → lv_has ls 3 [(0, .ref (Z.2.2.1 k)), (1, .int x1), (2, .int x2)] → W p l e R s m args below meth c H locs 0 0 Q (F0 m 4 ls []) := by
    intro x1 x2 H locs ls hf0 hH hl
    unfold f_Run_greatestBits_J4 at hf0
    obtain ⟨e4, he4, hf0⟩ := o_b hf0
    unfold f_Run_greatestBits_W4 at he4
    refine loop_W (fun t => ∀ (H : Heap) (locs : List Loc) (ls : Array Slot), HW Z M s H locs → lv_has ls 3 [(0, .ref (Z.2.2.1 k)), (1, .int t.1), (2, .int t.2)] → W p l e R s m args below meth c H locs 0 0 Q (F0 m 4 ls [])) ?_ he4 H locs ls hH hl
    rintro ⟨x1, x2⟩ o1 hf1 hG1 hR1 H locs ls hH hl
    replace hH : HW Z M s H locs := hH
    replace hl : lv_has ls 3 [(0, .ref (Z.2.2.1 k)), (1, .int x1), (2, .int x2)] := hl
    replace hf1 : f_Run_greatestBits_L4 k M x1 x2 = some o1 := hf1
    unfold f_Run_greatestBits_L4 at hf1
    refine lv_iload_n hx hb d_Run_greatestBits_4 rfl (lv_at hl 2 rfl) ?_
    refine lv_aload_n hx hb d_Run_greatestBits_5 rfl (lv_at hl 0 rfl) ?_
    refine g_Run_110 S hX hH hZ hk d_Run_greatestBits_6 ?_
    refine lv_icmp_ge (tgt := 28) hx hb d_Run_greatestBits_9 (by decide) (fun hc => ?_) (fun hc => ?_)
    · replace hf1 := o_t hc hf1
      refine lv_iload_n hx hb d_Run_greatestBits_28 rfl (lv_at hl 1 rfl) ?_
      obtain rfl := hR1 _ (o_v hf1).symm
      obtain rfl := o_v hf0
      exact hQ _ _ _ _ hH d_Run_greatestBits_29
    · replace hf1 := o_f hc hf1
      refine lv_iload_n hx hb d_Run_greatestBits_12 rfl (lv_at hl 1 rfl) ?_
      refine lv_aload_n hx hb d_Run_greatestBits_13 rfl (lv_at hl 0 rfl) ?_
      refine lv_iload_n hx hb d_Run_greatestBits_14 rfl (lv_at hl 2 rfl) ?_
      obtain ⟨y2, hc1, hf1⟩ := o_b hf1
      refine q_cVi (As := [.int x2]) (rest := [.int x1]) S hX hH (c_Run_bitsOfLetter l hI hZ k M x2 hk hc1) (cw_Run_215 S.2.2.2.2 (Nat.le_trans (Nat.le_of_ble_eq_true rfl) hR.1) (Nat.le_trans (Nat.le_of_ble_eq_true rfl) hR.2)) (rc_Run hX hH hZ hk) rfl hl.1 rfl (Nat.le_of_ble_eq_true rfl) d_Run_greatestBits_15 ⟨Nat.zero_le _, Nat.zero_le _⟩ (fun H locs hH => ?_)
      refine q_max S hl.1 w4_60 w3_108 w1_9 w3_109 (Nat.le_trans (Nat.le_of_ble_eq_true rfl) hR.1) (Nat.le_trans (Nat.le_of_ble_eq_true rfl) hR.2) d_Run_greatestBits_18 ?_
      refine lv_istore_n (lv' := [(1, .int (maI x1 y2)), (0, .ref (Z.2.2.1 k)), (2, .int x2)]) hx hb d_Run_greatestBits_21 rfl hl (by decide) rfl (fun ls hl => ?_)
      refine lv_iinc (v := x2 + (1 : Int32)) (lv' := [(2, .int (x2 + (1 : Int32))), (1, .int (maI x1 y2)), (0, .ref (Z.2.2.1 k))]) hx hb d_Run_greatestBits_22 hl (k := 2) rfl rfl (by decide) rfl (fun ls hl => ?_)
      refine lv_goto (tgt := 4) hx hb d_Run_greatestBits_25 (by decide) ?_
      exact hG1 _ (o_v hf1).symm _ _ _ hH (lv_sub hl [2, 1, 0] rfl)
  refine lv_iconst (v := (0 : Int32)) hx hb d_Run_greatestBits_0 (by decide) ?_
  refine lv_istore_n (lv' := [(1, .int (0 : Int32)), (0, .ref (Z.2.2.1 k))]) hx hb d_Run_greatestBits_1 rfl hl (by decide) rfl (fun ls hl => ?_)
  refine lv_iconst (v := (0 : Int32)) hx hb d_Run_greatestBits_2 (by decide) ?_
  refine lv_istore_n (lv' := [(2, .int (0 : Int32)), (1, .int (0 : Int32)), (0, .ref (Z.2.2.1 k))]) hx hb d_Run_greatestBits_3 rfl hl (by decide) rfl (fun ls hl => ?_)
  exact J4 _ _ _ _ _ hf0 hH (lv_sub hl [2, 1, 0] rfl)
theorem c_Run_greatestBits (l : Launch) {Z : WD} (hI : wI Z) (hZ : IsC Z) (k : Nat) (M : Mem) (hk : isRun k) {r : Int32} (hf : f_Run_greatestBits k M = some r) : Ci l Z y_Run_greatestBits b_Run_greatestBits 3 (some .int) 2 41 [.ref (Z.2.2.1 k)] M M r := by
  refine Met.ofW (cc := b_Run_greatestBits) (maxL := 3) (ret := (some .int)) (by decide) rfl ?_
  intro p e s m args below meth c s₁ B hml hv
  obtain ⟨rfl, hP, hX⟩ := hv
  have S : CallFix p m c b_Run_greatestBits 3 s ([.ref (Z.2.2.1 k)] : List Value).toArray gtb R_Run := ⟨B.exec, B.bytes, hml, findClass_of_methodNamed B.named, fun w hw => atoms_spec (ws := .code y_Run_greatestBits b_Run_greatestBits 3 (some .int) :: gtb) B.pre w (List.mem_cons_of_mem _ hw)⟩
  have hl := lv_entry ([.ref (Z.2.2.1 k)]) (n := 3) (Nat.le_of_ble_eq_true rfl)
  rw [lg_entry_eq]
  exact wk_Run_greatestBits hI hZ k M hk S hX ⟨Nat.le_refl _, Nat.le_refl _⟩ (fun pc H locs ls hH d => q_ri S.1 S.2.1 B.returns B.notSynchronized hH rfl rfl d) hf ⟨hP, va_S.rf⟩ hl
noncomputable def f_Run_bitsOf_L4 (k : Nat) (M : Mem) (x1 : Int32) (x2 : Int32) (x3 : Int32) : Option ((Int32 × Int32) ⊕ Int32) := if (M k 4) ≤ x3 then some (.inr x2) else 
    gIn x3 212 (if (f_Route_roundOf (M (k + 2) x3.toNatClampNeg)) = x1 then bnd (f_Run_bitsOfLetter k M x3) (fun y3 => some (.inl (x2 + y3, x3 + (1 : Int32)))) else some (.inl (x2, x3 + (1 : Int32))))
noncomputable def f_Run_bitsOf_W4 (k : Nat) (M : Mem) (x1 : Int32) (u : (Int32 × Int32)) : Option Int32 := loop (fun t => f_Run_bitsOf_L4 k M x1 t.1 t.2) u
noncomputable def f_Run_bitsOf_J4 (k : Nat) (M : Mem) (x1 : Int32) (x2 : Int32) (x3 : Int32) : Option (Int32) := bnd (f_Run_bitsOf_W4 k M x1 (x2, x3)) (fun e4 => some e4)
noncomputable def f_Run_bitsOf (k : Nat) (M : Mem) (x1 : Int32) : Option Int32 := f_Run_bitsOf_J4 k M x1 (0 : Int32) (0 : Int32)
set_option maxHeartbeats 4000000 in
theorem wk_Run_bitsOf {l : Launch} {Z : WD} (hI : wI Z) (hZ : IsC Z) (k : Nat) (M : Mem) (x1 : Int32) (hk : isRun k) {r : Int32} {p : Program} {e : Env} {R : Room} {s : State} {m : MethodId} {args : Array Value} {below : List Frame} {meth : Method} {c : Code} {H : Heap} {locs : List Loc} {ls : Array Slot} {Q : State → Prop} (S : CallFix p m c b_Run_bitsOf 4 s args gtb R_Run) (hX : wX Z s) (hR : 2 ≤ R.frames ∧ 41 ≤ R.locals) (hQ : ∀ (pc : Nat) (H : Heap) (locs : List Loc) (ls : Array Slot), HW Z M s H locs → decode b_Run_bitsOf pc = .ok (.ireturn, 1) → W p l e R s m args below meth c H locs 0 0 Q (F0 m pc ls [.int r])) (hf0 : f_Run_bitsOf k M x1 = some r) (hH : HW Z M s H locs) (hl : lv_has ls 4 [(0, .ref (Z.2.2.1 k)), (1, .int x1)]) : W p l e R s m args below meth c H locs 0 0 Q (F0 m 0 ls []) := by
  have hx := S.1
  have hb := S.2.1
  have hown := S.2.2.2.1
  have ht := S.2.2.2.2
  unfold f_Run_bitsOf at hf0
  have J4 : ∀ (x1 : Int32) (x2 : Int32) (x3 : Int32) (H : Heap) (locs : List Loc) (ls : Array Slot), f_Run_bitsOf_J4 k M x1 x2 x3 = some r → HW Z M s H locs → lv_has ls 4 [(0, .ref (Z.2.2.1 k)), (1, .int x1), (2, .int x2), (3, .int x3)] → W p l e R s m args below meth c H locs 0 0 Q (F0 m 4 ls []) := by
    intro x1 x2 x3 H locs ls hf0 hH hl
    unfold f_Run_bitsOf_J4 at hf0
    obtain ⟨e4, he4, hf0⟩ := o_b hf0
    unfold f_Run_bitsOf_W4 at he4
    refine loop_W (fun t => ∀ (H : Heap) (locs : List Loc) (ls : Array Slot), HW Z M s H locs → lv_has ls 4 [(0, .ref (Z.2.2.1 k)), (1, .int x1), (2, .int t.1), (3, .int t.2)] → W p l e R s m args below meth c H locs 0 0 Q (F0 m 4 ls [])) ?_ he4 H locs ls hH hl
    rintro ⟨x2, x3⟩ o1 hf1 hG1 hR1 H locs ls hH hl
    replace hH : HW Z M s H locs := hH
    replace hl : lv_has ls 4 [(0, .ref (Z.2.2.1 k)), (1, .int x1), (2, .int x2), (3, .int x3)] := hl
    replace hf1 : f_Run_bitsOf_L4 k M x1 x2 x3 = some o1 := hf1
    unfold f_Run_bitsOf_L4 at hf1
    refine lv_iload_n hx hb d_Run_bitsOf_4 rfl (lv_at hl 3 rfl) ?_
    refine lv_aload_n hx hb d_Run_bitsOf_5 rfl (lv_at hl 0 rfl) ?_
    refine g_Run_110 S hX hH hZ hk d_Run_bitsOf_6 ?_
    refine lv_icmp_ge (tgt := 39) hx hb d_Run_bitsOf_9 (by decide) (fun hc => ?_) (fun hc => ?_)
    · replace hf1 := o_t hc hf1
      refine lv_iload_n hx hb d_Run_bitsOf_39 rfl (lv_at hl 2 rfl) ?_
      obtain rfl := hR1 _ (o_v hf1).symm
      obtain rfl := o_v hf0
      exact hQ _ _ _ _ hH d_Run_bitsOf_40
    · replace hf1 := o_f hc hf1
      refine lv_aload_n hx hb d_Run_bitsOf_12 rfl (lv_at hl 0 rfl) ?_
      refine g_Run_17 S hX hH hZ hk d_Run_bitsOf_13 ?_
      refine lv_iload_n hx hb d_Run_bitsOf_16 rfl (lv_at hl 3 rfl) ?_
      obtain ⟨hn1, hf1⟩ := o_in hf1
      refine q_iald (j := x3.toNatClampNeg) hx hb hX hH (aa_Run_2 hZ hk) hn1 rfl d_Run_bitsOf_17 ?_
      refine q_cSi (As := [.int (M (k + 2) x3.toNatClampNeg)]) (rest := []) S hX hH (c_Route_roundOf l hI M (M (k + 2) x3.toNatClampNeg) rfl) (cw_Run_156 S.2.2.2.2 (Nat.le_trans (Nat.le_of_ble_eq_true rfl) hR.1) (Nat.le_trans (Nat.le_of_ble_eq_true rfl) hR.2)) rfl hl.1 rfl (Nat.le_of_ble_eq_true rfl) d_Run_bitsOf_18 ⟨Nat.zero_le _, Nat.zero_le _⟩ (fun H locs hH => ?_)
      refine lv_iload_n hx hb d_Run_bitsOf_21 rfl (lv_at hl 1 rfl) ?_
      refine lv_icmp_ne (tgt := 33) hx hb d_Run_bitsOf_22 (by decide) (fun hc => ?_) (fun hc => ?_)
      · replace hf1 := o_f hc hf1
        refine lv_iinc (v := x3 + (1 : Int32)) (lv' := [(3, .int (x3 + (1 : Int32))), (0, .ref (Z.2.2.1 k)), (1, .int x1), (2, .int x2)]) hx hb d_Run_bitsOf_33 hl (k := 3) rfl rfl (by decide) rfl (fun ls hl => ?_)
        refine lv_goto (tgt := 4) hx hb d_Run_bitsOf_36 (by decide) ?_
        exact hG1 _ (o_v hf1).symm _ _ _ hH (lv_sub hl [1, 2, 3, 0] rfl)
      · replace hf1 := o_t hc hf1
        refine lv_iload_n hx hb d_Run_bitsOf_25 rfl (lv_at hl 2 rfl) ?_
        refine lv_aload_n hx hb d_Run_bitsOf_26 rfl (lv_at hl 0 rfl) ?_
        refine lv_iload_n hx hb d_Run_bitsOf_27 rfl (lv_at hl 3 rfl) ?_
        obtain ⟨y3, hc2, hf1⟩ := o_b hf1
        refine q_cVi (As := [.int x3]) (rest := [.int x2]) S hX hH (c_Run_bitsOfLetter l hI hZ k M x3 hk hc2) (cw_Run_215 S.2.2.2.2 (Nat.le_trans (Nat.le_of_ble_eq_true rfl) hR.1) (Nat.le_trans (Nat.le_of_ble_eq_true rfl) hR.2)) (rc_Run hX hH hZ hk) rfl hl.1 rfl (Nat.le_of_ble_eq_true rfl) d_Run_bitsOf_28 ⟨Nat.zero_le _, Nat.zero_le _⟩ (fun H locs hH => ?_)
        refine lv_iadd hx hb d_Run_bitsOf_31 ?_
        refine lv_istore_n (lv' := [(2, .int (x2 + y3)), (0, .ref (Z.2.2.1 k)), (1, .int x1), (3, .int x3)]) hx hb d_Run_bitsOf_32 rfl hl (by decide) rfl (fun ls hl => ?_)
        refine lv_iinc (v := x3 + (1 : Int32)) (lv' := [(3, .int (x3 + (1 : Int32))), (2, .int (x2 + y3)), (0, .ref (Z.2.2.1 k)), (1, .int x1)]) hx hb d_Run_bitsOf_33 hl (k := 3) rfl rfl (by decide) rfl (fun ls hl => ?_)
        refine lv_goto (tgt := 4) hx hb d_Run_bitsOf_36 (by decide) ?_
        exact hG1 _ (o_v hf1).symm _ _ _ hH (lv_sub hl [2, 3, 1, 0] rfl)
  refine lv_iconst (v := (0 : Int32)) hx hb d_Run_bitsOf_0 (by decide) ?_
  refine lv_istore_n (lv' := [(2, .int (0 : Int32)), (0, .ref (Z.2.2.1 k)), (1, .int x1)]) hx hb d_Run_bitsOf_1 rfl hl (by decide) rfl (fun ls hl => ?_)
  refine lv_iconst (v := (0 : Int32)) hx hb d_Run_bitsOf_2 (by decide) ?_
  refine lv_istore_n (lv' := [(3, .int (0 : Int32)), (2, .int (0 : Int32)), (0, .ref (Z.2.2.1 k)), (1, .int x1)]) hx hb d_Run_bitsOf_3 rfl hl (by decide) rfl (fun ls hl => ?_)
  exact J4 _ _ _ _ _ _ hf0 hH (lv_sub hl [2, 3, 1, 0] rfl)
theorem c_Run_bitsOf (l : Launch) {Z : WD} (hI : wI Z) (hZ : IsC Z) (k : Nat) (M : Mem) (x1 : Int32) (hk : isRun k) {r : Int32} (hf : f_Run_bitsOf k M x1 = some r) : Ci l Z y_Run_bitsOf b_Run_bitsOf 4 (some .int) 2 41 [.ref (Z.2.2.1 k), .int x1] M M r := by
  refine Met.ofW (cc := b_Run_bitsOf) (maxL := 4) (ret := (some .int)) (by decide) rfl ?_
  intro p e s m args below meth c s₁ B hml hv
  obtain ⟨rfl, hP, hX⟩ := hv
  have S : CallFix p m c b_Run_bitsOf 4 s ([.ref (Z.2.2.1 k), .int x1] : List Value).toArray gtb R_Run := ⟨B.exec, B.bytes, hml, findClass_of_methodNamed B.named, fun w hw => atoms_spec (ws := .code y_Run_bitsOf b_Run_bitsOf 4 (some .int) :: gtb) B.pre w (List.mem_cons_of_mem _ hw)⟩
  have hl := lv_entry ([.ref (Z.2.2.1 k), .int x1]) (n := 4) (Nat.le_of_ble_eq_true rfl)
  rw [lg_entry_eq]
  exact wk_Run_bitsOf hI hZ k M x1 hk S hX ⟨Nat.le_refl _, Nat.le_refl _⟩ (fun pc H locs ls hH d => q_ri S.1 S.2.1 B.returns B.notSynchronized hH rfl rfl d) hf ⟨hP, va_S.rf⟩ hl
noncomputable def f_Run_loadOf_L5 (k : Nat) (M : Mem) (x1 : Int32) (x2 : Int32) (x3 : Int32) (x4 : Int32) : Option ((Int32 × Int32) ⊕ Int32) := if (M k 4) ≤ x4 then some (.inr x3) else 
    gIn x4 212 (if (f_Route_fromOf (M (k + 2) x4.toNatClampNeg)) = x1 then 
    if (f_Route_toOf (M (k + 2) x4.toNatClampNeg)) = x2 then some (.inl (x3 + (1 : Int32), x4 + (1 : Int32))) else some (.inl (x3, x4 + (1 : Int32))) else some (.inl (x3, x4 + (1 : Int32))))
noncomputable def f_Run_loadOf_W5 (k : Nat) (M : Mem) (x1 : Int32) (x2 : Int32) (u : (Int32 × Int32)) : Option Int32 := loop (fun t => f_Run_loadOf_L5 k M x1 x2 t.1 t.2) u
noncomputable def f_Run_loadOf_J5 (k : Nat) (M : Mem) (x1 : Int32) (x2 : Int32) (x3 : Int32) (x4 : Int32) : Option (Int32) := bnd (f_Run_loadOf_W5 k M x1 x2 (x3, x4)) (fun e5 => some e5)
noncomputable def f_Run_loadOf (k : Nat) (M : Mem) (x1 : Int32) (x2 : Int32) : Option Int32 := f_Run_loadOf_J5 k M x1 x2 (0 : Int32) (0 : Int32)
set_option maxHeartbeats 4000000 in
theorem wk_Run_loadOf {l : Launch} {Z : WD} (hI : wI Z) (hZ : IsC Z) (k : Nat) (M : Mem) (x1 : Int32) (x2 : Int32) (hk : isRun k) {r : Int32} {p : Program} {e : Env} {R : Room} {s : State} {m : MethodId} {args : Array Value} {below : List Frame} {meth : Method} {c : Code} {H : Heap} {locs : List Loc} {ls : Array Slot} {Q : State → Prop} (S : CallFix p m c b_Run_loadOf 5 s args gtb R_Run) (hX : wX Z s) (hR : 1 ≤ R.frames ∧ 20 ≤ R.locals) (hQ : ∀ (pc : Nat) (H : Heap) (locs : List Loc) (ls : Array Slot), HW Z M s H locs → decode b_Run_loadOf pc = .ok (.ireturn, 1) → W p l e R s m args below meth c H locs 0 0 Q (F0 m pc ls [.int r])) (hf0 : f_Run_loadOf k M x1 x2 = some r) (hH : HW Z M s H locs) (hl : lv_has ls 5 [(0, .ref (Z.2.2.1 k)), (1, .int x1), (2, .int x2)]) : W p l e R s m args below meth c H locs 0 0 Q (F0 m 0 ls []) := by
  have hx := S.1
  have hb := S.2.1
  have hown := S.2.2.2.1
  have ht := S.2.2.2.2
  unfold f_Run_loadOf at hf0
  have J5 : ∀ (x1 : Int32) (x2 : Int32) (x3 : Int32) (x4 : Int32) (H : Heap) (locs : List Loc) (ls : Array Slot), f_Run_loadOf_J5 k M x1 x2 x3 x4 = some r → HW Z M s H locs → lv_has ls 5 [(0, .ref (Z.2.2.1 k)), (1, .int x1), (2, .int x2), (3, .int x3), (4, .int x4)] → W p l e R s m args below meth c H locs 0 0 Q (F0 m 5 ls []) := by
    intro x1 x2 x3 x4 H locs ls hf0 hH hl
    unfold f_Run_loadOf_J5 at hf0
    obtain ⟨e5, he5, hf0⟩ := o_b hf0
    unfold f_Run_loadOf_W5 at he5
    refine loop_W (fun t => ∀ (H : Heap) (locs : List Loc) (ls : Array Slot), HW Z M s H locs → lv_has ls 5 [(0, .ref (Z.2.2.1 k)), (1, .int x1), (2, .int x2), (3, .int t.1), (4, .int t.2)] → W p l e R s m args below meth c H locs 0 0 Q (F0 m 5 ls [])) ?_ he5 H locs ls hH hl
    rintro ⟨x3, x4⟩ o1 hf1 hG1 hR1 H locs ls hH hl
    replace hH : HW Z M s H locs := hH
    replace hl : lv_has ls 5 [(0, .ref (Z.2.2.1 k)), (1, .int x1), (2, .int x2), (3, .int x3), (4, .int x4)] := hl
    replace hf1 : f_Run_loadOf_L5 k M x1 x2 x3 x4 = some o1 := hf1
    unfold f_Run_loadOf_L5 at hf1
    refine lv_iload hx hb d_Run_loadOf_5 (lv_at hl 4 rfl) ?_
    refine lv_aload_n hx hb d_Run_loadOf_7 rfl (lv_at hl 0 rfl) ?_
    refine g_Run_110 S hX hH hZ hk d_Run_loadOf_8 ?_
    refine lv_icmp_ge (tgt := 51) hx hb d_Run_loadOf_11 (by decide) (fun hc => ?_) (fun hc => ?_)
    · replace hf1 := o_t hc hf1
      refine lv_iload_n hx hb d_Run_loadOf_51 rfl (lv_at hl 3 rfl) ?_
      obtain rfl := hR1 _ (o_v hf1).symm
      obtain rfl := o_v hf0
      exact hQ _ _ _ _ hH d_Run_loadOf_52
    · replace hf1 := o_f hc hf1
      refine lv_aload_n hx hb d_Run_loadOf_14 rfl (lv_at hl 0 rfl) ?_
      refine g_Run_17 S hX hH hZ hk d_Run_loadOf_15 ?_
      refine lv_iload hx hb d_Run_loadOf_18 (lv_at hl 4 rfl) ?_
      obtain ⟨hn1, hf1⟩ := o_in hf1
      refine q_iald (j := x4.toNatClampNeg) hx hb hX hH (aa_Run_2 hZ hk) hn1 rfl d_Run_loadOf_20 ?_
      refine q_cSi (As := [.int (M (k + 2) x4.toNatClampNeg)]) (rest := []) S hX hH (c_Route_fromOf l hI M (M (k + 2) x4.toNatClampNeg) rfl) (cw_Run_159 S.2.2.2.2 (Nat.le_trans (Nat.le_of_ble_eq_true rfl) hR.1) (Nat.le_trans (Nat.le_of_ble_eq_true rfl) hR.2)) rfl hl.1 rfl (Nat.le_of_ble_eq_true rfl) d_Run_loadOf_21 ⟨Nat.zero_le _, Nat.zero_le _⟩ (fun H locs hH => ?_)
      refine lv_iload_n hx hb d_Run_loadOf_24 rfl (lv_at hl 1 rfl) ?_
      refine lv_icmp_ne (tgt := 45) hx hb d_Run_loadOf_25 (by decide) (fun hc => ?_) (fun hc => ?_)
      · replace hf1 := o_f hc hf1
        refine lv_iinc (v := x4 + (1 : Int32)) (lv' := [(4, .int (x4 + (1 : Int32))), (0, .ref (Z.2.2.1 k)), (1, .int x1), (2, .int x2), (3, .int x3)]) hx hb d_Run_loadOf_45 hl (k := 4) rfl rfl (by decide) rfl (fun ls hl => ?_)
        refine lv_goto (tgt := 5) hx hb d_Run_loadOf_48 (by decide) ?_
        exact hG1 _ (o_v hf1).symm _ _ _ hH (lv_sub hl [1, 2, 3, 4, 0] rfl)
      · replace hf1 := o_t hc hf1
        refine lv_aload_n hx hb d_Run_loadOf_28 rfl (lv_at hl 0 rfl) ?_
        refine g_Run_17 S hX hH hZ hk d_Run_loadOf_29 ?_
        refine lv_iload hx hb d_Run_loadOf_32 (lv_at hl 4 rfl) ?_
        refine q_iald (j := x4.toNatClampNeg) hx hb hX hH (aa_Run_2 hZ hk) hn1 rfl d_Run_loadOf_34 ?_
        refine q_cSi (As := [.int (M (k + 2) x4.toNatClampNeg)]) (rest := []) S hX hH (c_Route_toOf l hI M (M (k + 2) x4.toNatClampNeg) rfl) (cw_Run_178 S.2.2.2.2 (Nat.le_trans (Nat.le_of_ble_eq_true rfl) hR.1) (Nat.le_trans (Nat.le_of_ble_eq_true rfl) hR.2)) rfl hl.1 rfl (Nat.le_of_ble_eq_true rfl) d_Run_loadOf_35 ⟨Nat.zero_le _, Nat.zero_le _⟩ (fun H locs hH => ?_)
        refine lv_iload_n hx hb d_Run_loadOf_38 rfl (lv_at hl 2 rfl) ?_
        refine lv_icmp_ne (tgt := 45) hx hb d_Run_loadOf_39 (by decide) (fun hc => ?_) (fun hc => ?_)
        · replace hf1 := o_f hc hf1
          refine lv_iinc (v := x4 + (1 : Int32)) (lv' := [(4, .int (x4 + (1 : Int32))), (0, .ref (Z.2.2.1 k)), (1, .int x1), (2, .int x2), (3, .int x3)]) hx hb d_Run_loadOf_45 hl (k := 4) rfl rfl (by decide) rfl (fun ls hl => ?_)
          refine lv_goto (tgt := 5) hx hb d_Run_loadOf_48 (by decide) ?_
          exact hG1 _ (o_v hf1).symm _ _ _ hH (lv_sub hl [1, 2, 3, 4, 0] rfl)
        · replace hf1 := o_t hc hf1
          refine lv_iinc (v := x3 + (1 : Int32)) (lv' := [(3, .int (x3 + (1 : Int32))), (0, .ref (Z.2.2.1 k)), (1, .int x1), (2, .int x2), (4, .int x4)]) hx hb d_Run_loadOf_42 hl (k := 3) rfl rfl (by decide) rfl (fun ls hl => ?_)
          refine lv_iinc (v := x4 + (1 : Int32)) (lv' := [(4, .int (x4 + (1 : Int32))), (3, .int (x3 + (1 : Int32))), (0, .ref (Z.2.2.1 k)), (1, .int x1), (2, .int x2)]) hx hb d_Run_loadOf_45 hl (k := 4) rfl rfl (by decide) rfl (fun ls hl => ?_)
          refine lv_goto (tgt := 5) hx hb d_Run_loadOf_48 (by decide) ?_
          exact hG1 _ (o_v hf1).symm _ _ _ hH (lv_sub hl [2, 3, 4, 1, 0] rfl)
  refine lv_iconst (v := (0 : Int32)) hx hb d_Run_loadOf_0 (by decide) ?_
  refine lv_istore_n (lv' := [(3, .int (0 : Int32)), (0, .ref (Z.2.2.1 k)), (1, .int x1), (2, .int x2)]) hx hb d_Run_loadOf_1 rfl hl (by decide) rfl (fun ls hl => ?_)
  refine lv_iconst (v := (0 : Int32)) hx hb d_Run_loadOf_2 (by decide) ?_
  refine lv_istore (lv' := [(4, .int (0 : Int32)), (3, .int (0 : Int32)), (0, .ref (Z.2.2.1 k)), (1, .int x1), (2, .int x2)]) hx hb d_Run_loadOf_3 hl (by decide) rfl (fun ls hl => ?_)
  exact J5 _ _ _ _ _ _ _ hf0 hH (lv_sub hl [2, 3, 4, 1, 0] rfl)
theorem c_Run_loadOf (l : Launch) {Z : WD} (hI : wI Z) (hZ : IsC Z) (k : Nat) (M : Mem) (x1 : Int32) (x2 : Int32) (hk : isRun k) {r : Int32} (hf : f_Run_loadOf k M x1 x2 = some r) : Ci l Z y_Run_loadOf b_Run_loadOf 5 (some .int) 1 20 [.ref (Z.2.2.1 k), .int x1, .int x2] M M r := by
  refine Met.ofW (cc := b_Run_loadOf) (maxL := 5) (ret := (some .int)) (by decide) rfl ?_
  intro p e s m args below meth c s₁ B hml hv
  obtain ⟨rfl, hP, hX⟩ := hv
  have S : CallFix p m c b_Run_loadOf 5 s ([.ref (Z.2.2.1 k), .int x1, .int x2] : List Value).toArray gtb R_Run := ⟨B.exec, B.bytes, hml, findClass_of_methodNamed B.named, fun w hw => atoms_spec (ws := .code y_Run_loadOf b_Run_loadOf 5 (some .int) :: gtb) B.pre w (List.mem_cons_of_mem _ hw)⟩
  have hl := lv_entry ([.ref (Z.2.2.1 k), .int x1, .int x2]) (n := 5) (Nat.le_of_ble_eq_true rfl)
  rw [lg_entry_eq]
  exact wk_Run_loadOf hI hZ k M x1 x2 hk S hX ⟨Nat.le_refl _, Nat.le_refl _⟩ (fun pc H locs ls hH d => q_ri S.1 S.2.1 B.returns B.notSynchronized hH rfl rfl d) hf ⟨hP, va_S.rf⟩ hl
theorem cw_Run_221 {R : Room} {s : State} {args : Array Value} (ht : ∀ w ∈ gtb, w.before args s = true) (h1 : 1 + 1 ≤ R.frames) (h2 : 8 + (5 + 11) + 20 ≤ R.locals) : CallW R s args R_Run R_Run 221 y_Run_loadOf b_Run_loadOf 5 (some .int) (.code y_Run_loadOf b_Run_loadOf 5 (some .int) :: gtb) { frames := 1, cells := 0, slots := 0, locals := 20 } 0 0 2 := cwV 2 ht (gV w4_73 w4_74 w4_75 w1_4 w4_76) rfl rfl rfl ⟨rfl, by decide, by decide, by decide +kernel⟩ ⟨h1, h2⟩
noncomputable def f_Run_greatestLoad_L17 (k : Nat) (M : Mem) (x2 : Int32) (x1 : Int32) (x3 : Int32) : Option ((Int32 × Int32) ⊕ Int32) := if (M 0 0) ≤ x3 then some (.inr x1) else bnd (f_Run_loadOf k M x2 x3) (fun y2 => some (.inl (maI x1 y2, x3 + (1 : Int32))))
noncomputable def f_Run_greatestLoad_W17 (k : Nat) (M : Mem) (x2 : Int32) (u : (Int32 × Int32)) : Option Int32 := loop (fun t => f_Run_greatestLoad_L17 k M x2 t.1 t.2) u
noncomputable def f_Run_greatestLoad_J17 (k : Nat) (M : Mem) (x1 : Int32) (x2 : Int32) (x3 : Int32) : Option ((Int32 × Int32) ⊕ Int32) := bnd (f_Run_greatestLoad_W17 k M x2 (x1, x3)) (fun e17 => some (.inl (e17, x2 + (1 : Int32))))
noncomputable def f_Run_greatestLoad_L4 (k : Nat) (M : Mem) (x1 : Int32) (x2 : Int32) : Option ((Int32 × Int32) ⊕ Int32) := if (M 0 0) ≤ x2 then some (.inr x1) else f_Run_greatestLoad_J17 k M x1 x2 (0 : Int32)
noncomputable def f_Run_greatestLoad_W4 (k : Nat) (M : Mem) (u : (Int32 × Int32)) : Option Int32 := loop (fun t => f_Run_greatestLoad_L4 k M t.1 t.2) u
noncomputable def f_Run_greatestLoad_J4 (k : Nat) (M : Mem) (x1 : Int32) (x2 : Int32) : Option (Int32) := bnd (f_Run_greatestLoad_W4 k M (x1, x2)) (fun e4 => some e4)
noncomputable def f_Run_greatestLoad (k : Nat) (M : Mem) : Option Int32 := f_Run_greatestLoad_J4 k M (0 : Int32) (0 : Int32)
set_option maxHeartbeats 4000000 in
theorem wk_Run_greatestLoad {l : Launch} {Z : WD} (hI : wI Z) (hZ : IsC Z) (k : Nat) (M : Mem) (hk : isRun k) {r : Int32} {p : Program} {e : Env} {R : Room} {s : State} {m : MethodId} {args : Array Value} {below : List Frame} {meth : Method} {c : Code} {H : Heap} {locs : List Loc} {ls : Array Slot} {Q : State → Prop} (S : CallFix p m c b_Run_greatestLoad 4 s args gtb R_Run) (hX : wX Z s) (hR : 2 ≤ R.frames ∧ 44 ≤ R.locals) (hQ : ∀ (pc : Nat) (H : Heap) (locs : List Loc) (ls : Array Slot), HW Z M s H locs → decode b_Run_greatestLoad pc = .ok (.ireturn, 1) → W p l e R s m args below meth c H locs 0 0 Q (F0 m pc ls [.int r])) (hf0 : f_Run_greatestLoad k M = some r) (hH : HW Z M s H locs) (hl : lv_has ls 4 [(0, .ref (Z.2.2.1 k))]) : W p l e R s m args below meth c H locs 0 0 Q (F0 m 0 ls []) := by
  have hx := S.1
  have hb := S.2.1
  have hown := S.2.2.2.1
  have ht := S.2.2.2.2
  unfold f_Run_greatestLoad at hf0
  have J4 : ∀ (x1 : Int32) (x2 : Int32) (H : Heap) (locs : List Loc) (ls : Array Slot), f_Run_greatestLoad_J4 k M x1 x2 = some r → HW Z M s H locs → lv_has ls 4 [(0, .ref (Z.2.2.1 k)), (1, .int x1), (2, .int x2)] → W p l e R s m args below meth c H locs 0 0 Q (F0 m 4 ls []) := by
    intro x1 x2 H locs ls hf0 hH hl
    unfold f_Run_greatestLoad_J4 at hf0
    obtain ⟨e4, he4, hf0⟩ := o_b hf0
    unfold f_Run_greatestLoad_W4 at he4
    refine loop_W (fun t => ∀ (H : Heap) (locs : List Loc) (ls : Array Slot), HW Z M s H locs → lv_has ls 4 [(0, .ref (Z.2.2.1 k)), (1, .int t.1), (2, .int t.2)] → W p l e R s m args below meth c H locs 0 0 Q (F0 m 4 ls [])) ?_ he4 H locs ls hH hl
    rintro ⟨x1, x2⟩ o1 hf1 hG1 hR1 H locs ls hH hl
    replace hH : HW Z M s H locs := hH
    replace hl : lv_has ls 4 [(0, .ref (Z.2.2.1 k)), (1, .int x1), (2, .int x2)] := hl
    replace hf1 : f_Run_greatestLoad_L4 k M x1 x2 = some o1 := hf1
    unfold f_Run_greatestLoad_L4 at hf1
    have J17 : ∀ (x1 : Int32) (x2 : Int32) (x3 : Int32) (H : Heap) (locs : List Loc) (ls : Array Slot), f_Run_greatestLoad_J17 k M x1 x2 x3 = some o1 → HW Z M s H locs → lv_has ls 4 [(0, .ref (Z.2.2.1 k)), (1, .int x1), (2, .int x2), (3, .int x3)] → W p l e R s m args below meth c H locs 0 0 Q (F0 m 17 ls []) := by
      intro x1 x2 x3 H locs ls hf1 hH hl
      unfold f_Run_greatestLoad_J17 at hf1
      obtain ⟨e17, he17, hf1⟩ := o_b hf1
      have KX17 : ∀ (H : Heap) (locs : List Loc) (ls : Array Slot), HW Z M s H locs → lv_has ls 4 [(0, .ref (Z.2.2.1 k)), (1, .int e17), (2, .int x2)] → W p l e R s m args below meth c H locs 0 0 Q (F0 m 45 ls []) := by
        intro H locs ls hH hl
        refine lv_iinc (v := x2 + (1 : Int32)) (lv' := [(2, .int (x2 + (1 : Int32))), (0, .ref (Z.2.2.1 k)), (1, .int e17)]) hx hb d_Run_greatestLoad_45 hl (k := 2) rfl rfl (by decide) rfl (fun ls hl => ?_)
        refine lv_goto (tgt := 4) hx hb d_Run_greatestLoad_48 (by decide) ?_
        exact hG1 _ (o_v hf1).symm _ _ _ hH (lv_sub hl [1, 2, 0] rfl)
      unfold f_Run_greatestLoad_W17 at he17
      refine loop_W (fun t => ∀ (H : Heap) (locs : List Loc) (ls : Array Slot), HW Z M s H locs → lv_has ls 4 [(0, .ref (Z.2.2.1 k)), (1, .int t.1), (2, .int x2), (3, .int t.2)] → W p l e R s m args below meth c H locs 0 0 Q (F0 m 17 ls [])) ?_ he17 H locs ls hH hl
      rintro ⟨x1, x3⟩ o2 hf2 hG2 hR2 H locs ls hH hl
      replace hH : HW Z M s H locs := hH
      replace hl : lv_has ls 4 [(0, .ref (Z.2.2.1 k)), (1, .int x1), (2, .int x2), (3, .int x3)] := hl
      replace hf2 : f_Run_greatestLoad_L17 k M x2 x1 x3 = some o2 := hf2
      unfold f_Run_greatestLoad_L17 at hf2
      refine lv_iload_n hx hb d_Run_greatestLoad_17 rfl (lv_at hl 3 rfl) ?_
      refine lv_aload_n hx hb d_Run_greatestLoad_18 rfl (lv_at hl 0 rfl) ?_
      refine g_Run_47 S hX hH hZ hk d_Run_greatestLoad_19 ?_
      refine g_Run_133 S hX hH hZ isPlay_0 d_Run_greatestLoad_22 ?_
      refine lv_icmp_ge (tgt := 45) hx hb d_Run_greatestLoad_25 (by decide) (fun hc => ?_) (fun hc => ?_)
      · replace hf2 := o_t hc hf2
        obtain rfl := hR2 _ (o_v hf2).symm
        exact KX17 _ _ _ hH (lv_sub hl [0, 1, 2] rfl)
      · replace hf2 := o_f hc hf2
        refine lv_iload_n hx hb d_Run_greatestLoad_28 rfl (lv_at hl 1 rfl) ?_
        refine lv_aload_n hx hb d_Run_greatestLoad_29 rfl (lv_at hl 0 rfl) ?_
        refine lv_iload_n hx hb d_Run_greatestLoad_30 rfl (lv_at hl 2 rfl) ?_
        refine lv_iload_n hx hb d_Run_greatestLoad_31 rfl (lv_at hl 3 rfl) ?_
        obtain ⟨y2, hc1, hf2⟩ := o_b hf2
        refine q_cVi (As := [.int x2, .int x3]) (rest := [.int x1]) S hX hH (c_Run_loadOf l hI hZ k M x2 x3 hk hc1) (cw_Run_221 S.2.2.2.2 (Nat.le_trans (Nat.le_of_ble_eq_true rfl) hR.1) (Nat.le_trans (Nat.le_of_ble_eq_true rfl) hR.2)) (rc_Run hX hH hZ hk) rfl hl.1 rfl (Nat.le_of_ble_eq_true rfl) d_Run_greatestLoad_32 ⟨Nat.zero_le _, Nat.zero_le _⟩ (fun H locs hH => ?_)
        refine q_max S hl.1 w4_60 w3_108 w1_9 w3_109 (Nat.le_trans (Nat.le_of_ble_eq_true rfl) hR.1) (Nat.le_trans (Nat.le_of_ble_eq_true rfl) hR.2) d_Run_greatestLoad_35 ?_
        refine lv_istore_n (lv' := [(1, .int (maI x1 y2)), (0, .ref (Z.2.2.1 k)), (2, .int x2), (3, .int x3)]) hx hb d_Run_greatestLoad_38 rfl hl (by decide) rfl (fun ls hl => ?_)
        refine lv_iinc (v := x3 + (1 : Int32)) (lv' := [(3, .int (x3 + (1 : Int32))), (1, .int (maI x1 y2)), (0, .ref (Z.2.2.1 k)), (2, .int x2)]) hx hb d_Run_greatestLoad_39 hl (k := 3) rfl rfl (by decide) rfl (fun ls hl => ?_)
        refine lv_goto (tgt := 17) hx hb d_Run_greatestLoad_42 (by decide) ?_
        exact hG2 _ (o_v hf2).symm _ _ _ hH (lv_sub hl [2, 1, 3, 0] rfl)
    refine lv_iload_n hx hb d_Run_greatestLoad_4 rfl (lv_at hl 2 rfl) ?_
    refine lv_aload_n hx hb d_Run_greatestLoad_5 rfl (lv_at hl 0 rfl) ?_
    refine g_Run_47 S hX hH hZ hk d_Run_greatestLoad_6 ?_
    refine g_Run_133 S hX hH hZ isPlay_0 d_Run_greatestLoad_9 ?_
    refine lv_icmp_ge (tgt := 51) hx hb d_Run_greatestLoad_12 (by decide) (fun hc => ?_) (fun hc => ?_)
    · replace hf1 := o_t hc hf1
      refine lv_iload_n hx hb d_Run_greatestLoad_51 rfl (lv_at hl 1 rfl) ?_
      obtain rfl := hR1 _ (o_v hf1).symm
      obtain rfl := o_v hf0
      exact hQ _ _ _ _ hH d_Run_greatestLoad_52
    · replace hf1 := o_f hc hf1
      refine lv_iconst (v := (0 : Int32)) hx hb d_Run_greatestLoad_15 (by decide) ?_
      refine lv_istore_n (lv' := [(3, .int (0 : Int32)), (0, .ref (Z.2.2.1 k)), (1, .int x1), (2, .int x2)]) hx hb d_Run_greatestLoad_16 rfl hl (by decide) rfl (fun ls hl => ?_)
      exact J17 _ _ _ _ _ _ hf1 hH (lv_sub hl [1, 2, 3, 0] rfl)
  refine lv_iconst (v := (0 : Int32)) hx hb d_Run_greatestLoad_0 (by decide) ?_
  refine lv_istore_n (lv' := [(1, .int (0 : Int32)), (0, .ref (Z.2.2.1 k))]) hx hb d_Run_greatestLoad_1 rfl hl (by decide) rfl (fun ls hl => ?_)
  refine lv_iconst (v := (0 : Int32)) hx hb d_Run_greatestLoad_2 (by decide) ?_
  refine lv_istore_n (lv' := [(2, .int (0 : Int32)), (1, .int (0 : Int32)), (0, .ref (Z.2.2.1 k))]) hx hb d_Run_greatestLoad_3 rfl hl (by decide) rfl (fun ls hl => ?_)
  exact J4 _ _ _ _ _ hf0 hH (lv_sub hl [2, 1, 0] rfl)
theorem c_Run_greatestLoad (l : Launch) {Z : WD} (hI : wI Z) (hZ : IsC Z) (k : Nat) (M : Mem) (hk : isRun k) {r : Int32} (hf : f_Run_greatestLoad k M = some r) : Ci l Z y_Run_greatestLoad b_Run_greatestLoad 4 (some .int) 2 44 [.ref (Z.2.2.1 k)] M M r := by
  refine Met.ofW (cc := b_Run_greatestLoad) (maxL := 4) (ret := (some .int)) (by decide) rfl ?_
  intro p e s m args below meth c s₁ B hml hv
  obtain ⟨rfl, hP, hX⟩ := hv
  have S : CallFix p m c b_Run_greatestLoad 4 s ([.ref (Z.2.2.1 k)] : List Value).toArray gtb R_Run := ⟨B.exec, B.bytes, hml, findClass_of_methodNamed B.named, fun w hw => atoms_spec (ws := .code y_Run_greatestLoad b_Run_greatestLoad 4 (some .int) :: gtb) B.pre w (List.mem_cons_of_mem _ hw)⟩
  have hl := lv_entry ([.ref (Z.2.2.1 k)]) (n := 4) (Nat.le_of_ble_eq_true rfl)
  rw [lg_entry_eq]
  exact wk_Run_greatestLoad hI hZ k M hk S hX ⟨Nat.le_refl _, Nat.le_refl _⟩ (fun pc H locs ls hH d => q_ri S.1 S.2.1 B.returns B.notSynchronized hH rfl rfl d) hf ⟨hP, va_S.rf⟩ hl
theorem cw_Run_198 {R : Room} {s : State} {args : Array Value} (ht : ∀ w ∈ gtb, w.before args s = true) (h1 : 2 + 1 ≤ R.frames) (h2 : 8 + (4 + 11) + 42 ≤ R.locals) : CallW R s args R_Run R_Run 198 y_Run_decisionOf b_Run_decisionOf 4 (some .int) (.code y_Run_decisionOf b_Run_decisionOf 4 (some .int) :: gtb) { frames := 2, cells := 0, slots := 0, locals := 42 } 0 0 1 := cwV 1 ht (gV w4_95 w3_202 w3_203 w1_4 w3_204) rfl rfl rfl ⟨rfl, by decide, by decide, by decide +kernel⟩ ⟨h1, h2⟩
noncomputable def f_Run_haveOneDecision_J43 (k : Nat) (M : Mem) (x1 : Int32) (x3 : Int32) (x4 : Int32) : Option ((Int32 × Int32) ⊕ Bool) := some (.inl (x4, x3 + (1 : Int32)))
noncomputable def f_Run_haveOneDecision_L4 (k : Nat) (M : Mem) (x1 : Int32) (x2 : Int32) (x3 : Int32) : Option ((Int32 × Int32) ⊕ Bool) := if (M 0 0) ≤ x3 then some (.inr true) else 
    if ((x1 >>> (x3 &&& 31)) &&& (1 : Int32)) = 0 then some (.inl (x2, x3 + (1 : Int32))) else 
    bnd (f_Run_decisionOf k M x3) (fun y2 => 
    if x2 = (-1 : Int32) then f_Run_haveOneDecision_J43 k M x1 x3 y2 else if x2 = y2 then f_Run_haveOneDecision_J43 k M x1 x3 y2 else some (.inr false))
noncomputable def f_Run_haveOneDecision_W4 (k : Nat) (M : Mem) (x1 : Int32) (u : (Int32 × Int32)) : Option Bool := loop (fun t => f_Run_haveOneDecision_L4 k M x1 t.1 t.2) u
noncomputable def f_Run_haveOneDecision_J4 (k : Nat) (M : Mem) (x1 : Int32) (x2 : Int32) (x3 : Int32) : Option (Bool) := bnd (f_Run_haveOneDecision_W4 k M x1 (x2, x3)) (fun e4 => some e4)
noncomputable def f_Run_haveOneDecision (k : Nat) (M : Mem) (x1 : Int32) : Option Bool := f_Run_haveOneDecision_J4 k M x1 (-1 : Int32) (0 : Int32)
set_option maxHeartbeats 4000000 in
theorem wk_Run_haveOneDecision {l : Launch} {Z : WD} (hI : wI Z) (hZ : IsC Z) (k : Nat) (M : Mem) (x1 : Int32) (hk : isRun k) {r : Bool} {p : Program} {e : Env} {R : Room} {s : State} {m : MethodId} {args : Array Value} {below : List Frame} {meth : Method} {c : Code} {H : Heap} {locs : List Loc} {ls : Array Slot} {Q : State → Prop} (S : CallFix p m c b_Run_haveOneDecision 5 s args gtb R_Run) (hX : wX Z s) (hR : 3 ≤ R.frames ∧ 65 ≤ R.locals) (hQ : ∀ (pc : Nat) (H : Heap) (locs : List Loc) (ls : Array Slot), HW Z M s H locs → decode b_Run_haveOneDecision pc = .ok (.ireturn, 1) → W p l e R s m args below meth c H locs 0 0 Q (F0 m pc ls [.int (bI r)])) (hf0 : f_Run_haveOneDecision k M x1 = some r) (hH : HW Z M s H locs) (hl : lv_has ls 5 [(0, .ref (Z.2.2.1 k)), (1, .int x1)]) : W p l e R s m args below meth c H locs 0 0 Q (F0 m 0 ls []) := by
  have hx := S.1
  have hb := S.2.1
  have hown := S.2.2.2.1
  have ht := S.2.2.2.2
  unfold f_Run_haveOneDecision at hf0
  have J4 : ∀ (x1 : Int32) (x2 : Int32) (x3 : Int32) (H : Heap) (locs : List Loc) (ls : Array Slot), f_Run_haveOneDecision_J4 k M x1 x2 x3 = some r → HW Z M s H locs → lv_has ls 5 [(0, .ref (Z.2.2.1 k)), (1, .int x1), (2, .int x2), (3, .int x3)] → W p l e R s m args below meth c H locs 0 0 Q (F0 m 4 ls []) := by
    intro x1 x2 x3 H locs ls hf0 hH hl
    unfold f_Run_haveOneDecision_J4 at hf0
    obtain ⟨e4, he4, hf0⟩ := o_b hf0
    unfold f_Run_haveOneDecision_W4 at he4
    refine loop_W (fun t => ∀ (H : Heap) (locs : List Loc) (ls : Array Slot), HW Z M s H locs → lv_has ls 5 [(0, .ref (Z.2.2.1 k)), (1, .int x1), (2, .int t.1), (3, .int t.2)] → W p l e R s m args below meth c H locs 0 0 Q (F0 m 4 ls [])) ?_ he4 H locs ls hH hl
    rintro ⟨x2, x3⟩ o1 hf1 hG1 hR1 H locs ls hH hl
    replace hH : HW Z M s H locs := hH
    replace hl : lv_has ls 5 [(0, .ref (Z.2.2.1 k)), (1, .int x1), (2, .int x2), (3, .int x3)] := hl
    replace hf1 : f_Run_haveOneDecision_L4 k M x1 x2 x3 = some o1 := hf1
    unfold f_Run_haveOneDecision_L4 at hf1
    have J43 : ∀ (x3 : Int32) (x4 : Int32) (H : Heap) (locs : List Loc) (ls : Array Slot), f_Run_haveOneDecision_J43 k M x1 x3 x4 = some o1 → HW Z M s H locs → lv_has ls 5 [(0, .ref (Z.2.2.1 k)), (1, .int x1), (3, .int x3), (4, .int x4)] → W p l e R s m args below meth c H locs 0 0 Q (F0 m 43 ls []) := by
      intro x3 x4 H locs ls hf1 hH hl
      unfold f_Run_haveOneDecision_J43 at hf1
      refine lv_iload hx hb d_Run_haveOneDecision_43 (lv_at hl 3 rfl) ?_
      refine lv_istore_n (lv' := [(2, .int x4), (0, .ref (Z.2.2.1 k)), (1, .int x1), (3, .int x3), (4, .int x4)]) hx hb d_Run_haveOneDecision_45 rfl hl (by decide) rfl (fun ls hl => ?_)
      refine lv_iinc (v := x3 + (1 : Int32)) (lv' := [(3, .int (x3 + (1 : Int32))), (2, .int x4), (0, .ref (Z.2.2.1 k)), (1, .int x1), (4, .int x4)]) hx hb d_Run_haveOneDecision_46 hl (k := 3) rfl rfl (by decide) rfl (fun ls hl => ?_)
      refine lv_goto (tgt := 4) hx hb d_Run_haveOneDecision_49 (by decide) ?_
      exact hG1 _ (o_v hf1).symm _ _ _ hH (lv_sub hl [2, 3, 1, 0] rfl)
    refine lv_iload_n hx hb d_Run_haveOneDecision_4 rfl (lv_at hl 3 rfl) ?_
    refine lv_aload_n hx hb d_Run_haveOneDecision_5 rfl (lv_at hl 0 rfl) ?_
    refine g_Run_47 S hX hH hZ hk d_Run_haveOneDecision_6 ?_
    refine g_Run_133 S hX hH hZ isPlay_0 d_Run_haveOneDecision_9 ?_
    refine lv_icmp_ge (tgt := 52) hx hb d_Run_haveOneDecision_12 (by decide) (fun hc => ?_) (fun hc => ?_)
    · replace hf1 := o_t hc hf1
      refine lv_iconst (v := (1 : Int32)) hx hb d_Run_haveOneDecision_52 (by decide) ?_
      obtain rfl := hR1 _ (o_v hf1).symm
      obtain rfl := o_v hf0
      exact hQ _ _ _ _ hH d_Run_haveOneDecision_53
    · replace hf1 := o_f hc hf1
      refine lv_iload_n hx hb d_Run_haveOneDecision_15 rfl (lv_at hl 1 rfl) ?_
      refine lv_iload_n hx hb d_Run_haveOneDecision_16 rfl (lv_at hl 3 rfl) ?_
      refine lv_ishr hx hb d_Run_haveOneDecision_17 ?_
      refine lv_iconst (v := (1 : Int32)) hx hb d_Run_haveOneDecision_18 (by decide) ?_
      refine lv_iand hx hb d_Run_haveOneDecision_19 ?_
      refine lv_if_eq (tgt := 46) hx hb d_Run_haveOneDecision_20 (by decide) (fun hc => ?_) (fun hc => ?_)
      · replace hf1 := o_t hc hf1
        refine lv_iinc (v := x3 + (1 : Int32)) (lv' := [(3, .int (x3 + (1 : Int32))), (0, .ref (Z.2.2.1 k)), (1, .int x1), (2, .int x2)]) hx hb d_Run_haveOneDecision_46 hl (k := 3) rfl rfl (by decide) rfl (fun ls hl => ?_)
        refine lv_goto (tgt := 4) hx hb d_Run_haveOneDecision_49 (by decide) ?_
        exact hG1 _ (o_v hf1).symm _ _ _ hH (lv_sub hl [1, 2, 3, 0] rfl)
      · replace hf1 := o_f hc hf1
        refine lv_aload_n hx hb d_Run_haveOneDecision_23 rfl (lv_at hl 0 rfl) ?_
        refine lv_iload_n hx hb d_Run_haveOneDecision_24 rfl (lv_at hl 3 rfl) ?_
        obtain ⟨y2, hc1, hf1⟩ := o_b hf1
        refine q_cVi (As := [.int x3]) (rest := []) S hX hH (c_Run_decisionOf l hI hZ k M x3 hk hc1) (cw_Run_198 S.2.2.2.2 (Nat.le_trans (Nat.le_of_ble_eq_true rfl) hR.1) (Nat.le_trans (Nat.le_of_ble_eq_true rfl) hR.2)) (rc_Run hX hH hZ hk) rfl hl.1 rfl (Nat.le_of_ble_eq_true rfl) d_Run_haveOneDecision_25 ⟨Nat.zero_le _, Nat.zero_le _⟩ (fun H locs hH => ?_)
        refine lv_istore (lv' := [(4, .int y2), (0, .ref (Z.2.2.1 k)), (1, .int x1), (2, .int x2), (3, .int x3)]) hx hb d_Run_haveOneDecision_28 hl (by decide) rfl (fun ls hl => ?_)
        refine lv_iload_n hx hb d_Run_haveOneDecision_30 rfl (lv_at hl 3 rfl) ?_
        refine lv_iconst (v := (-1 : Int32)) hx hb d_Run_haveOneDecision_31 (by decide) ?_
        refine lv_icmp_eq (tgt := 43) hx hb d_Run_haveOneDecision_32 (by decide) (fun hc => ?_) (fun hc => ?_)
        · replace hf1 := o_t hc hf1
          exact J43 _ _ _ _ _ hf1 hH (lv_sub hl [1, 2, 4, 0] rfl)
        · replace hf1 := o_f hc hf1
          refine lv_iload_n hx hb d_Run_haveOneDecision_35 rfl (lv_at hl 3 rfl) ?_
          refine lv_iload hx hb d_Run_haveOneDecision_36 (lv_at hl 0 rfl) ?_
          refine lv_icmp_eq (tgt := 43) hx hb d_Run_haveOneDecision_38 (by decide) (fun hc => ?_) (fun hc => ?_)
          · replace hf1 := o_t hc hf1
            exact J43 _ _ _ _ _ hf1 hH (lv_sub hl [1, 2, 4, 0] rfl)
          · replace hf1 := o_f hc hf1
            refine lv_iconst (v := (0 : Int32)) hx hb d_Run_haveOneDecision_41 (by decide) ?_
            obtain rfl := hR1 _ (o_v hf1).symm
            obtain rfl := o_v hf0
            exact hQ _ _ _ _ hH d_Run_haveOneDecision_42
  refine lv_iconst (v := (-1 : Int32)) hx hb d_Run_haveOneDecision_0 (by decide) ?_
  refine lv_istore_n (lv' := [(2, .int (-1 : Int32)), (0, .ref (Z.2.2.1 k)), (1, .int x1)]) hx hb d_Run_haveOneDecision_1 rfl hl (by decide) rfl (fun ls hl => ?_)
  refine lv_iconst (v := (0 : Int32)) hx hb d_Run_haveOneDecision_2 (by decide) ?_
  refine lv_istore_n (lv' := [(3, .int (0 : Int32)), (2, .int (-1 : Int32)), (0, .ref (Z.2.2.1 k)), (1, .int x1)]) hx hb d_Run_haveOneDecision_3 rfl hl (by decide) rfl (fun ls hl => ?_)
  exact J4 _ _ _ _ _ _ hf0 hH (lv_sub hl [2, 3, 1, 0] rfl)
theorem c_Run_haveOneDecision (l : Launch) {Z : WD} (hI : wI Z) (hZ : IsC Z) (k : Nat) (M : Mem) (x1 : Int32) (hk : isRun k) {r : Bool} (hf : f_Run_haveOneDecision k M x1 = some r) : Ci l Z y_Run_haveOneDecision b_Run_haveOneDecision 5 (some .boolean) 3 65 [.ref (Z.2.2.1 k), .int x1] M M (bI r) := by
  refine Met.ofW (cc := b_Run_haveOneDecision) (maxL := 5) (ret := (some .boolean)) (by decide) rfl ?_
  intro p e s m args below meth c s₁ B hml hv
  obtain ⟨rfl, hP, hX⟩ := hv
  have S : CallFix p m c b_Run_haveOneDecision 5 s ([.ref (Z.2.2.1 k), .int x1] : List Value).toArray gtb R_Run := ⟨B.exec, B.bytes, hml, findClass_of_methodNamed B.named, fun w hw => atoms_spec (ws := .code y_Run_haveOneDecision b_Run_haveOneDecision 5 (some .boolean) :: gtb) B.pre w (List.mem_cons_of_mem _ hw)⟩
  have hl := lv_entry ([.ref (Z.2.2.1 k), .int x1]) (n := 5) (Nat.le_of_ble_eq_true rfl)
  rw [lg_entry_eq]
  exact wk_Run_haveOneDecision hI hZ k M x1 hk S hX ⟨Nat.le_refl _, Nat.le_refl _⟩ (fun pc H locs ls hH d => q_rz S.1 S.2.1 B.returns B.notSynchronized hH rfl rfl d) hf ⟨hP, va_S.rf⟩ hl
noncomputable def f_Run_someSetChanges_L2 (k : Nat) (M : Mem) (x1 : Int32) (x2 : Int32) : Option (Int32 ⊕ Bool) := if (M 0 0) ≤ x2 then some (.inr false) else 
    bnd (f_Run_setOf k M x2 x1) (fun y2 => 
    bnd (f_Run_setOf k M x2 (x1 - (1 : Int32))) (fun y4 => if y2 = y4 then some (.inl (x2 + (1 : Int32))) else some (.inr true)))
noncomputable def f_Run_someSetChanges_W2 (k : Nat) (M : Mem) (x1 : Int32) (u : Int32) : Option Bool := loop (fun t => f_Run_someSetChanges_L2 k M x1 t) u
noncomputable def f_Run_someSetChanges_J2 (k : Nat) (M : Mem) (x1 : Int32) (x2 : Int32) : Option (Bool) := bnd (f_Run_someSetChanges_W2 k M x1 x2) (fun e2 => some e2)
noncomputable def f_Run_someSetChanges (k : Nat) (M : Mem) (x1 : Int32) : Option Bool := f_Run_someSetChanges_J2 k M x1 (0 : Int32)
set_option maxHeartbeats 4000000 in
theorem wk_Run_someSetChanges {l : Launch} {Z : WD} (hI : wI Z) (hZ : IsC Z) (k : Nat) (M : Mem) (x1 : Int32) (hk : isRun k) {r : Bool} {p : Program} {e : Env} {R : Room} {s : State} {m : MethodId} {args : Array Value} {below : List Frame} {meth : Method} {c : Code} {H : Heap} {locs : List Loc} {ls : Array Slot} {Q : State → Prop} (S : CallFix p m c b_Run_someSetChanges 3 s args gtb R_Run) (hX : wX Z s) (hR : 2 ≤ R.frames ∧ 42 ≤ R.locals) (hQ : ∀ (pc : Nat) (H : Heap) (locs : List Loc) (ls : Array Slot), HW Z M s H locs → decode b_Run_someSetChanges pc = .ok (.ireturn, 1) → W p l e R s m args below meth c H locs 0 0 Q (F0 m pc ls [.int (bI r)])) (hf0 : f_Run_someSetChanges k M x1 = some r) (hH : HW Z M s H locs) (hl : lv_has ls 3 [(0, .ref (Z.2.2.1 k)), (1, .int x1)]) : W p l e R s m args below meth c H locs 0 0 Q (F0 m 0 ls []) := by
  have hx := S.1
  have hb := S.2.1
  have hown := S.2.2.2.1
  have ht := S.2.2.2.2
  unfold f_Run_someSetChanges at hf0
  have J2 : ∀ (x1 : Int32) (x2 : Int32) (H : Heap) (locs : List Loc) (ls : Array Slot), f_Run_someSetChanges_J2 k M x1 x2 = some r → HW Z M s H locs → lv_has ls 3 [(0, .ref (Z.2.2.1 k)), (1, .int x1), (2, .int x2)] → W p l e R s m args below meth c H locs 0 0 Q (F0 m 2 ls []) := by
    intro x1 x2 H locs ls hf0 hH hl
    unfold f_Run_someSetChanges_J2 at hf0
    obtain ⟨e2, he2, hf0⟩ := o_b hf0
    unfold f_Run_someSetChanges_W2 at he2
    refine loop_W (fun t => ∀ (H : Heap) (locs : List Loc) (ls : Array Slot), HW Z M s H locs → lv_has ls 3 [(0, .ref (Z.2.2.1 k)), (1, .int x1), (2, .int t)] → W p l e R s m args below meth c H locs 0 0 Q (F0 m 2 ls [])) ?_ he2 H locs ls hH hl
    rintro x2 o1 hf1 hG1 hR1 H locs ls hH hl
    replace hH : HW Z M s H locs := hH
    replace hl : lv_has ls 3 [(0, .ref (Z.2.2.1 k)), (1, .int x1), (2, .int x2)] := hl
    replace hf1 : f_Run_someSetChanges_L2 k M x1 x2 = some o1 := hf1
    unfold f_Run_someSetChanges_L2 at hf1
    refine lv_iload_n hx hb d_Run_someSetChanges_2 rfl (lv_at hl 2 rfl) ?_
    refine lv_aload_n hx hb d_Run_someSetChanges_3 rfl (lv_at hl 0 rfl) ?_
    refine g_Run_47 S hX hH hZ hk d_Run_someSetChanges_4 ?_
    refine g_Run_133 S hX hH hZ isPlay_0 d_Run_someSetChanges_7 ?_
    refine lv_icmp_ge (tgt := 38) hx hb d_Run_someSetChanges_10 (by decide) (fun hc => ?_) (fun hc => ?_)
    · replace hf1 := o_t hc hf1
      refine lv_iconst (v := (0 : Int32)) hx hb d_Run_someSetChanges_38 (by decide) ?_
      obtain rfl := hR1 _ (o_v hf1).symm
      obtain rfl := o_v hf0
      exact hQ _ _ _ _ hH d_Run_someSetChanges_39
    · replace hf1 := o_f hc hf1
      refine lv_aload_n hx hb d_Run_someSetChanges_13 rfl (lv_at hl 0 rfl) ?_
      refine lv_iload_n hx hb d_Run_someSetChanges_14 rfl (lv_at hl 2 rfl) ?_
      refine lv_iload_n hx hb d_Run_someSetChanges_15 rfl (lv_at hl 1 rfl) ?_
      obtain ⟨y2, hc1, hf1⟩ := o_b hf1
      refine q_cVi (As := [.int x2, .int x1]) (rest := []) S hX hH (c_Run_setOf l hI hZ k M x2 x1 hk hc1) (cw_Run_195 S.2.2.2.2 (Nat.le_trans (Nat.le_of_ble_eq_true rfl) hR.1) (Nat.le_trans (Nat.le_of_ble_eq_true rfl) hR.2)) (rc_Run hX hH hZ hk) rfl hl.1 rfl (Nat.le_of_ble_eq_true rfl) d_Run_someSetChanges_16 ⟨Nat.zero_le _, Nat.zero_le _⟩ (fun H locs hH => ?_)
      refine lv_aload_n hx hb d_Run_someSetChanges_19 rfl (lv_at hl 0 rfl) ?_
      refine lv_iload_n hx hb d_Run_someSetChanges_20 rfl (lv_at hl 2 rfl) ?_
      refine lv_iload_n hx hb d_Run_someSetChanges_21 rfl (lv_at hl 1 rfl) ?_
      refine lv_iconst (v := (1 : Int32)) hx hb d_Run_someSetChanges_22 (by decide) ?_
      refine lv_isub hx hb d_Run_someSetChanges_23 ?_
      obtain ⟨y4, hc3, hf1⟩ := o_b hf1
      refine q_cVi (As := [.int x2, .int (x1 - (1 : Int32))]) (rest := [.int y2]) S hX hH (c_Run_setOf l hI hZ k M x2 (x1 - (1 : Int32)) hk hc3) (cw_Run_195 S.2.2.2.2 (Nat.le_trans (Nat.le_of_ble_eq_true rfl) hR.1) (Nat.le_trans (Nat.le_of_ble_eq_true rfl) hR.2)) (rc_Run hX hH hZ hk) rfl hl.1 rfl (Nat.le_of_ble_eq_true rfl) d_Run_someSetChanges_24 ⟨Nat.zero_le _, Nat.zero_le _⟩ (fun H locs hH => ?_)
      refine lv_icmp_eq (tgt := 32) hx hb d_Run_someSetChanges_27 (by decide) (fun hc => ?_) (fun hc => ?_)
      · replace hf1 := o_t hc hf1
        refine lv_iinc (v := x2 + (1 : Int32)) (lv' := [(2, .int (x2 + (1 : Int32))), (0, .ref (Z.2.2.1 k)), (1, .int x1)]) hx hb d_Run_someSetChanges_32 hl (k := 2) rfl rfl (by decide) rfl (fun ls hl => ?_)
        refine lv_goto (tgt := 2) hx hb d_Run_someSetChanges_35 (by decide) ?_
        exact hG1 _ (o_v hf1).symm _ _ _ hH (lv_sub hl [1, 2, 0] rfl)
      · replace hf1 := o_f hc hf1
        refine lv_iconst (v := (1 : Int32)) hx hb d_Run_someSetChanges_30 (by decide) ?_
        obtain rfl := hR1 _ (o_v hf1).symm
        obtain rfl := o_v hf0
        exact hQ _ _ _ _ hH d_Run_someSetChanges_31
  refine lv_iconst (v := (0 : Int32)) hx hb d_Run_someSetChanges_0 (by decide) ?_
  refine lv_istore_n (lv' := [(2, .int (0 : Int32)), (0, .ref (Z.2.2.1 k)), (1, .int x1)]) hx hb d_Run_someSetChanges_1 rfl hl (by decide) rfl (fun ls hl => ?_)
  exact J2 _ _ _ _ _ hf0 hH (lv_sub hl [1, 2, 0] rfl)
theorem c_Run_someSetChanges (l : Launch) {Z : WD} (hI : wI Z) (hZ : IsC Z) (k : Nat) (M : Mem) (x1 : Int32) (hk : isRun k) {r : Bool} (hf : f_Run_someSetChanges k M x1 = some r) : Ci l Z y_Run_someSetChanges b_Run_someSetChanges 3 (some .boolean) 2 42 [.ref (Z.2.2.1 k), .int x1] M M (bI r) := by
  refine Met.ofW (cc := b_Run_someSetChanges) (maxL := 3) (ret := (some .boolean)) (by decide) rfl ?_
  intro p e s m args below meth c s₁ B hml hv
  obtain ⟨rfl, hP, hX⟩ := hv
  have S : CallFix p m c b_Run_someSetChanges 3 s ([.ref (Z.2.2.1 k), .int x1] : List Value).toArray gtb R_Run := ⟨B.exec, B.bytes, hml, findClass_of_methodNamed B.named, fun w hw => atoms_spec (ws := .code y_Run_someSetChanges b_Run_someSetChanges 3 (some .boolean) :: gtb) B.pre w (List.mem_cons_of_mem _ hw)⟩
  have hl := lv_entry ([.ref (Z.2.2.1 k), .int x1]) (n := 3) (Nat.le_of_ble_eq_true rfl)
  rw [lg_entry_eq]
  exact wk_Run_someSetChanges hI hZ k M x1 hk S hX ⟨Nat.le_refl _, Nat.le_refl _⟩ (fun pc H locs ls hH d => q_rz S.1 S.2.1 B.returns B.notSynchronized hH rfl rfl d) hf ⟨hP, va_S.rf⟩ hl
theorem cw_Run_204 {R : Room} {s : State} {args : Array Value} (ht : ∀ w ∈ gtb, w.before args s = true) (h1 : 2 + 1 ≤ R.frames) (h2 : 8 + (3 + 11) + 42 ≤ R.locals) : CallW R s args R_Run R_Run 204 y_Run_someSetChanges b_Run_someSetChanges 3 (some .boolean) (.code y_Run_someSetChanges b_Run_someSetChanges 3 (some .boolean) :: gtb) { frames := 2, cells := 0, slots := 0, locals := 42 } 0 0 1 := cwV 1 ht (gV w4_112 w4_114 ws_Run_someSetChanges w1_4 w4_115) rfl rfl rfl ⟨rfl, by decide, by decide, by decide +kernel⟩ ⟨h1, h2⟩
noncomputable def f_Run_firstStill_L5 (k : Nat) (M : Mem) (x1 : Int32) : Option (Int32 ⊕ Int32) := if x1 < (1 : Int32) then some (.inr (0 : Int32)) else 
    bnd (f_Run_someSetChanges k M x1) (fun y2 => if (bI y2) = 0 then some (.inl (x1 + (-1 : Int32))) else some (.inr x1))
noncomputable def f_Run_firstStill_W5 (k : Nat) (M : Mem) (u : Int32) : Option Int32 := loop (fun t => f_Run_firstStill_L5 k M t) u
noncomputable def f_Run_firstStill_J5 (k : Nat) (M : Mem) (x1 : Int32) : Option (Int32) := bnd (f_Run_firstStill_W5 k M x1) (fun e5 => some e5)
noncomputable def f_Run_firstStill (k : Nat) (M : Mem) : Option Int32 := f_Run_firstStill_J5 k M (M k 1)
set_option maxHeartbeats 4000000 in
theorem wk_Run_firstStill {l : Launch} {Z : WD} (hI : wI Z) (hZ : IsC Z) (k : Nat) (M : Mem) (hk : isRun k) {r : Int32} {p : Program} {e : Env} {R : Room} {s : State} {m : MethodId} {args : Array Value} {below : List Frame} {meth : Method} {c : Code} {H : Heap} {locs : List Loc} {ls : Array Slot} {Q : State → Prop} (S : CallFix p m c b_Run_firstStill 2 s args gtb R_Run) (hX : wX Z s) (hR : 3 ≤ R.frames ∧ 64 ≤ R.locals) (hQ : ∀ (pc : Nat) (H : Heap) (locs : List Loc) (ls : Array Slot), HW Z M s H locs → decode b_Run_firstStill pc = .ok (.ireturn, 1) → W p l e R s m args below meth c H locs 0 0 Q (F0 m pc ls [.int r])) (hf0 : f_Run_firstStill k M = some r) (hH : HW Z M s H locs) (hl : lv_has ls 2 [(0, .ref (Z.2.2.1 k))]) : W p l e R s m args below meth c H locs 0 0 Q (F0 m 0 ls []) := by
  have hx := S.1
  have hb := S.2.1
  have hown := S.2.2.2.1
  have ht := S.2.2.2.2
  unfold f_Run_firstStill at hf0
  have J5 : ∀ (x1 : Int32) (H : Heap) (locs : List Loc) (ls : Array Slot), f_Run_firstStill_J5 k M x1 = some r → HW Z M s H locs → lv_has ls 2 [(0, .ref (Z.2.2.1 k)), (1, .int x1)] → W p l e R s m args below meth c H locs 0 0 Q (F0 m 5 ls []) := by
    intro x1 H locs ls hf0 hH hl
    unfold f_Run_firstStill_J5 at hf0
    obtain ⟨e5, he5, hf0⟩ := o_b hf0
    unfold f_Run_firstStill_W5 at he5
    refine loop_W (fun t => ∀ (H : Heap) (locs : List Loc) (ls : Array Slot), HW Z M s H locs → lv_has ls 2 [(0, .ref (Z.2.2.1 k)), (1, .int t)] → W p l e R s m args below meth c H locs 0 0 Q (F0 m 5 ls [])) ?_ he5 H locs ls hH hl
    rintro x1 o1 hf1 hG1 hR1 H locs ls hH hl
    replace hH : HW Z M s H locs := hH
    replace hl : lv_has ls 2 [(0, .ref (Z.2.2.1 k)), (1, .int x1)] := hl
    replace hf1 : f_Run_firstStill_L5 k M x1 = some o1 := hf1
    unfold f_Run_firstStill_L5 at hf1
    refine lv_iload_n hx hb d_Run_firstStill_5 rfl (lv_at hl 1 rfl) ?_
    refine lv_iconst (v := (1 : Int32)) hx hb d_Run_firstStill_6 (by decide) ?_
    refine lv_icmp_lt (tgt := 26) hx hb d_Run_firstStill_7 (by decide) (fun hc => ?_) (fun hc => ?_)
    · replace hf1 := o_t hc hf1
      refine lv_iconst (v := (0 : Int32)) hx hb d_Run_firstStill_26 (by decide) ?_
      obtain rfl := hR1 _ (o_v hf1).symm
      obtain rfl := o_v hf0
      exact hQ _ _ _ _ hH d_Run_firstStill_27
    · replace hf1 := o_f hc hf1
      refine lv_aload_n hx hb d_Run_firstStill_10 rfl (lv_at hl 0 rfl) ?_
      refine lv_iload_n hx hb d_Run_firstStill_11 rfl (lv_at hl 1 rfl) ?_
      obtain ⟨y2, hc1, hf1⟩ := o_b hf1
      refine q_cVi (As := [.int x1]) (rest := []) S hX hH (c_Run_someSetChanges l hI hZ k M x1 hk hc1) (cw_Run_204 S.2.2.2.2 (Nat.le_trans (Nat.le_of_ble_eq_true rfl) hR.1) (Nat.le_trans (Nat.le_of_ble_eq_true rfl) hR.2)) (rc_Run hX hH hZ hk) rfl hl.1 rfl (Nat.le_of_ble_eq_true rfl) d_Run_firstStill_12 ⟨Nat.zero_le _, Nat.zero_le _⟩ (fun H locs hH => ?_)
      refine lv_if_eq (tgt := 20) hx hb d_Run_firstStill_15 (by decide) (fun hc => ?_) (fun hc => ?_)
      · replace hf1 := o_t hc hf1
        refine lv_iinc (v := x1 + (-1 : Int32)) (lv' := [(1, .int (x1 + (-1 : Int32))), (0, .ref (Z.2.2.1 k))]) hx hb d_Run_firstStill_20 hl (k := 1) rfl rfl (by decide) rfl (fun ls hl => ?_)
        refine lv_goto (tgt := 5) hx hb d_Run_firstStill_23 (by decide) ?_
        exact hG1 _ (o_v hf1).symm _ _ _ hH (lv_sub hl [1, 0] rfl)
      · replace hf1 := o_f hc hf1
        refine lv_iload_n hx hb d_Run_firstStill_18 rfl (lv_at hl 1 rfl) ?_
        obtain rfl := hR1 _ (o_v hf1).symm
        obtain rfl := o_v hf0
        exact hQ _ _ _ _ hH d_Run_firstStill_19
  refine lv_aload_n hx hb d_Run_firstStill_0 rfl (lv_at hl 0 rfl) ?_
  refine g_Run_56 S hX hH hZ hk d_Run_firstStill_1 ?_
  refine lv_istore_n (lv' := [(1, .int (M k 1)), (0, .ref (Z.2.2.1 k))]) hx hb d_Run_firstStill_4 rfl hl (by decide) rfl (fun ls hl => ?_)
  exact J5 _ _ _ _ hf0 hH (lv_sub hl [1, 0] rfl)
theorem c_Run_firstStill (l : Launch) {Z : WD} (hI : wI Z) (hZ : IsC Z) (k : Nat) (M : Mem) (hk : isRun k) {r : Int32} (hf : f_Run_firstStill k M = some r) : Ci l Z y_Run_firstStill b_Run_firstStill 2 (some .int) 3 64 [.ref (Z.2.2.1 k)] M M r := by
  refine Met.ofW (cc := b_Run_firstStill) (maxL := 2) (ret := (some .int)) (by decide) rfl ?_
  intro p e s m args below meth c s₁ B hml hv
  obtain ⟨rfl, hP, hX⟩ := hv
  have S : CallFix p m c b_Run_firstStill 2 s ([.ref (Z.2.2.1 k)] : List Value).toArray gtb R_Run := ⟨B.exec, B.bytes, hml, findClass_of_methodNamed B.named, fun w hw => atoms_spec (ws := .code y_Run_firstStill b_Run_firstStill 2 (some .int) :: gtb) B.pre w (List.mem_cons_of_mem _ hw)⟩
  have hl := lv_entry ([.ref (Z.2.2.1 k)]) (n := 2) (Nat.le_of_ble_eq_true rfl)
  rw [lg_entry_eq]
  exact wk_Run_firstStill hI hZ k M hk S hX ⟨Nat.le_refl _, Nat.le_refl _⟩ (fun pc H locs ls hH d => q_ri S.1 S.2.1 B.returns B.notSynchronized hH rfl rfl d) hf ⟨hP, va_S.rf⟩ hl
noncomputable def f_Run_haveOneSet_J48 (k : Nat) (M : Mem) (x1 : Int32) (x2 : Int32) (x4 : Int32) (x5 : Int32) : Option ((Int32 × Int32) ⊕ Bool) := some (.inl (x5, x4 + (1 : Int32)))
noncomputable def f_Run_haveOneSet_L5 (k : Nat) (M : Mem) (x1 : Int32) (x2 : Int32) (x3 : Int32) (x4 : Int32) : Option ((Int32 × Int32) ⊕ Bool) := if (M 0 0) ≤ x4 then some (.inr true) else 
    if ((x1 >>> (x4 &&& 31)) &&& (1 : Int32)) = 0 then some (.inl (x3, x4 + (1 : Int32))) else 
    bnd (f_Run_setOf k M x4 x2) (fun y2 => 
    if x3 = (-1 : Int32) then f_Run_haveOneSet_J48 k M x1 x2 x4 y2 else if x3 = y2 then f_Run_haveOneSet_J48 k M x1 x2 x4 y2 else some (.inr false))
noncomputable def f_Run_haveOneSet_W5 (k : Nat) (M : Mem) (x1 : Int32) (x2 : Int32) (u : (Int32 × Int32)) : Option Bool := loop (fun t => f_Run_haveOneSet_L5 k M x1 x2 t.1 t.2) u
noncomputable def f_Run_haveOneSet_J5 (k : Nat) (M : Mem) (x1 : Int32) (x2 : Int32) (x3 : Int32) (x4 : Int32) : Option (Bool) := bnd (f_Run_haveOneSet_W5 k M x1 x2 (x3, x4)) (fun e5 => some e5)
noncomputable def f_Run_haveOneSet (k : Nat) (M : Mem) (x1 : Int32) (x2 : Int32) : Option Bool := f_Run_haveOneSet_J5 k M x1 x2 (-1 : Int32) (0 : Int32)
set_option maxHeartbeats 4000000 in
theorem wk_Run_haveOneSet {l : Launch} {Z : WD} (hI : wI Z) (hZ : IsC Z) (k : Nat) (M : Mem) (x1 : Int32) (x2 : Int32) (hk : isRun k) {r : Bool} {p : Program} {e : Env} {R : Room} {s : State} {m : MethodId} {args : Array Value} {below : List Frame} {meth : Method} {c : Code} {H : Heap} {locs : List Loc} {ls : Array Slot} {Q : State → Prop} (S : CallFix p m c b_Run_haveOneSet 6 s args gtb R_Run) (hX : wX Z s) (hR : 2 ≤ R.frames ∧ 42 ≤ R.locals) (hQ : ∀ (pc : Nat) (H : Heap) (locs : List Loc) (ls : Array Slot), HW Z M s H locs → decode b_Run_haveOneSet pc = .ok (.ireturn, 1) → W p l e R s m args below meth c H locs 0 0 Q (F0 m pc ls [.int (bI r)])) (hf0 : f_Run_haveOneSet k M x1 x2 = some r) (hH : HW Z M s H locs) (hl : lv_has ls 6 [(0, .ref (Z.2.2.1 k)), (1, .int x1), (2, .int x2)]) : W p l e R s m args below meth c H locs 0 0 Q (F0 m 0 ls []) := by
  have hx := S.1
  have hb := S.2.1
  have hown := S.2.2.2.1
  have ht := S.2.2.2.2
  unfold f_Run_haveOneSet at hf0
  have J5 : ∀ (x1 : Int32) (x2 : Int32) (x3 : Int32) (x4 : Int32) (H : Heap) (locs : List Loc) (ls : Array Slot), f_Run_haveOneSet_J5 k M x1 x2 x3 x4 = some r → HW Z M s H locs → lv_has ls 6 [(0, .ref (Z.2.2.1 k)), (1, .int x1), (2, .int x2), (3, .int x3), (4, .int x4)] → W p l e R s m args below meth c H locs 0 0 Q (F0 m 5 ls []) := by
    intro x1 x2 x3 x4 H locs ls hf0 hH hl
    unfold f_Run_haveOneSet_J5 at hf0
    obtain ⟨e5, he5, hf0⟩ := o_b hf0
    unfold f_Run_haveOneSet_W5 at he5
    refine loop_W (fun t => ∀ (H : Heap) (locs : List Loc) (ls : Array Slot), HW Z M s H locs → lv_has ls 6 [(0, .ref (Z.2.2.1 k)), (1, .int x1), (2, .int x2), (3, .int t.1), (4, .int t.2)] → W p l e R s m args below meth c H locs 0 0 Q (F0 m 5 ls [])) ?_ he5 H locs ls hH hl
    rintro ⟨x3, x4⟩ o1 hf1 hG1 hR1 H locs ls hH hl
    replace hH : HW Z M s H locs := hH
    replace hl : lv_has ls 6 [(0, .ref (Z.2.2.1 k)), (1, .int x1), (2, .int x2), (3, .int x3), (4, .int x4)] := hl
    replace hf1 : f_Run_haveOneSet_L5 k M x1 x2 x3 x4 = some o1 := hf1
    unfold f_Run_haveOneSet_L5 at hf1
    have J48 : ∀ (x4 : Int32) (x5 : Int32) (H : Heap) (locs : List Loc) (ls : Array Slot), f_Run_haveOneSet_J48 k M x1 x2 x4 x5 = some o1 → HW Z M s H locs → lv_has ls 6 [(0, .ref (Z.2.2.1 k)), (1, .int x1), (2, .int x2), (4, .int x4), (5, .int x5)] → W p l e R s m args below meth c H locs 0 0 Q (F0 m 48 ls []) := by
      intro x4 x5 H locs ls hf1 hH hl
      unfold f_Run_haveOneSet_J48 at hf1
      refine lv_iload hx hb d_Run_haveOneSet_48 (lv_at hl 4 rfl) ?_
      refine lv_istore_n (lv' := [(3, .int x5), (0, .ref (Z.2.2.1 k)), (1, .int x1), (2, .int x2), (4, .int x4), (5, .int x5)]) hx hb d_Run_haveOneSet_50 rfl hl (by decide) rfl (fun ls hl => ?_)
      refine lv_iinc (v := x4 + (1 : Int32)) (lv' := [(4, .int (x4 + (1 : Int32))), (3, .int x5), (0, .ref (Z.2.2.1 k)), (1, .int x1), (2, .int x2), (5, .int x5)]) hx hb d_Run_haveOneSet_51 hl (k := 4) rfl rfl (by decide) rfl (fun ls hl => ?_)
      refine lv_goto (tgt := 5) hx hb d_Run_haveOneSet_54 (by decide) ?_
      exact hG1 _ (o_v hf1).symm _ _ _ hH (lv_sub hl [2, 3, 4, 1, 0] rfl)
    refine lv_iload hx hb d_Run_haveOneSet_5 (lv_at hl 4 rfl) ?_
    refine lv_aload_n hx hb d_Run_haveOneSet_7 rfl (lv_at hl 0 rfl) ?_
    refine g_Run_47 S hX hH hZ hk d_Run_haveOneSet_8 ?_
    refine g_Run_133 S hX hH hZ isPlay_0 d_Run_haveOneSet_11 ?_
    refine lv_icmp_ge (tgt := 57) hx hb d_Run_haveOneSet_14 (by decide) (fun hc => ?_) (fun hc => ?_)
    · replace hf1 := o_t hc hf1
      refine lv_iconst (v := (1 : Int32)) hx hb d_Run_haveOneSet_57 (by decide) ?_
      obtain rfl := hR1 _ (o_v hf1).symm
      obtain rfl := o_v hf0
      exact hQ _ _ _ _ hH d_Run_haveOneSet_58
    · replace hf1 := o_f hc hf1
      refine lv_iload_n hx hb d_Run_haveOneSet_17 rfl (lv_at hl 1 rfl) ?_
      refine lv_iload hx hb d_Run_haveOneSet_18 (lv_at hl 4 rfl) ?_
      refine lv_ishr hx hb d_Run_haveOneSet_20 ?_
      refine lv_iconst (v := (1 : Int32)) hx hb d_Run_haveOneSet_21 (by decide) ?_
      refine lv_iand hx hb d_Run_haveOneSet_22 ?_
      refine lv_if_eq (tgt := 51) hx hb d_Run_haveOneSet_23 (by decide) (fun hc => ?_) (fun hc => ?_)
      · replace hf1 := o_t hc hf1
        refine lv_iinc (v := x4 + (1 : Int32)) (lv' := [(4, .int (x4 + (1 : Int32))), (0, .ref (Z.2.2.1 k)), (1, .int x1), (2, .int x2), (3, .int x3)]) hx hb d_Run_haveOneSet_51 hl (k := 4) rfl rfl (by decide) rfl (fun ls hl => ?_)
        refine lv_goto (tgt := 5) hx hb d_Run_haveOneSet_54 (by decide) ?_
        exact hG1 _ (o_v hf1).symm _ _ _ hH (lv_sub hl [1, 2, 3, 4, 0] rfl)
      · replace hf1 := o_f hc hf1
        refine lv_aload_n hx hb d_Run_haveOneSet_26 rfl (lv_at hl 0 rfl) ?_
        refine lv_iload hx hb d_Run_haveOneSet_27 (lv_at hl 4 rfl) ?_
        refine lv_iload_n hx hb d_Run_haveOneSet_29 rfl (lv_at hl 2 rfl) ?_
        obtain ⟨y2, hc1, hf1⟩ := o_b hf1
        refine q_cVi (As := [.int x4, .int x2]) (rest := []) S hX hH (c_Run_setOf l hI hZ k M x4 x2 hk hc1) (cw_Run_195 S.2.2.2.2 (Nat.le_trans (Nat.le_of_ble_eq_true rfl) hR.1) (Nat.le_trans (Nat.le_of_ble_eq_true rfl) hR.2)) (rc_Run hX hH hZ hk) rfl hl.1 rfl (Nat.le_of_ble_eq_true rfl) d_Run_haveOneSet_30 ⟨Nat.zero_le _, Nat.zero_le _⟩ (fun H locs hH => ?_)
        refine lv_istore (lv' := [(5, .int y2), (0, .ref (Z.2.2.1 k)), (1, .int x1), (2, .int x2), (3, .int x3), (4, .int x4)]) hx hb d_Run_haveOneSet_33 hl (by decide) rfl (fun ls hl => ?_)
        refine lv_iload_n hx hb d_Run_haveOneSet_35 rfl (lv_at hl 4 rfl) ?_
        refine lv_iconst (v := (-1 : Int32)) hx hb d_Run_haveOneSet_36 (by decide) ?_
        refine lv_icmp_eq (tgt := 48) hx hb d_Run_haveOneSet_37 (by decide) (fun hc => ?_) (fun hc => ?_)
        · replace hf1 := o_t hc hf1
          exact J48 _ _ _ _ _ hf1 hH (lv_sub hl [1, 2, 3, 5, 0] rfl)
        · replace hf1 := o_f hc hf1
          refine lv_iload_n hx hb d_Run_haveOneSet_40 rfl (lv_at hl 4 rfl) ?_
          refine lv_iload hx hb d_Run_haveOneSet_41 (lv_at hl 0 rfl) ?_
          refine lv_icmp_eq (tgt := 48) hx hb d_Run_haveOneSet_43 (by decide) (fun hc => ?_) (fun hc => ?_)
          · replace hf1 := o_t hc hf1
            exact J48 _ _ _ _ _ hf1 hH (lv_sub hl [1, 2, 3, 5, 0] rfl)
          · replace hf1 := o_f hc hf1
            refine lv_iconst (v := (0 : Int32)) hx hb d_Run_haveOneSet_46 (by decide) ?_
            obtain rfl := hR1 _ (o_v hf1).symm
            obtain rfl := o_v hf0
            exact hQ _ _ _ _ hH d_Run_haveOneSet_47
  refine lv_iconst (v := (-1 : Int32)) hx hb d_Run_haveOneSet_0 (by decide) ?_
  refine lv_istore_n (lv' := [(3, .int (-1 : Int32)), (0, .ref (Z.2.2.1 k)), (1, .int x1), (2, .int x2)]) hx hb d_Run_haveOneSet_1 rfl hl (by decide) rfl (fun ls hl => ?_)
  refine lv_iconst (v := (0 : Int32)) hx hb d_Run_haveOneSet_2 (by decide) ?_
  refine lv_istore (lv' := [(4, .int (0 : Int32)), (3, .int (-1 : Int32)), (0, .ref (Z.2.2.1 k)), (1, .int x1), (2, .int x2)]) hx hb d_Run_haveOneSet_3 hl (by decide) rfl (fun ls hl => ?_)
  exact J5 _ _ _ _ _ _ _ hf0 hH (lv_sub hl [2, 3, 4, 1, 0] rfl)
theorem c_Run_haveOneSet (l : Launch) {Z : WD} (hI : wI Z) (hZ : IsC Z) (k : Nat) (M : Mem) (x1 : Int32) (x2 : Int32) (hk : isRun k) {r : Bool} (hf : f_Run_haveOneSet k M x1 x2 = some r) : Ci l Z y_Run_haveOneSet b_Run_haveOneSet 6 (some .boolean) 2 42 [.ref (Z.2.2.1 k), .int x1, .int x2] M M (bI r) := by
  refine Met.ofW (cc := b_Run_haveOneSet) (maxL := 6) (ret := (some .boolean)) (by decide) rfl ?_
  intro p e s m args below meth c s₁ B hml hv
  obtain ⟨rfl, hP, hX⟩ := hv
  have S : CallFix p m c b_Run_haveOneSet 6 s ([.ref (Z.2.2.1 k), .int x1, .int x2] : List Value).toArray gtb R_Run := ⟨B.exec, B.bytes, hml, findClass_of_methodNamed B.named, fun w hw => atoms_spec (ws := .code y_Run_haveOneSet b_Run_haveOneSet 6 (some .boolean) :: gtb) B.pre w (List.mem_cons_of_mem _ hw)⟩
  have hl := lv_entry ([.ref (Z.2.2.1 k), .int x1, .int x2]) (n := 6) (Nat.le_of_ble_eq_true rfl)
  rw [lg_entry_eq]
  exact wk_Run_haveOneSet hI hZ k M x1 x2 hk S hX ⟨Nat.le_refl _, Nat.le_refl _⟩ (fun pc H locs ls hH d => q_rz S.1 S.2.1 B.returns B.notSynchronized hH rfl rfl d) hf ⟨hP, va_S.rf⟩ hl
theorem cw_Run_201 {R : Room} {s : State} {args : Array Value} (ht : ∀ w ∈ gtb, w.before args s = true) (h1 : 2 + 1 ≤ R.frames) (h2 : 8 + (6 + 11) + 42 ≤ R.locals) : CallW R s args R_Run R_Run 201 y_Run_haveOneSet b_Run_haveOneSet 6 (some .boolean) (.code y_Run_haveOneSet b_Run_haveOneSet 6 (some .boolean) :: gtb) { frames := 2, cells := 0, slots := 0, locals := 42 } 0 0 2 := cwV 2 ht (gV w4_120 w4_122 ws_Run_haveOneSet w1_4 w4_123) rfl rfl rfl ⟨rfl, by decide, by decide, by decide +kernel⟩ ⟨h1, h2⟩
noncomputable def f_Run_firstUnited_L5 (k : Nat) (M : Mem) (x1 : Int32) (x2 : Int32) : Option (Int32 ⊕ (Int32 ⊕ Int32)) := if x2 < 0 then some (.inr (.inr (0 : Int32))) else 
    bnd (f_Run_haveOneSet k M x1 x2) (fun y2 => if (bI y2) = 0 then some (.inr (.inl x2)) else some (.inl (x2 + (-1 : Int32))))
noncomputable def f_Run_firstUnited_W5 (k : Nat) (M : Mem) (x1 : Int32) (u : Int32) : Option (Int32 ⊕ Int32) := loop (fun t => f_Run_firstUnited_L5 k M x1 t) u
noncomputable def f_Run_firstUnited_J5 (k : Nat) (M : Mem) (x1 : Int32) (x2 : Int32) : Option (Int32) := bnd (f_Run_firstUnited_W5 k M x1 x2) (fun e5 => lex2 e5 (fun t5 => if t5 = (M k 1) then some (-2 : Int32) else some (t5 + (1 : Int32))) (fun r5 => some r5))
noncomputable def f_Run_firstUnited (k : Nat) (M : Mem) (x1 : Int32) : Option Int32 := f_Run_firstUnited_J5 k M x1 (M k 1)
set_option maxHeartbeats 4000000 in
theorem wk_Run_firstUnited {l : Launch} {Z : WD} (hI : wI Z) (hZ : IsC Z) (k : Nat) (M : Mem) (x1 : Int32) (hk : isRun k) {r : Int32} {p : Program} {e : Env} {R : Room} {s : State} {m : MethodId} {args : Array Value} {below : List Frame} {meth : Method} {c : Code} {H : Heap} {locs : List Loc} {ls : Array Slot} {Q : State → Prop} (S : CallFix p m c b_Run_firstUnited 3 s args gtb R_Run) (hX : wX Z s) (hR : 3 ≤ R.frames ∧ 67 ≤ R.locals) (hQ : ∀ (pc : Nat) (H : Heap) (locs : List Loc) (ls : Array Slot), HW Z M s H locs → decode b_Run_firstUnited pc = .ok (.ireturn, 1) → W p l e R s m args below meth c H locs 0 0 Q (F0 m pc ls [.int r])) (hf0 : f_Run_firstUnited k M x1 = some r) (hH : HW Z M s H locs) (hl : lv_has ls 3 [(0, .ref (Z.2.2.1 k)), (1, .int x1)]) : W p l e R s m args below meth c H locs 0 0 Q (F0 m 0 ls []) := by
  have hx := S.1
  have hb := S.2.1
  have hown := S.2.2.2.1
  have ht := S.2.2.2.2
  unfold f_Run_firstUnited at hf0
  have J5 : ∀ (x1 : Int32) (x2 : Int32) (H : Heap) (locs : List Loc) (ls : Array Slot), f_Run_firstUnited_J5 k M x1 x2 = some r → HW Z M s H locs → lv_has ls 3 [(0, .ref (Z.2.2.1 k)), (1, .int x1), (2, .int x2)] → W p l e R s m args below meth c H locs 0 0 Q (F0 m 5 ls []) := by
    intro x1 x2 H locs ls hf0 hH hl
    unfold f_Run_firstUnited_J5 at hf0
    obtain ⟨e5, he5, hf0⟩ := o_b hf0
    have KX5 : ∀ (t5 : Int32), e5 = .inl t5 → ∀ (H : Heap) (locs : List Loc) (ls : Array Slot), HW Z M s H locs → lv_has ls 3 [(0, .ref (Z.2.2.1 k)), (2, .int t5)] → W p l e R s m args below meth c H locs 0 0 Q (F0 m 18 ls []) := by
      intro t5 he0 H locs ls hH hl
      subst he0
      replace hf0 := o_x1 hf0
      refine lv_iload_n hx hb d_Run_firstUnited_18 rfl (lv_at hl 1 rfl) ?_
      refine lv_aload_n hx hb d_Run_firstUnited_19 rfl (lv_at hl 0 rfl) ?_
      refine g_Run_56 S hX hH hZ hk d_Run_firstUnited_20 ?_
      refine lv_icmp_ne (tgt := 31) hx hb d_Run_firstUnited_23 (by decide) (fun hc => ?_) (fun hc => ?_)
      · replace hf0 := o_f hc hf0
        refine lv_iload_n hx hb d_Run_firstUnited_31 rfl (lv_at hl 1 rfl) ?_
        refine lv_iconst (v := (1 : Int32)) hx hb d_Run_firstUnited_32 (by decide) ?_
        refine lv_iadd hx hb d_Run_firstUnited_33 ?_
        obtain rfl := o_v hf0
        exact hQ _ _ _ _ hH d_Run_firstUnited_34
      · replace hf0 := o_t hc hf0
        refine lv_bipush (v := (-2 : Int32)) hx hb d_Run_firstUnited_26 (by decide) ?_
        refine lv_goto (tgt := 34) hx hb d_Run_firstUnited_28 (by decide) ?_
        obtain rfl := o_v hf0
        exact hQ _ _ _ _ hH d_Run_firstUnited_34
    unfold f_Run_firstUnited_W5 at he5
    refine loop_W (fun t => ∀ (H : Heap) (locs : List Loc) (ls : Array Slot), HW Z M s H locs → lv_has ls 3 [(0, .ref (Z.2.2.1 k)), (1, .int x1), (2, .int t)] → W p l e R s m args below meth c H locs 0 0 Q (F0 m 5 ls [])) ?_ he5 H locs ls hH hl
    rintro x2 o1 hf1 hG1 hR1 H locs ls hH hl
    replace hH : HW Z M s H locs := hH
    replace hl : lv_has ls 3 [(0, .ref (Z.2.2.1 k)), (1, .int x1), (2, .int x2)] := hl
    replace hf1 : f_Run_firstUnited_L5 k M x1 x2 = some o1 := hf1
    unfold f_Run_firstUnited_L5 at hf1
    refine lv_iload_n hx hb d_Run_firstUnited_5 rfl (lv_at hl 2 rfl) ?_
    refine lv_if_lt (tgt := 41) hx hb d_Run_firstUnited_6 (by decide) (fun hc => ?_) (fun hc => ?_)
    · replace hf1 := o_t hc hf1
      refine lv_iconst (v := (0 : Int32)) hx hb d_Run_firstUnited_41 (by decide) ?_
      obtain rfl := hR1 _ (o_v hf1).symm
      replace hf0 := o_x2 hf0
      obtain rfl := o_v hf0
      exact hQ _ _ _ _ hH d_Run_firstUnited_42
    · replace hf1 := o_f hc hf1
      refine lv_aload_n hx hb d_Run_firstUnited_9 rfl (lv_at hl 0 rfl) ?_
      refine lv_iload_n hx hb d_Run_firstUnited_10 rfl (lv_at hl 1 rfl) ?_
      refine lv_iload_n hx hb d_Run_firstUnited_11 rfl (lv_at hl 2 rfl) ?_
      obtain ⟨y2, hc1, hf1⟩ := o_b hf1
      refine q_cVi (As := [.int x1, .int x2]) (rest := []) S hX hH (c_Run_haveOneSet l hI hZ k M x1 x2 hk hc1) (cw_Run_201 S.2.2.2.2 (Nat.le_trans (Nat.le_of_ble_eq_true rfl) hR.1) (Nat.le_trans (Nat.le_of_ble_eq_true rfl) hR.2)) (rc_Run hX hH hZ hk) rfl hl.1 rfl (Nat.le_of_ble_eq_true rfl) d_Run_firstUnited_12 ⟨Nat.zero_le _, Nat.zero_le _⟩ (fun H locs hH => ?_)
      refine lv_if_ne (tgt := 35) hx hb d_Run_firstUnited_15 (by decide) (fun hc => ?_) (fun hc => ?_)
      · replace hf1 := o_f hc hf1
        refine lv_iinc (v := x2 + (-1 : Int32)) (lv' := [(2, .int (x2 + (-1 : Int32))), (0, .ref (Z.2.2.1 k)), (1, .int x1)]) hx hb d_Run_firstUnited_35 hl (k := 2) rfl rfl (by decide) rfl (fun ls hl => ?_)
        refine lv_goto (tgt := 5) hx hb d_Run_firstUnited_38 (by decide) ?_
        exact hG1 _ (o_v hf1).symm _ _ _ hH (lv_sub hl [1, 2, 0] rfl)
      · replace hf1 := o_t hc hf1
        obtain rfl := hR1 _ (o_v hf1).symm
        exact KX5 _ rfl _ _ _ hH (lv_sub hl [0, 2] rfl)
  refine lv_aload_n hx hb d_Run_firstUnited_0 rfl (lv_at hl 0 rfl) ?_
  refine g_Run_56 S hX hH hZ hk d_Run_firstUnited_1 ?_
  refine lv_istore_n (lv' := [(2, .int (M k 1)), (0, .ref (Z.2.2.1 k)), (1, .int x1)]) hx hb d_Run_firstUnited_4 rfl hl (by decide) rfl (fun ls hl => ?_)
  exact J5 _ _ _ _ _ hf0 hH (lv_sub hl [1, 2, 0] rfl)
theorem c_Run_firstUnited (l : Launch) {Z : WD} (hI : wI Z) (hZ : IsC Z) (k : Nat) (M : Mem) (x1 : Int32) (hk : isRun k) {r : Int32} (hf : f_Run_firstUnited k M x1 = some r) : Ci l Z y_Run_firstUnited b_Run_firstUnited 3 (some .int) 3 67 [.ref (Z.2.2.1 k), .int x1] M M r := by
  refine Met.ofW (cc := b_Run_firstUnited) (maxL := 3) (ret := (some .int)) (by decide) rfl ?_
  intro p e s m args below meth c s₁ B hml hv
  obtain ⟨rfl, hP, hX⟩ := hv
  have S : CallFix p m c b_Run_firstUnited 3 s ([.ref (Z.2.2.1 k), .int x1] : List Value).toArray gtb R_Run := ⟨B.exec, B.bytes, hml, findClass_of_methodNamed B.named, fun w hw => atoms_spec (ws := .code y_Run_firstUnited b_Run_firstUnited 3 (some .int) :: gtb) B.pre w (List.mem_cons_of_mem _ hw)⟩
  have hl := lv_entry ([.ref (Z.2.2.1 k), .int x1]) (n := 3) (Nat.le_of_ble_eq_true rfl)
  rw [lg_entry_eq]
  exact wk_Run_firstUnited hI hZ k M x1 hk S hX ⟨Nat.le_refl _, Nat.le_refl _⟩ (fun pc H locs ls hH d => q_ri S.1 S.2.1 B.returns B.notSynchronized hH rfl rfl d) hf ⟨hP, va_S.rf⟩ hl
noncomputable def f_Run_anyComes_L2 (k : Nat) (M : Mem) (x1 : Int32) (x2 : Int32) : Option (Int32 ⊕ Bool) := if (M k 4) ≤ x2 then some (.inr false) else 
    gIn x2 212 (if (M (k + 2) x2.toNatClampNeg) = x1 then 
    if (M (k + 5) x2.toNatClampNeg) = (-1 : Int32) then some (.inl (x2 + (1 : Int32))) else some (.inr true) else some (.inl (x2 + (1 : Int32))))
noncomputable def f_Run_anyComes_W2 (k : Nat) (M : Mem) (x1 : Int32) (u : Int32) : Option Bool := loop (fun t => f_Run_anyComes_L2 k M x1 t) u
noncomputable def f_Run_anyComes_J2 (k : Nat) (M : Mem) (x1 : Int32) (x2 : Int32) : Option (Bool) := bnd (f_Run_anyComes_W2 k M x1 x2) (fun e2 => some e2)
noncomputable def f_Run_anyComes (k : Nat) (M : Mem) (x1 : Int32) : Option Bool := f_Run_anyComes_J2 k M x1 (0 : Int32)
set_option maxHeartbeats 4000000 in
theorem wk_Run_anyComes {l : Launch} {Z : WD} (hI : wI Z) (hZ : IsC Z) (k : Nat) (M : Mem) (x1 : Int32) (hk : isRun k) {r : Bool} {p : Program} {e : Env} {R : Room} {s : State} {m : MethodId} {args : Array Value} {below : List Frame} {meth : Method} {c : Code} {H : Heap} {locs : List Loc} {ls : Array Slot} {Q : State → Prop} (S : CallFix p m c b_Run_anyComes 3 s args gtb R_Run) (hX : wX Z s) (hR : 0 ≤ R.frames ∧ 0 ≤ R.locals) (hQ : ∀ (pc : Nat) (H : Heap) (locs : List Loc) (ls : Array Slot), HW Z M s H locs → decode b_Run_anyComes pc = .ok (.ireturn, 1) → W p l e R s m args below meth c H locs 0 0 Q (F0 m pc ls [.int (bI r)])) (hf0 : f_Run_anyComes k M x1 = some r) (hH : HW Z M s H locs) (hl : lv_has ls 3 [(0, .ref (Z.2.2.1 k)), (1, .int x1)]) : W p l e R s m args below meth c H locs 0 0 Q (F0 m 0 ls []) := by
  have hx := S.1
  have hb := S.2.1
  have hown := S.2.2.2.1
  have ht := S.2.2.2.2
  unfold f_Run_anyComes at hf0
  have J2 : ∀ (x1 : Int32) (x2 : Int32) (H : Heap) (locs : List Loc) (ls : Array Slot), f_Run_anyComes_J2 k M x1 x2 = some r → HW Z M s H locs → lv_has ls 3 [(0, .ref (Z.2.2.1 k)), (1, .int x1), (2, .int x2)] → W p l e R s m args below meth c H locs 0 0 Q (F0 m 2 ls []) := by
    intro x1 x2 H locs ls hf0 hH hl
    unfold f_Run_anyComes_J2 at hf0
    obtain ⟨e2, he2, hf0⟩ := o_b hf0
    unfold f_Run_anyComes_W2 at he2
    refine loop_W (fun t => ∀ (H : Heap) (locs : List Loc) (ls : Array Slot), HW Z M s H locs → lv_has ls 3 [(0, .ref (Z.2.2.1 k)), (1, .int x1), (2, .int t)] → W p l e R s m args below meth c H locs 0 0 Q (F0 m 2 ls [])) ?_ he2 H locs ls hH hl
    rintro x2 o1 hf1 hG1 hR1 H locs ls hH hl
    replace hH : HW Z M s H locs := hH
    replace hl : lv_has ls 3 [(0, .ref (Z.2.2.1 k)), (1, .int x1), (2, .int x2)] := hl
    replace hf1 : f_Run_anyComes_L2 k M x1 x2 = some o1 := hf1
    unfold f_Run_anyComes_L2 at hf1
    refine lv_iload_n hx hb d_Run_anyComes_2 rfl (lv_at hl 2 rfl) ?_
    refine lv_aload_n hx hb d_Run_anyComes_3 rfl (lv_at hl 0 rfl) ?_
    refine g_Run_110 S hX hH hZ hk d_Run_anyComes_4 ?_
    refine lv_icmp_ge (tgt := 38) hx hb d_Run_anyComes_7 (by decide) (fun hc => ?_) (fun hc => ?_)
    · replace hf1 := o_t hc hf1
      refine lv_iconst (v := (0 : Int32)) hx hb d_Run_anyComes_38 (by decide) ?_
      obtain rfl := hR1 _ (o_v hf1).symm
      obtain rfl := o_v hf0
      exact hQ _ _ _ _ hH d_Run_anyComes_39
    · replace hf1 := o_f hc hf1
      refine lv_aload_n hx hb d_Run_anyComes_10 rfl (lv_at hl 0 rfl) ?_
      refine g_Run_17 S hX hH hZ hk d_Run_anyComes_11 ?_
      refine lv_iload_n hx hb d_Run_anyComes_14 rfl (lv_at hl 2 rfl) ?_
      obtain ⟨hn1, hf1⟩ := o_in hf1
      refine q_iald (j := x2.toNatClampNeg) hx hb hX hH (aa_Run_2 hZ hk) hn1 rfl d_Run_anyComes_15 ?_
      refine lv_iload_n hx hb d_Run_anyComes_16 rfl (lv_at hl 1 rfl) ?_
      refine lv_icmp_ne (tgt := 32) hx hb d_Run_anyComes_17 (by decide) (fun hc => ?_) (fun hc => ?_)
      · replace hf1 := o_f hc hf1
        refine lv_iinc (v := x2 + (1 : Int32)) (lv' := [(2, .int (x2 + (1 : Int32))), (0, .ref (Z.2.2.1 k)), (1, .int x1)]) hx hb d_Run_anyComes_32 hl (k := 2) rfl rfl (by decide) rfl (fun ls hl => ?_)
        refine lv_goto (tgt := 2) hx hb d_Run_anyComes_35 (by decide) ?_
        exact hG1 _ (o_v hf1).symm _ _ _ hH (lv_sub hl [1, 2, 0] rfl)
      · replace hf1 := o_t hc hf1
        refine lv_aload_n hx hb d_Run_anyComes_20 rfl (lv_at hl 0 rfl) ?_
        refine g_Run_26 S hX hH hZ hk d_Run_anyComes_21 ?_
        refine lv_iload_n hx hb d_Run_anyComes_24 rfl (lv_at hl 2 rfl) ?_
        refine q_iald (j := x2.toNatClampNeg) hx hb hX hH (aa_Run_5 hZ hk) hn1 rfl d_Run_anyComes_25 ?_
        refine lv_iconst (v := (-1 : Int32)) hx hb d_Run_anyComes_26 (by decide) ?_
        refine lv_icmp_eq (tgt := 32) hx hb d_Run_anyComes_27 (by decide) (fun hc => ?_) (fun hc => ?_)
        · replace hf1 := o_t hc hf1
          refine lv_iinc (v := x2 + (1 : Int32)) (lv' := [(2, .int (x2 + (1 : Int32))), (0, .ref (Z.2.2.1 k)), (1, .int x1)]) hx hb d_Run_anyComes_32 hl (k := 2) rfl rfl (by decide) rfl (fun ls hl => ?_)
          refine lv_goto (tgt := 2) hx hb d_Run_anyComes_35 (by decide) ?_
          exact hG1 _ (o_v hf1).symm _ _ _ hH (lv_sub hl [1, 2, 0] rfl)
        · replace hf1 := o_f hc hf1
          refine lv_iconst (v := (1 : Int32)) hx hb d_Run_anyComes_30 (by decide) ?_
          obtain rfl := hR1 _ (o_v hf1).symm
          obtain rfl := o_v hf0
          exact hQ _ _ _ _ hH d_Run_anyComes_31
  refine lv_iconst (v := (0 : Int32)) hx hb d_Run_anyComes_0 (by decide) ?_
  refine lv_istore_n (lv' := [(2, .int (0 : Int32)), (0, .ref (Z.2.2.1 k)), (1, .int x1)]) hx hb d_Run_anyComes_1 rfl hl (by decide) rfl (fun ls hl => ?_)
  exact J2 _ _ _ _ _ hf0 hH (lv_sub hl [1, 2, 0] rfl)
theorem c_Run_anyComes (l : Launch) {Z : WD} (hI : wI Z) (hZ : IsC Z) (k : Nat) (M : Mem) (x1 : Int32) (hk : isRun k) {r : Bool} (hf : f_Run_anyComes k M x1 = some r) : Ci l Z y_Run_anyComes b_Run_anyComes 3 (some .boolean) 0 0 [.ref (Z.2.2.1 k), .int x1] M M (bI r) := by
  refine Met.ofW (cc := b_Run_anyComes) (maxL := 3) (ret := (some .boolean)) (by decide) rfl ?_
  intro p e s m args below meth c s₁ B hml hv
  obtain ⟨rfl, hP, hX⟩ := hv
  have S : CallFix p m c b_Run_anyComes 3 s ([.ref (Z.2.2.1 k), .int x1] : List Value).toArray gtb R_Run := ⟨B.exec, B.bytes, hml, findClass_of_methodNamed B.named, fun w hw => atoms_spec (ws := .code y_Run_anyComes b_Run_anyComes 3 (some .boolean) :: gtb) B.pre w (List.mem_cons_of_mem _ hw)⟩
  have hl := lv_entry ([.ref (Z.2.2.1 k), .int x1]) (n := 3) (Nat.le_of_ble_eq_true rfl)
  rw [lg_entry_eq]
  exact wk_Run_anyComes hI hZ k M x1 hk S hX ⟨Nat.le_refl _, Nat.le_refl _⟩ (fun pc H locs ls hH d => q_rz S.1 S.2.1 B.returns B.notSynchronized hH rfl rfl d) hf ⟨hP, va_S.rf⟩ hl
noncomputable def f_Run_shortLetters_J45 (k : Nat) (M : Mem) (x1 : Int32) (x2 : Int32) (s0 : Int32) : Option ((Int32 × Int32) ⊕ Int32) := if s0 = 0 then some (.inl (x1, x2 + (1 : Int32))) else 
    gIn x2 212 (if (bI (f_Play_isHonest 0 M (f_Route_toOf (M (k + 2) x2.toNatClampNeg)))) = 0 then some (.inl (x1, x2 + (1 : Int32))) else some (.inl (x1 + (1 : Int32), x2 + (1 : Int32))))
noncomputable def f_Run_shortLetters_J44 (k : Nat) (M : Mem) (x1 : Int32) (x2 : Int32) : Option ((Int32 × Int32) ⊕ Int32) := f_Run_shortLetters_J45 k M x1 x2 (0 : Int32)
noncomputable def f_Run_shortLetters_L4 (k : Nat) (M : Mem) (x1 : Int32) (x2 : Int32) : Option ((Int32 × Int32) ⊕ Int32) := if (M k 4) ≤ x2 then some (.inr x1) else 
    gIn x2 212 (if (M (k + 5) x2.toNatClampNeg) = (-1 : Int32) then f_Run_shortLetters_J44 k M x1 x2 else 
    if (M (k + 5) x2.toNatClampNeg) ≤ (f_Chain_size (M (k + 4) x2.toNatClampNeg)) then f_Run_shortLetters_J44 k M x1 x2 else f_Run_shortLetters_J45 k M x1 x2 (1 : Int32))
noncomputable def f_Run_shortLetters_W4 (k : Nat) (M : Mem) (u : (Int32 × Int32)) : Option Int32 := loop (fun t => f_Run_shortLetters_L4 k M t.1 t.2) u
noncomputable def f_Run_shortLetters_J4 (k : Nat) (M : Mem) (x1 : Int32) (x2 : Int32) : Option (Int32) := bnd (f_Run_shortLetters_W4 k M (x1, x2)) (fun e4 => some e4)
noncomputable def f_Run_shortLetters (k : Nat) (M : Mem) : Option Int32 := f_Run_shortLetters_J4 k M (0 : Int32) (0 : Int32)
set_option maxHeartbeats 4000000 in
theorem wk_Run_shortLetters {l : Launch} {Z : WD} (hI : wI Z) (hZ : IsC Z) (k : Nat) (M : Mem) (hk : isRun k) {r : Int32} {p : Program} {e : Env} {R : Room} {s : State} {m : MethodId} {args : Array Value} {below : List Frame} {meth : Method} {c : Code} {H : Heap} {locs : List Loc} {ls : Array Slot} {Q : State → Prop} (S : CallFix p m c b_Run_shortLetters 4 s args gtb R_Run) (hX : wX Z s) (hR : 2 ≤ R.frames ∧ 42 ≤ R.locals) (hQ : ∀ (pc : Nat) (H : Heap) (locs : List Loc) (ls : Array Slot), HW Z M s H locs → decode b_Run_shortLetters pc = .ok (.ireturn, 1) → W p l e R s m args below meth c H locs 0 0 Q (F0 m pc ls [.int r])) (hf0 : f_Run_shortLetters k M = some r) (hH : HW Z M s H locs) (hl : lv_has ls 4 [(0, .ref (Z.2.2.1 k))]) : W p l e R s m args below meth c H locs 0 0 Q (F0 m 0 ls []) := by
  have hx := S.1
  have hb := S.2.1
  have hown := S.2.2.2.1
  have ht := S.2.2.2.2
  unfold f_Run_shortLetters at hf0
  have J4 : ∀ (x1 : Int32) (x2 : Int32) (H : Heap) (locs : List Loc) (ls : Array Slot), f_Run_shortLetters_J4 k M x1 x2 = some r → HW Z M s H locs → lv_has ls 4 [(0, .ref (Z.2.2.1 k)), (1, .int x1), (2, .int x2)] → W p l e R s m args below meth c H locs 0 0 Q (F0 m 4 ls []) := by
    intro x1 x2 H locs ls hf0 hH hl
    unfold f_Run_shortLetters_J4 at hf0
    obtain ⟨e4, he4, hf0⟩ := o_b hf0
    unfold f_Run_shortLetters_W4 at he4
    refine loop_W (fun t => ∀ (H : Heap) (locs : List Loc) (ls : Array Slot), HW Z M s H locs → lv_has ls 4 [(0, .ref (Z.2.2.1 k)), (1, .int t.1), (2, .int t.2)] → W p l e R s m args below meth c H locs 0 0 Q (F0 m 4 ls [])) ?_ he4 H locs ls hH hl
    rintro ⟨x1, x2⟩ o1 hf1 hG1 hR1 H locs ls hH hl
    replace hH : HW Z M s H locs := hH
    replace hl : lv_has ls 4 [(0, .ref (Z.2.2.1 k)), (1, .int x1), (2, .int x2)] := hl
    replace hf1 : f_Run_shortLetters_L4 k M x1 x2 = some o1 := hf1
    unfold f_Run_shortLetters_L4 at hf1
    have J45 : ∀ (x1 : Int32) (x2 : Int32) (s0 : Int32) (H : Heap) (locs : List Loc) (ls : Array Slot), f_Run_shortLetters_J45 k M x1 x2 s0 = some o1 → HW Z M s H locs → lv_has ls 4 [(0, .ref (Z.2.2.1 k)), (1, .int x1), (2, .int x2)] → W p l e R s m args below meth c H locs 0 0 Q (F0 m 45 ls [.int s0]) := by
      intro x1 x2 s0 H locs ls hf1 hH hl
      unfold f_Run_shortLetters_J45 at hf1
      refine lv_istore_n (lv' := [(3, .int s0), (0, .ref (Z.2.2.1 k)), (1, .int x1), (2, .int x2)]) hx hb d_Run_shortLetters_45 rfl hl (by decide) rfl (fun ls hl => ?_)
      refine lv_iload_n hx hb d_Run_shortLetters_46 rfl (lv_at hl 0 rfl) ?_
      refine lv_if_eq (tgt := 72) hx hb d_Run_shortLetters_47 (by decide) (fun hc => ?_) (fun hc => ?_)
      · replace hf1 := o_t hc hf1
        refine lv_iinc (v := x2 + (1 : Int32)) (lv' := [(2, .int (x2 + (1 : Int32))), (3, .int s0), (0, .ref (Z.2.2.1 k)), (1, .int x1)]) hx hb d_Run_shortLetters_72 hl (k := 3) rfl rfl (by decide) rfl (fun ls hl => ?_)
        refine lv_goto (tgt := 4) hx hb d_Run_shortLetters_75 (by decide) ?_
        exact hG1 _ (o_v hf1).symm _ _ _ hH (lv_sub hl [2, 3, 0] rfl)
      · replace hf1 := o_f hc hf1
        refine lv_aload_n hx hb d_Run_shortLetters_50 rfl (lv_at hl 1 rfl) ?_
        refine g_Run_47 S hX hH hZ hk d_Run_shortLetters_51 ?_
        refine lv_aload_n hx hb d_Run_shortLetters_54 rfl (lv_at hl 1 rfl) ?_
        refine g_Run_17 S hX hH hZ hk d_Run_shortLetters_55 ?_
        refine lv_iload_n hx hb d_Run_shortLetters_58 rfl (lv_at hl 3 rfl) ?_
        obtain ⟨hn1, hf1⟩ := o_in hf1
        refine q_iald (j := x2.toNatClampNeg) hx hb hX hH (aa_Run_2 hZ hk) hn1 rfl d_Run_shortLetters_59 ?_
        refine q_cSi (As := [.int (M (k + 2) x2.toNatClampNeg)]) (rest := [.ref (Z.2.2.1 0)]) S hX hH (c_Route_toOf l hI M (M (k + 2) x2.toNatClampNeg) rfl) (cw_Run_178 S.2.2.2.2 (Nat.le_trans (Nat.le_of_ble_eq_true rfl) hR.1) (Nat.le_trans (Nat.le_of_ble_eq_true rfl) hR.2)) rfl hl.1 rfl (Nat.le_of_ble_eq_true rfl) d_Run_shortLetters_60 ⟨Nat.zero_le _, Nat.zero_le _⟩ (fun H locs hH => ?_)
        refine q_cVi (As := [.int (f_Route_toOf (M (k + 2) x2.toNatClampNeg))]) (rest := []) S hX hH (c_Play_isHonest l hI hZ 0 M (f_Route_toOf (M (k + 2) x2.toNatClampNeg)) isPlay_0 rfl) (cw_Run_122 S.2.2.2.2 (Nat.le_trans (Nat.le_of_ble_eq_true rfl) hR.1) (Nat.le_trans (Nat.le_of_ble_eq_true rfl) hR.2)) (rc_Play hX hH hZ isPlay_0) rfl hl.1 rfl (Nat.le_of_ble_eq_true rfl) d_Run_shortLetters_63 ⟨Nat.zero_le _, Nat.zero_le _⟩ (fun H locs hH => ?_)
        refine lv_if_eq (tgt := 72) hx hb d_Run_shortLetters_66 (by decide) (fun hc => ?_) (fun hc => ?_)
        · replace hf1 := o_t hc hf1
          refine lv_iinc (v := x2 + (1 : Int32)) (lv' := [(2, .int (x2 + (1 : Int32))), (3, .int s0), (0, .ref (Z.2.2.1 k)), (1, .int x1)]) hx hb d_Run_shortLetters_72 hl (k := 3) rfl rfl (by decide) rfl (fun ls hl => ?_)
          refine lv_goto (tgt := 4) hx hb d_Run_shortLetters_75 (by decide) ?_
          exact hG1 _ (o_v hf1).symm _ _ _ hH (lv_sub hl [2, 3, 0] rfl)
        · replace hf1 := o_f hc hf1
          refine lv_iinc (v := x1 + (1 : Int32)) (lv' := [(1, .int (x1 + (1 : Int32))), (3, .int s0), (0, .ref (Z.2.2.1 k)), (2, .int x2)]) hx hb d_Run_shortLetters_69 hl (k := 2) rfl rfl (by decide) rfl (fun ls hl => ?_)
          refine lv_iinc (v := x2 + (1 : Int32)) (lv' := [(2, .int (x2 + (1 : Int32))), (1, .int (x1 + (1 : Int32))), (3, .int s0), (0, .ref (Z.2.2.1 k))]) hx hb d_Run_shortLetters_72 hl (k := 3) rfl rfl (by decide) rfl (fun ls hl => ?_)
          refine lv_goto (tgt := 4) hx hb d_Run_shortLetters_75 (by decide) ?_
          exact hG1 _ (o_v hf1).symm _ _ _ hH (lv_sub hl [3, 1, 0] rfl)
    have J44 : ∀ (x1 : Int32) (x2 : Int32) (H : Heap) (locs : List Loc) (ls : Array Slot), f_Run_shortLetters_J44 k M x1 x2 = some o1 → HW Z M s H locs → lv_has ls 4 [(0, .ref (Z.2.2.1 k)), (1, .int x1), (2, .int x2)] → W p l e R s m args below meth c H locs 0 0 Q (F0 m 44 ls []) := by
      intro x1 x2 H locs ls hf1 hH hl
      unfold f_Run_shortLetters_J44 at hf1
      refine lv_iconst (v := (0 : Int32)) hx hb d_Run_shortLetters_44 (by decide) ?_
      exact J45 _ _ _ _ _ _ hf1 hH (lv_sub hl [0, 1, 2] rfl)
    refine lv_iload_n hx hb d_Run_shortLetters_4 rfl (lv_at hl 2 rfl) ?_
    refine lv_aload_n hx hb d_Run_shortLetters_5 rfl (lv_at hl 0 rfl) ?_
    refine g_Run_110 S hX hH hZ hk d_Run_shortLetters_6 ?_
    refine lv_icmp_ge (tgt := 78) hx hb d_Run_shortLetters_9 (by decide) (fun hc => ?_) (fun hc => ?_)
    · replace hf1 := o_t hc hf1
      refine lv_iload_n hx hb d_Run_shortLetters_78 rfl (lv_at hl 1 rfl) ?_
      obtain rfl := hR1 _ (o_v hf1).symm
      obtain rfl := o_v hf0
      exact hQ _ _ _ _ hH d_Run_shortLetters_79
    · replace hf1 := o_f hc hf1
      refine lv_aload_n hx hb d_Run_shortLetters_12 rfl (lv_at hl 0 rfl) ?_
      refine g_Run_26 S hX hH hZ hk d_Run_shortLetters_13 ?_
      refine lv_iload_n hx hb d_Run_shortLetters_16 rfl (lv_at hl 2 rfl) ?_
      obtain ⟨hn2, hf1⟩ := o_in hf1
      refine q_iald (j := x2.toNatClampNeg) hx hb hX hH (aa_Run_5 hZ hk) hn2 rfl d_Run_shortLetters_17 ?_
      refine lv_iconst (v := (-1 : Int32)) hx hb d_Run_shortLetters_18 (by decide) ?_
      refine lv_icmp_eq (tgt := 44) hx hb d_Run_shortLetters_19 (by decide) (fun hc => ?_) (fun hc => ?_)
      · replace hf1 := o_t hc hf1
        exact J44 _ _ _ _ _ hf1 hH (lv_sub hl [0, 1, 2] rfl)
      · replace hf1 := o_f hc hf1
        refine lv_aload_n hx hb d_Run_shortLetters_22 rfl (lv_at hl 0 rfl) ?_
        refine g_Run_23 S hX hH hZ hk d_Run_shortLetters_23 ?_
        refine lv_iload_n hx hb d_Run_shortLetters_26 rfl (lv_at hl 2 rfl) ?_
        refine q_iald (j := x2.toNatClampNeg) hx hb hX hH (aa_Run_4 hZ hk) hn2 rfl d_Run_shortLetters_27 ?_
        refine q_cSi (As := [.int (M (k + 4) x2.toNatClampNeg)]) (rest := []) S hX hH (c_Chain_size l hI M (M (k + 4) x2.toNatClampNeg) rfl) (cw_Run_172 S.2.2.2.2 (Nat.le_trans (Nat.le_of_ble_eq_true rfl) hR.1) (Nat.le_trans (Nat.le_of_ble_eq_true rfl) hR.2)) rfl hl.1 rfl (Nat.le_of_ble_eq_true rfl) d_Run_shortLetters_28 ⟨Nat.zero_le _, Nat.zero_le _⟩ (fun H locs hH => ?_)
        refine lv_aload_n hx hb d_Run_shortLetters_31 rfl (lv_at hl 0 rfl) ?_
        refine g_Run_26 S hX hH hZ hk d_Run_shortLetters_32 ?_
        refine lv_iload_n hx hb d_Run_shortLetters_35 rfl (lv_at hl 2 rfl) ?_
        refine q_iald (j := x2.toNatClampNeg) hx hb hX hH (aa_Run_5 hZ hk) hn2 rfl d_Run_shortLetters_36 ?_
        refine lv_icmp_ge (tgt := 44) hx hb d_Run_shortLetters_37 (by decide) (fun hc => ?_) (fun hc => ?_)
        · replace hf1 := o_t hc hf1
          exact J44 _ _ _ _ _ hf1 hH (lv_sub hl [0, 1, 2] rfl)
        · replace hf1 := o_f hc hf1
          refine lv_iconst (v := (1 : Int32)) hx hb d_Run_shortLetters_40 (by decide) ?_
          refine lv_goto (tgt := 45) hx hb d_Run_shortLetters_41 (by decide) ?_
          exact J45 _ _ _ _ _ _ hf1 hH (lv_sub hl [0, 1, 2] rfl)
  refine lv_iconst (v := (0 : Int32)) hx hb d_Run_shortLetters_0 (by decide) ?_
  refine lv_istore_n (lv' := [(1, .int (0 : Int32)), (0, .ref (Z.2.2.1 k))]) hx hb d_Run_shortLetters_1 rfl hl (by decide) rfl (fun ls hl => ?_)
  refine lv_iconst (v := (0 : Int32)) hx hb d_Run_shortLetters_2 (by decide) ?_
  refine lv_istore_n (lv' := [(2, .int (0 : Int32)), (1, .int (0 : Int32)), (0, .ref (Z.2.2.1 k))]) hx hb d_Run_shortLetters_3 rfl hl (by decide) rfl (fun ls hl => ?_)
  exact J4 _ _ _ _ _ hf0 hH (lv_sub hl [2, 1, 0] rfl)
theorem c_Run_shortLetters (l : Launch) {Z : WD} (hI : wI Z) (hZ : IsC Z) (k : Nat) (M : Mem) (hk : isRun k) {r : Int32} (hf : f_Run_shortLetters k M = some r) : Ci l Z y_Run_shortLetters b_Run_shortLetters 4 (some .int) 2 42 [.ref (Z.2.2.1 k)] M M r := by
  refine Met.ofW (cc := b_Run_shortLetters) (maxL := 4) (ret := (some .int)) (by decide) rfl ?_
  intro p e s m args below meth c s₁ B hml hv
  obtain ⟨rfl, hP, hX⟩ := hv
  have S : CallFix p m c b_Run_shortLetters 4 s ([.ref (Z.2.2.1 k)] : List Value).toArray gtb R_Run := ⟨B.exec, B.bytes, hml, findClass_of_methodNamed B.named, fun w hw => atoms_spec (ws := .code y_Run_shortLetters b_Run_shortLetters 4 (some .int) :: gtb) B.pre w (List.mem_cons_of_mem _ hw)⟩
  have hl := lv_entry ([.ref (Z.2.2.1 k)]) (n := 4) (Nat.le_of_ble_eq_true rfl)
  rw [lg_entry_eq]
  exact wk_Run_shortLetters hI hZ k M hk S hX ⟨Nat.le_refl _, Nat.le_refl _⟩ (fun pc H locs ls hH d => q_ri S.1 S.2.1 B.returns B.notSynchronized hH rfl rfl d) hf ⟨hP, va_S.rf⟩ hl
