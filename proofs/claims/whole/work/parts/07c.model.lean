theorem cw_MM_279 {R : Room} {s : State} {args : Array Value} (ht : ∀ w ∈ gtb, w.before args s = true) (h1 : 2 + 1 ≤ R.frames) (h2 : 8 + (11 + 11) + 46 ≤ R.locals) : CallW R s args R_MM R_MM 279 y_MM_sends b_MM_sends 11 none (.code y_MM_sends b_MM_sends 11 none :: gtb) { frames := 2, cells := 0, slots := 0, locals := 46 } 0 0 5 := cwV 5 ht (gV w6_34 w6_36 ws_MM_sends w1_10 w6_37) rfl rfl rfl ⟨rfl, by decide, by decide, by decide +kernel⟩ ⟨h1, h2⟩
noncomputable def f_MM_sendsAll_L3 (x1 : Int32) (x2 : Int32) (x3 : Int32) (x4 : Int32) (x5 : Int32) (M : Mem) : Option ((Int32 × Mem) ⊕ Mem) := if (M 1 0) ≤ x5 then some (.inr M) else 
    if x5 = x2 then some (.inl (x5 + (1 : Int32), M)) else bnd (f_MM_sends M x1 x2 x5 x3 x4) (fun M2 => some (.inl (x5 + (1 : Int32), M2)))
noncomputable def f_MM_sendsAll_W3 (x1 : Int32) (x2 : Int32) (x3 : Int32) (x4 : Int32) (u : (Int32 × Mem)) : Option Mem := loop (fun t => f_MM_sendsAll_L3 x1 x2 x3 x4 t.1 t.2) u
noncomputable def f_MM_sendsAll_J3 (M : Mem) (x1 : Int32) (x2 : Int32) (x3 : Int32) (x4 : Int32) (x5 : Int32) : Option (Mem) := bnd (f_MM_sendsAll_W3 x1 x2 x3 x4 (x5, M)) (fun e3 => some e3)
noncomputable def f_MM_sendsAll (M : Mem) (x1 : Int32) (x2 : Int32) (x3 : Int32) (x4 : Int32) : Option Mem := f_MM_sendsAll_J3 M x1 x2 x3 x4 (0 : Int32)
set_option maxHeartbeats 4000000 in
theorem wk_MM_sendsAll {l : Launch} {Z : WD} (hI : wI Z) (hZ : IsM Z) (M : Mem) (x1 : Int32) (x2 : Int32) (x3 : Int32) (x4 : Int32) {M' : Mem} {p : Program} {e : Env} {R : Room} {s : State} {m : MethodId} {args : Array Value} {below : List Frame} {meth : Method} {c : Code} {H : Heap} {locs : List Loc} {ls : Array Slot} {Q : State → Prop} (S : CallFix p m c b_MM_sendsAll 6 s args gtb R_MM) (hX : wX Z s) (hR : 3 ≤ R.frames ∧ 76 ≤ R.locals) (hQ : ∀ (pc : Nat) (H : Heap) (locs : List Loc) (ls : Array Slot), HW Z M' s H locs → decode b_MM_sendsAll pc = .ok (.return_, 1) → W p l e R s m args below meth c H locs 0 0 Q (F0 m pc ls [])) (hf0 : f_MM_sendsAll M x1 x2 x3 x4 = some M') (hH : HW Z M s H locs) (hl : lv_has ls 6 [(0, .ref (Z.2.2.1 0)), (1, .int x1), (2, .int x2), (3, .int x3), (4, .int x4)]) : W p l e R s m args below meth c H locs 0 0 Q (F0 m 0 ls []) := by
  have hx := S.1
  have hb := S.2.1
  have hown := S.2.2.2.1
  have ht := S.2.2.2.2
  unfold f_MM_sendsAll at hf0
  have J3 : ∀ (M : Mem) (x1 : Int32) (x2 : Int32) (x3 : Int32) (x4 : Int32) (x5 : Int32) (H : Heap) (locs : List Loc) (ls : Array Slot), f_MM_sendsAll_J3 M x1 x2 x3 x4 x5 = some M' → HW Z M s H locs → lv_has ls 6 [(0, .ref (Z.2.2.1 0)), (1, .int x1), (2, .int x2), (3, .int x3), (4, .int x4), (5, .int x5)] → W p l e R s m args below meth c H locs 0 0 Q (F0 m 3 ls []) := by
    intro M x1 x2 x3 x4 x5 H locs ls hf0 hH hl
    unfold f_MM_sendsAll_J3 at hf0
    obtain ⟨e3, he3, hf0⟩ := o_b hf0
    unfold f_MM_sendsAll_W3 at he3
    refine loop_W (fun t => ∀ (H : Heap) (locs : List Loc) (ls : Array Slot), HW Z t.2 s H locs → lv_has ls 6 [(0, .ref (Z.2.2.1 0)), (1, .int x1), (2, .int x2), (3, .int x3), (4, .int x4), (5, .int t.1)] → W p l e R s m args below meth c H locs 0 0 Q (F0 m 3 ls [])) ?_ he3 H locs ls hH hl
    rintro ⟨x5, M⟩ o1 hf1 hG1 hR1 H locs ls hH hl
    replace hH : HW Z M s H locs := hH
    replace hl : lv_has ls 6 [(0, .ref (Z.2.2.1 0)), (1, .int x1), (2, .int x2), (3, .int x3), (4, .int x4), (5, .int x5)] := hl
    replace hf1 : f_MM_sendsAll_L3 x1 x2 x3 x4 x5 M = some o1 := hf1
    unfold f_MM_sendsAll_L3 at hf1
    refine lv_iload hx hb d_MM_sendsAll_3 (lv_at hl 5 rfl) ?_
    refine lv_aload_n hx hb d_MM_sendsAll_5 rfl (lv_at hl 0 rfl) ?_
    refine g_MM_9 S hX hH hZ d_MM_sendsAll_6 ?_
    refine lv_iconst (v := (0 : Int32)) hx hb d_MM_sendsAll_9 (by decide) ?_
    refine q_iald (j := 0) hx hb hX hH (aa_MM_1 hZ) (vp_c (by decide)) (by decide) d_MM_sendsAll_10 ?_
    refine lv_icmp_ge (tgt := 37) hx hb d_MM_sendsAll_11 (by decide) (fun hc => ?_) (fun hc => ?_)
    · replace hf1 := o_t hc hf1
      obtain rfl := hR1 _ (o_v hf1).symm
      obtain rfl := o_v hf0
      exact hQ _ _ _ _ hH d_MM_sendsAll_37
    · replace hf1 := o_f hc hf1
      refine lv_iload hx hb d_MM_sendsAll_14 (lv_at hl 5 rfl) ?_
      refine lv_iload_n hx hb d_MM_sendsAll_16 rfl (lv_at hl 2 rfl) ?_
      refine lv_icmp_eq (tgt := 31) hx hb d_MM_sendsAll_17 (by decide) (fun hc => ?_) (fun hc => ?_)
      · replace hf1 := o_t hc hf1
        refine lv_iinc (v := x5 + (1 : Int32)) (lv' := [(5, .int (x5 + (1 : Int32))), (0, .ref (Z.2.2.1 0)), (1, .int x1), (2, .int x2), (3, .int x3), (4, .int x4)]) hx hb d_MM_sendsAll_31 hl (k := 5) rfl rfl (by decide) rfl (fun ls hl => ?_)
        refine lv_goto (tgt := 3) hx hb d_MM_sendsAll_34 (by decide) ?_
        exact hG1 _ (o_v hf1).symm _ _ _ hH (lv_sub hl [1, 2, 3, 4, 5, 0] rfl)
      · replace hf1 := o_f hc hf1
        refine lv_aload_n hx hb d_MM_sendsAll_20 rfl (lv_at hl 0 rfl) ?_
        refine lv_iload_n hx hb d_MM_sendsAll_21 rfl (lv_at hl 1 rfl) ?_
        refine lv_iload_n hx hb d_MM_sendsAll_22 rfl (lv_at hl 2 rfl) ?_
        refine lv_iload hx hb d_MM_sendsAll_23 (lv_at hl 5 rfl) ?_
        refine lv_iload_n hx hb d_MM_sendsAll_25 rfl (lv_at hl 3 rfl) ?_
        refine lv_iload hx hb d_MM_sendsAll_26 (lv_at hl 4 rfl) ?_
        obtain ⟨M2, hc1, hf1⟩ := o_b hf1
        refine q_cVv (As := [.int x1, .int x2, .int x5, .int x3, .int x4]) (rest := []) S hX hH (c_MM_sends l hI hZ M x1 x2 x5 x3 x4 hc1) (cw_MM_279 S.2.2.2.2 (Nat.le_trans (Nat.le_of_ble_eq_true rfl) hR.1) (Nat.le_trans (Nat.le_of_ble_eq_true rfl) hR.2)) (rc_MM hX hH hZ) rfl hl.1 rfl (Nat.le_of_ble_eq_true rfl) d_MM_sendsAll_28 ⟨Nat.zero_le _, Nat.zero_le _⟩ (fun H locs hH => ?_)
        refine lv_iinc (v := x5 + (1 : Int32)) (lv' := [(5, .int (x5 + (1 : Int32))), (0, .ref (Z.2.2.1 0)), (1, .int x1), (2, .int x2), (3, .int x3), (4, .int x4)]) hx hb d_MM_sendsAll_31 hl (k := 5) rfl rfl (by decide) rfl (fun ls hl => ?_)
        refine lv_goto (tgt := 3) hx hb d_MM_sendsAll_34 (by decide) ?_
        exact hG1 _ (o_v hf1).symm _ _ _ hH (lv_sub hl [1, 2, 3, 4, 5, 0] rfl)
  refine lv_iconst (v := (0 : Int32)) hx hb d_MM_sendsAll_0 (by decide) ?_
  refine lv_istore (lv' := [(5, .int (0 : Int32)), (0, .ref (Z.2.2.1 0)), (1, .int x1), (2, .int x2), (3, .int x3), (4, .int x4)]) hx hb d_MM_sendsAll_1 hl (by decide) rfl (fun ls hl => ?_)
  exact J3 _ _ _ _ _ _ _ _ _ hf0 hH (lv_sub hl [1, 2, 3, 4, 5, 0] rfl)
theorem c_MM_sendsAll (l : Launch) {Z : WD} (hI : wI Z) (hZ : IsM Z) (M : Mem) (x1 : Int32) (x2 : Int32) (x3 : Int32) (x4 : Int32) {M' : Mem} (hf : f_MM_sendsAll M x1 x2 x3 x4 = some M') : Cv l Z y_MM_sendsAll b_MM_sendsAll 6 none 3 76 [.ref (Z.2.2.1 0), .int x1, .int x2, .int x3, .int x4] M M' := by
  refine Met.ofW (cc := b_MM_sendsAll) (maxL := 6) (ret := none) (by decide) rfl ?_
  intro p e s m args below meth c s₁ B hml hv
  obtain ⟨rfl, hP, hX⟩ := hv
  have S : CallFix p m c b_MM_sendsAll 6 s ([.ref (Z.2.2.1 0), .int x1, .int x2, .int x3, .int x4] : List Value).toArray gtb R_MM := ⟨B.exec, B.bytes, hml, findClass_of_methodNamed B.named, fun w hw => atoms_spec (ws := .code y_MM_sendsAll b_MM_sendsAll 6 none :: gtb) B.pre w (List.mem_cons_of_mem _ hw)⟩
  have hl := lv_entry ([.ref (Z.2.2.1 0), .int x1, .int x2, .int x3, .int x4]) (n := 6) (Nat.le_of_ble_eq_true rfl)
  rw [lg_entry_eq]
  exact wk_MM_sendsAll hI hZ M x1 x2 x3 x4 S hX ⟨Nat.le_refl _, Nat.le_refl _⟩ (fun pc H locs ls hH d => q_rv S.1 S.2.1 B.returns B.notSynchronized hH rfl d) hf ⟨hP, va_S.rf⟩ hl
noncomputable def f_MM_rank_J78 (M : Mem) (x1 : Int32) (x2 : Int32) (x4 : Int32) (s0 : Int32) (s1 : Int32) : Option ((Int32 × Int32) ⊕ Int32) := some (.inl (s1 + (f_MM_truth s0), x4 + (1 : Int32)))
noncomputable def f_MM_rank_J77 (M : Mem) (x1 : Int32) (x2 : Int32) (x4 : Int32) (s0 : Int32) : Option ((Int32 × Int32) ⊕ Int32) := f_MM_rank_J78 M x1 x2 x4 (0 : Int32) s0
noncomputable def f_MM_rank_J73 (M : Mem) (x1 : Int32) (x2 : Int32) (x4 : Int32) (s0 : Int32) : Option ((Int32 × Int32) ⊕ Int32) := f_MM_rank_J78 M x1 x2 x4 (1 : Int32) s0
noncomputable def f_MM_rank_L5 (M : Mem) (x1 : Int32) (x2 : Int32) (x3 : Int32) (x4 : Int32) : Option ((Int32 × Int32) ⊕ Int32) := if (4 : Int32) ≤ x4 then some (.inr x3) else 
    gIn (f_MM_cell x1 x4) 32 (if x4 = x2 then f_MM_rank_J77 M x1 x2 x4 x3 else 
    if (M 17 (f_MM_cell x1 x4).toNatClampNeg) = (-1 : Int32) then f_MM_rank_J77 M x1 x2 x4 x3 else 
    gIn (f_MM_cell x1 x2) 32 (if (M 17 (f_MM_cell x1 x4).toNatClampNeg) < (M 17 (f_MM_cell x1 x2).toNatClampNeg) then f_MM_rank_J73 M x1 x2 x4 x3 else 
    if (M 17 (f_MM_cell x1 x4).toNatClampNeg) = (M 17 (f_MM_cell x1 x2).toNatClampNeg) then if x2 ≤ x4 then f_MM_rank_J77 M x1 x2 x4 x3 else f_MM_rank_J73 M x1 x2 x4 x3 else f_MM_rank_J77 M x1 x2 x4 x3))
noncomputable def f_MM_rank_W5 (M : Mem) (x1 : Int32) (x2 : Int32) (u : (Int32 × Int32)) : Option Int32 := loop (fun t => f_MM_rank_L5 M x1 x2 t.1 t.2) u
noncomputable def f_MM_rank_J5 (M : Mem) (x1 : Int32) (x2 : Int32) (x3 : Int32) (x4 : Int32) : Option (Int32) := bnd (f_MM_rank_W5 M x1 x2 (x3, x4)) (fun e5 => some e5)
noncomputable def f_MM_rank (M : Mem) (x1 : Int32) (x2 : Int32) : Option Int32 := f_MM_rank_J5 M x1 x2 (0 : Int32) (0 : Int32)
set_option maxHeartbeats 4000000 in
theorem wk_MM_rank {l : Launch} {Z : WD} (hI : wI Z) (hZ : IsM Z) (M : Mem) (x1 : Int32) (x2 : Int32) {r : Int32} {p : Program} {e : Env} {R : Room} {s : State} {m : MethodId} {args : Array Value} {below : List Frame} {meth : Method} {c : Code} {H : Heap} {locs : List Loc} {ls : Array Slot} {Q : State → Prop} (S : CallFix p m c b_MM_rank 6 s args gtb R_MM) (hX : wX Z s) (hR : 1 ≤ R.frames ∧ 21 ≤ R.locals) (hQ : ∀ (pc : Nat) (H : Heap) (locs : List Loc) (ls : Array Slot), HW Z M s H locs → decode b_MM_rank pc = .ok (.ireturn, 1) → W p l e R s m args below meth c H locs 0 0 Q (F0 m pc ls [.int r])) (hf0 : f_MM_rank M x1 x2 = some r) (hH : HW Z M s H locs) (hl : lv_has ls 6 [(0, .ref (Z.2.2.1 0)), (1, .int x1), (2, .int x2)]) : W p l e R s m args below meth c H locs 0 0 Q (F0 m 0 ls []) := by
  have hx := S.1
  have hb := S.2.1
  have hown := S.2.2.2.1
  have ht := S.2.2.2.2
  unfold f_MM_rank at hf0
  have J5 : ∀ (x1 : Int32) (x2 : Int32) (x3 : Int32) (x4 : Int32) (H : Heap) (locs : List Loc) (ls : Array Slot), f_MM_rank_J5 M x1 x2 x3 x4 = some r → HW Z M s H locs → lv_has ls 6 [(0, .ref (Z.2.2.1 0)), (1, .int x1), (2, .int x2), (3, .int x3), (4, .int x4)] → W p l e R s m args below meth c H locs 0 0 Q (F0 m 5 ls []) := by
    intro x1 x2 x3 x4 H locs ls hf0 hH hl
    unfold f_MM_rank_J5 at hf0
    obtain ⟨e5, he5, hf0⟩ := o_b hf0
    unfold f_MM_rank_W5 at he5
    refine loop_W (fun t => ∀ (H : Heap) (locs : List Loc) (ls : Array Slot), HW Z M s H locs → lv_has ls 6 [(0, .ref (Z.2.2.1 0)), (1, .int x1), (2, .int x2), (3, .int t.1), (4, .int t.2)] → W p l e R s m args below meth c H locs 0 0 Q (F0 m 5 ls [])) ?_ he5 H locs ls hH hl
    rintro ⟨x3, x4⟩ o1 hf1 hG1 hR1 H locs ls hH hl
    replace hH : HW Z M s H locs := hH
    replace hl : lv_has ls 6 [(0, .ref (Z.2.2.1 0)), (1, .int x1), (2, .int x2), (3, .int x3), (4, .int x4)] := hl
    replace hf1 : f_MM_rank_L5 M x1 x2 x3 x4 = some o1 := hf1
    unfold f_MM_rank_L5 at hf1
    have J78 : ∀ (x4 : Int32) (s0 : Int32) (s1 : Int32) (H : Heap) (locs : List Loc) (ls : Array Slot), f_MM_rank_J78 M x1 x2 x4 s0 s1 = some o1 → HW Z M s H locs → lv_has ls 6 [(0, .ref (Z.2.2.1 0)), (1, .int x1), (2, .int x2), (4, .int x4)] → W p l e R s m args below meth c H locs 0 0 Q (F0 m 78 ls [.int s0, .int s1]) := by
      intro x4 s0 s1 H locs ls hf1 hH hl
      unfold f_MM_rank_J78 at hf1
      refine q_cSi (As := [.int s0]) (rest := [.int s1]) S hX hH (c_MM_truth l hI M s0 rfl) (cw_MM_150 S.2.2.2.2 (Nat.le_trans (Nat.le_of_ble_eq_true rfl) hR.1) (Nat.le_trans (Nat.le_of_ble_eq_true rfl) hR.2)) rfl hl.1 rfl (Nat.le_of_ble_eq_true rfl) d_MM_rank_78 ⟨Nat.zero_le _, Nat.zero_le _⟩ (fun H locs hH => ?_)
      refine lv_iadd hx hb d_MM_rank_81 ?_
      refine lv_istore_n (lv' := [(3, .int (s1 + (f_MM_truth s0))), (0, .ref (Z.2.2.1 0)), (1, .int x1), (2, .int x2), (4, .int x4)]) hx hb d_MM_rank_82 rfl hl (by decide) rfl (fun ls hl => ?_)
      refine lv_iinc (v := x4 + (1 : Int32)) (lv' := [(4, .int (x4 + (1 : Int32))), (3, .int (s1 + (f_MM_truth s0))), (0, .ref (Z.2.2.1 0)), (1, .int x1), (2, .int x2)]) hx hb d_MM_rank_83 hl (k := 4) rfl rfl (by decide) rfl (fun ls hl => ?_)
      refine lv_goto (tgt := 5) hx hb d_MM_rank_86 (by decide) ?_
      exact hG1 _ (o_v hf1).symm _ _ _ hH (lv_sub hl [2, 3, 4, 1, 0] rfl)
    have J77 : ∀ (x4 : Int32) (s0 : Int32) (H : Heap) (locs : List Loc) (ls : Array Slot), f_MM_rank_J77 M x1 x2 x4 s0 = some o1 → HW Z M s H locs → lv_has ls 6 [(0, .ref (Z.2.2.1 0)), (1, .int x1), (2, .int x2), (4, .int x4)] → W p l e R s m args below meth c H locs 0 0 Q (F0 m 77 ls [.int s0]) := by
      intro x4 s0 H locs ls hf1 hH hl
      unfold f_MM_rank_J77 at hf1
      refine lv_iconst (v := (0 : Int32)) hx hb d_MM_rank_77 (by decide) ?_
      exact J78 _ _ _ _ _ _ hf1 hH (lv_sub hl [0, 1, 2, 3] rfl)
    have J73 : ∀ (x4 : Int32) (s0 : Int32) (H : Heap) (locs : List Loc) (ls : Array Slot), f_MM_rank_J73 M x1 x2 x4 s0 = some o1 → HW Z M s H locs → lv_has ls 6 [(0, .ref (Z.2.2.1 0)), (1, .int x1), (2, .int x2), (4, .int x4)] → W p l e R s m args below meth c H locs 0 0 Q (F0 m 73 ls [.int s0]) := by
      intro x4 s0 H locs ls hf1 hH hl
      unfold f_MM_rank_J73 at hf1
      refine lv_iconst (v := (1 : Int32)) hx hb d_MM_rank_73 (by decide) ?_
      refine lv_goto (tgt := 78) hx hb d_MM_rank_74 (by decide) ?_
      exact J78 _ _ _ _ _ _ hf1 hH (lv_sub hl [0, 1, 2, 3] rfl)
    refine lv_iload hx hb d_MM_rank_5 (lv_at hl 4 rfl) ?_
    refine lv_iconst (v := (4 : Int32)) hx hb d_MM_rank_7 (by decide) ?_
    refine lv_icmp_ge (tgt := 89) hx hb d_MM_rank_8 (by decide) (fun hc => ?_) (fun hc => ?_)
    · replace hf1 := o_t hc hf1
      refine lv_iload_n hx hb d_MM_rank_89 rfl (lv_at hl 3 rfl) ?_
      obtain rfl := hR1 _ (o_v hf1).symm
      obtain rfl := o_v hf0
      exact hQ _ _ _ _ hH d_MM_rank_90
    · replace hf1 := o_f hc hf1
      refine lv_aload_n hx hb d_MM_rank_11 rfl (lv_at hl 0 rfl) ?_
      refine g_MM_60 S hX hH hZ d_MM_rank_12 ?_
      refine lv_iload_n hx hb d_MM_rank_15 rfl (lv_at hl 1 rfl) ?_
      refine lv_iload hx hb d_MM_rank_16 (lv_at hl 4 rfl) ?_
      refine q_cSi (As := [.int x1, .int x4]) (rest := [.ref (Z.2.2.1 17)]) S hX hH (c_MM_cell l hI M x1 x4 rfl) (cw_MM_276 S.2.2.2.2 (Nat.le_trans (Nat.le_of_ble_eq_true rfl) hR.1) (Nat.le_trans (Nat.le_of_ble_eq_true rfl) hR.2)) rfl hl.1 rfl (Nat.le_of_ble_eq_true rfl) d_MM_rank_18 ⟨Nat.zero_le _, Nat.zero_le _⟩ (fun H locs hH => ?_)
      obtain ⟨hn1, hf1⟩ := o_in hf1
      refine q_iald (j := (f_MM_cell x1 x4).toNatClampNeg) hx hb hX hH (aa_MM_17 hZ) hn1 rfl d_MM_rank_21 ?_
      refine lv_istore (lv' := [(5, .int (M 17 (f_MM_cell x1 x4).toNatClampNeg)), (0, .ref (Z.2.2.1 0)), (1, .int x1), (2, .int x2), (3, .int x3), (4, .int x4)]) hx hb d_MM_rank_22 hl (by decide) rfl (fun ls hl => ?_)
      refine lv_iload_n hx hb d_MM_rank_24 rfl (lv_at hl 4 rfl) ?_
      refine lv_iload hx hb d_MM_rank_25 (lv_at hl 5 rfl) ?_
      refine lv_iload_n hx hb d_MM_rank_27 rfl (lv_at hl 3 rfl) ?_
      refine lv_icmp_eq (tgt := 77) hx hb d_MM_rank_28 (by decide) (fun hc => ?_) (fun hc => ?_)
      · replace hf1 := o_t hc hf1
        exact J77 _ _ _ _ _ hf1 hH (lv_sub hl [1, 2, 3, 5] rfl)
      · replace hf1 := o_f hc hf1
        refine lv_iload hx hb d_MM_rank_31 (lv_at hl 0 rfl) ?_
        refine lv_iconst (v := (-1 : Int32)) hx hb d_MM_rank_33 (by decide) ?_
        refine lv_icmp_eq (tgt := 77) hx hb d_MM_rank_34 (by decide) (fun hc => ?_) (fun hc => ?_)
        · replace hf1 := o_t hc hf1
          exact J77 _ _ _ _ _ hf1 hH (lv_sub hl [1, 2, 3, 5] rfl)
        · replace hf1 := o_f hc hf1
          refine lv_iload hx hb d_MM_rank_37 (lv_at hl 0 rfl) ?_
          refine lv_aload_n hx hb d_MM_rank_39 rfl (lv_at hl 1 rfl) ?_
          refine g_MM_60 S hX hH hZ d_MM_rank_40 ?_
          refine lv_iload_n hx hb d_MM_rank_43 rfl (lv_at hl 2 rfl) ?_
          refine lv_iload_n hx hb d_MM_rank_44 rfl (lv_at hl 3 rfl) ?_
          refine q_cSi (As := [.int x1, .int x2]) (rest := [.ref (Z.2.2.1 17), .int (M 17 (f_MM_cell x1 x4).toNatClampNeg), .int x3]) S hX hH (c_MM_cell l hI M x1 x2 rfl) (cw_MM_276 S.2.2.2.2 (Nat.le_trans (Nat.le_of_ble_eq_true rfl) hR.1) (Nat.le_trans (Nat.le_of_ble_eq_true rfl) hR.2)) rfl hl.1 rfl (Nat.le_of_ble_eq_true rfl) d_MM_rank_45 ⟨Nat.zero_le _, Nat.zero_le _⟩ (fun H locs hH => ?_)
          obtain ⟨hn2, hf1⟩ := o_in hf1
          refine q_iald (j := (f_MM_cell x1 x2).toNatClampNeg) hx hb hX hH (aa_MM_17 hZ) hn2 rfl d_MM_rank_48 ?_
          refine lv_icmp_lt (tgt := 73) hx hb d_MM_rank_49 (by decide) (fun hc => ?_) (fun hc => ?_)
          · replace hf1 := o_t hc hf1
            exact J73 _ _ _ _ _ hf1 hH (lv_sub hl [1, 2, 3, 5] rfl)
          · replace hf1 := o_f hc hf1
            refine lv_iload hx hb d_MM_rank_52 (lv_at hl 0 rfl) ?_
            refine lv_aload_n hx hb d_MM_rank_54 rfl (lv_at hl 1 rfl) ?_
            refine g_MM_60 S hX hH hZ d_MM_rank_55 ?_
            refine lv_iload_n hx hb d_MM_rank_58 rfl (lv_at hl 2 rfl) ?_
            refine lv_iload_n hx hb d_MM_rank_59 rfl (lv_at hl 3 rfl) ?_
            refine q_cSi (As := [.int x1, .int x2]) (rest := [.ref (Z.2.2.1 17), .int (M 17 (f_MM_cell x1 x4).toNatClampNeg), .int x3]) S hX hH (c_MM_cell l hI M x1 x2 rfl) (cw_MM_276 S.2.2.2.2 (Nat.le_trans (Nat.le_of_ble_eq_true rfl) hR.1) (Nat.le_trans (Nat.le_of_ble_eq_true rfl) hR.2)) rfl hl.1 rfl (Nat.le_of_ble_eq_true rfl) d_MM_rank_60 ⟨Nat.zero_le _, Nat.zero_le _⟩ (fun H locs hH => ?_)
            refine q_iald (j := (f_MM_cell x1 x2).toNatClampNeg) hx hb hX hH (aa_MM_17 hZ) hn2 rfl d_MM_rank_63 ?_
            refine lv_icmp_ne (tgt := 77) hx hb d_MM_rank_64 (by decide) (fun hc => ?_) (fun hc => ?_)
            · replace hf1 := o_f hc hf1
              exact J77 _ _ _ _ _ hf1 hH (lv_sub hl [1, 2, 3, 5] rfl)
            · replace hf1 := o_t hc hf1
              refine lv_iload hx hb d_MM_rank_67 (lv_at hl 5 rfl) ?_
              refine lv_iload_n hx hb d_MM_rank_69 rfl (lv_at hl 3 rfl) ?_
              refine lv_icmp_ge (tgt := 77) hx hb d_MM_rank_70 (by decide) (fun hc => ?_) (fun hc => ?_)
              · replace hf1 := o_t hc hf1
                exact J77 _ _ _ _ _ hf1 hH (lv_sub hl [1, 2, 3, 5] rfl)
              · replace hf1 := o_f hc hf1
                exact J73 _ _ _ _ _ hf1 hH (lv_sub hl [1, 2, 3, 5] rfl)
  refine lv_iconst (v := (0 : Int32)) hx hb d_MM_rank_0 (by decide) ?_
  refine lv_istore_n (lv' := [(3, .int (0 : Int32)), (0, .ref (Z.2.2.1 0)), (1, .int x1), (2, .int x2)]) hx hb d_MM_rank_1 rfl hl (by decide) rfl (fun ls hl => ?_)
  refine lv_iconst (v := (0 : Int32)) hx hb d_MM_rank_2 (by decide) ?_
  refine lv_istore (lv' := [(4, .int (0 : Int32)), (3, .int (0 : Int32)), (0, .ref (Z.2.2.1 0)), (1, .int x1), (2, .int x2)]) hx hb d_MM_rank_3 hl (by decide) rfl (fun ls hl => ?_)
  exact J5 _ _ _ _ _ _ _ hf0 hH (lv_sub hl [2, 3, 4, 1, 0] rfl)
theorem c_MM_rank (l : Launch) {Z : WD} (hI : wI Z) (hZ : IsM Z) (M : Mem) (x1 : Int32) (x2 : Int32) {r : Int32} (hf : f_MM_rank M x1 x2 = some r) : Ci l Z y_MM_rank b_MM_rank 6 (some .int) 1 21 [.ref (Z.2.2.1 0), .int x1, .int x2] M M r := by
  refine Met.ofW (cc := b_MM_rank) (maxL := 6) (ret := (some .int)) (by decide) rfl ?_
  intro p e s m args below meth c s₁ B hml hv
  obtain ⟨rfl, hP, hX⟩ := hv
  have S : CallFix p m c b_MM_rank 6 s ([.ref (Z.2.2.1 0), .int x1, .int x2] : List Value).toArray gtb R_MM := ⟨B.exec, B.bytes, hml, findClass_of_methodNamed B.named, fun w hw => atoms_spec (ws := .code y_MM_rank b_MM_rank 6 (some .int) :: gtb) B.pre w (List.mem_cons_of_mem _ hw)⟩
  have hl := lv_entry ([.ref (Z.2.2.1 0), .int x1, .int x2]) (n := 6) (Nat.le_of_ble_eq_true rfl)
  rw [lg_entry_eq]
  exact wk_MM_rank hI hZ M x1 x2 S hX ⟨Nat.le_refl _, Nat.le_refl _⟩ (fun pc H locs ls hH d => q_ri S.1 S.2.1 B.returns B.notSynchronized hH rfl rfl d) hf ⟨hP, va_S.rf⟩ hl
theorem cw_MM_282 {R : Room} {s : State} {args : Array Value} (ht : ∀ w ∈ gtb, w.before args s = true) (h1 : 1 + 1 ≤ R.frames) (h2 : 8 + (6 + 11) + 21 ≤ R.locals) : CallW R s args R_MM R_MM 282 y_MM_rank b_MM_rank 6 (some .int) (.code y_MM_rank b_MM_rank 6 (some .int) :: gtb) { frames := 1, cells := 0, slots := 0, locals := 21 } 0 0 2 := cwV 2 ht (gV w6_42 w6_44 ws_MM_rank w1_10 w6_45) rfl rfl rfl ⟨rfl, by decide, by decide, by decide +kernel⟩ ⟨h1, h2⟩
noncomputable def f_MM_relays_J32 (M : Mem) : Option (Bool) := some false
noncomputable def f_MM_relays (M : Mem) (x1 : Int32) (x2 : Int32) : Option Bool := 
    gIn (f_MM_cell x1 x2) 32 (if (M 17 (f_MM_cell x1 x2).toNatClampNeg) ≤ 0 then f_MM_relays_J32 M else bnd (f_MM_rank M x1 x2) (fun y3 => if (M 1 5) ≤ y3 then f_MM_relays_J32 M else some true))
set_option maxHeartbeats 4000000 in
theorem wk_MM_relays {l : Launch} {Z : WD} (hI : wI Z) (hZ : IsM Z) (M : Mem) (x1 : Int32) (x2 : Int32) {r : Bool} {p : Program} {e : Env} {R : Room} {s : State} {m : MethodId} {args : Array Value} {below : List Frame} {meth : Method} {c : Code} {H : Heap} {locs : List Loc} {ls : Array Slot} {Q : State → Prop} (S : CallFix p m c b_MM_relays 3 s args gtb R_MM) (hX : wX Z s) (hR : 2 ≤ R.frames ∧ 46 ≤ R.locals) (hQ : ∀ (pc : Nat) (H : Heap) (locs : List Loc) (ls : Array Slot), HW Z M s H locs → decode b_MM_relays pc = .ok (.ireturn, 1) → W p l e R s m args below meth c H locs 0 0 Q (F0 m pc ls [.int (bI r)])) (hf0 : f_MM_relays M x1 x2 = some r) (hH : HW Z M s H locs) (hl : lv_has ls 3 [(0, .ref (Z.2.2.1 0)), (1, .int x1), (2, .int x2)]) : W p l e R s m args below meth c H locs 0 0 Q (F0 m 0 ls []) := by
  have hx := S.1
  have hb := S.2.1
  have hown := S.2.2.2.1
  have ht := S.2.2.2.2
  unfold f_MM_relays at hf0
  have J32 : ∀ (H : Heap) (locs : List Loc) (ls : Array Slot), f_MM_relays_J32 M = some r → HW Z M s H locs → lv_has ls 3 [] → W p l e R s m args below meth c H locs 0 0 Q (F0 m 32 ls []) := by
    intro H locs ls hf0 hH hl
    unfold f_MM_relays_J32 at hf0
    refine lv_iconst (v := (0 : Int32)) hx hb d_MM_relays_32 (by decide) ?_
    obtain rfl := o_v hf0
    exact hQ _ _ _ _ hH d_MM_relays_33
  refine lv_aload_n hx hb d_MM_relays_0 rfl (lv_at hl 0 rfl) ?_
  refine g_MM_60 S hX hH hZ d_MM_relays_1 ?_
  refine lv_iload_n hx hb d_MM_relays_4 rfl (lv_at hl 1 rfl) ?_
  refine lv_iload_n hx hb d_MM_relays_5 rfl (lv_at hl 2 rfl) ?_
  refine q_cSi (As := [.int x1, .int x2]) (rest := [.ref (Z.2.2.1 17)]) S hX hH (c_MM_cell l hI M x1 x2 rfl) (cw_MM_276 S.2.2.2.2 (Nat.le_trans (Nat.le_of_ble_eq_true rfl) hR.1) (Nat.le_trans (Nat.le_of_ble_eq_true rfl) hR.2)) rfl hl.1 rfl (Nat.le_of_ble_eq_true rfl) d_MM_relays_6 ⟨Nat.zero_le _, Nat.zero_le _⟩ (fun H locs hH => ?_)
  obtain ⟨hn1, hf0⟩ := o_in hf0
  refine q_iald (j := (f_MM_cell x1 x2).toNatClampNeg) hx hb hX hH (aa_MM_17 hZ) hn1 rfl d_MM_relays_9 ?_
  refine lv_if_le (tgt := 32) hx hb d_MM_relays_10 (by decide) (fun hc => ?_) (fun hc => ?_)
  · replace hf0 := o_t hc hf0
    exact J32 _ _ _ hf0 hH (lv_sub hl [] rfl)
  · replace hf0 := o_f hc hf0
    refine lv_aload_n hx hb d_MM_relays_13 rfl (lv_at hl 0 rfl) ?_
    refine lv_iload_n hx hb d_MM_relays_14 rfl (lv_at hl 1 rfl) ?_
    refine lv_iload_n hx hb d_MM_relays_15 rfl (lv_at hl 2 rfl) ?_
    obtain ⟨y3, hc2, hf0⟩ := o_b hf0
    refine q_cVi (As := [.int x1, .int x2]) (rest := []) S hX hH (c_MM_rank l hI hZ M x1 x2 hc2) (cw_MM_282 S.2.2.2.2 (Nat.le_trans (Nat.le_of_ble_eq_true rfl) hR.1) (Nat.le_trans (Nat.le_of_ble_eq_true rfl) hR.2)) (rc_MM hX hH hZ) rfl hl.1 rfl (Nat.le_of_ble_eq_true rfl) d_MM_relays_16 ⟨Nat.zero_le _, Nat.zero_le _⟩ (fun H locs hH => ?_)
    refine lv_aload_n hx hb d_MM_relays_19 rfl (lv_at hl 0 rfl) ?_
    refine g_MM_9 S hX hH hZ d_MM_relays_20 ?_
    refine lv_iconst (v := (5 : Int32)) hx hb d_MM_relays_23 (by decide) ?_
    refine q_iald (j := 5) hx hb hX hH (aa_MM_1 hZ) (vp_c (by decide)) (by decide) d_MM_relays_24 ?_
    refine lv_icmp_ge (tgt := 32) hx hb d_MM_relays_25 (by decide) (fun hc => ?_) (fun hc => ?_)
    · replace hf0 := o_t hc hf0
      exact J32 _ _ _ hf0 hH (lv_sub hl [] rfl)
    · replace hf0 := o_f hc hf0
      refine lv_iconst (v := (1 : Int32)) hx hb d_MM_relays_28 (by decide) ?_
      refine lv_goto (tgt := 33) hx hb d_MM_relays_29 (by decide) ?_
      obtain rfl := o_v hf0
      exact hQ _ _ _ _ hH d_MM_relays_33
theorem c_MM_relays (l : Launch) {Z : WD} (hI : wI Z) (hZ : IsM Z) (M : Mem) (x1 : Int32) (x2 : Int32) {r : Bool} (hf : f_MM_relays M x1 x2 = some r) : Ci l Z y_MM_relays b_MM_relays 3 (some .boolean) 2 46 [.ref (Z.2.2.1 0), .int x1, .int x2] M M (bI r) := by
  refine Met.ofW (cc := b_MM_relays) (maxL := 3) (ret := (some .boolean)) (by decide) rfl ?_
  intro p e s m args below meth c s₁ B hml hv
  obtain ⟨rfl, hP, hX⟩ := hv
  have S : CallFix p m c b_MM_relays 3 s ([.ref (Z.2.2.1 0), .int x1, .int x2] : List Value).toArray gtb R_MM := ⟨B.exec, B.bytes, hml, findClass_of_methodNamed B.named, fun w hw => atoms_spec (ws := .code y_MM_relays b_MM_relays 3 (some .boolean) :: gtb) B.pre w (List.mem_cons_of_mem _ hw)⟩
  have hl := lv_entry ([.ref (Z.2.2.1 0), .int x1, .int x2]) (n := 3) (Nat.le_of_ble_eq_true rfl)
  rw [lg_entry_eq]
  exact wk_MM_relays hI hZ M x1 x2 S hX ⟨Nat.le_refl _, Nat.le_refl _⟩ (fun pc H locs ls hH d => q_rz S.1 S.2.1 B.returns B.notSynchronized hH rfl rfl d) hf ⟨hP, va_S.rf⟩ hl
theorem cw_MM_285 {R : Room} {s : State} {args : Array Value} (ht : ∀ w ∈ gtb, w.before args s = true) (h1 : 3 + 1 ≤ R.frames) (h2 : 8 + (6 + 11) + 76 ≤ R.locals) : CallW R s args R_MM R_MM 285 y_MM_sendsAll b_MM_sendsAll 6 none (.code y_MM_sendsAll b_MM_sendsAll 6 none :: gtb) { frames := 3, cells := 0, slots := 0, locals := 76 } 0 0 4 := cwV 4 ht (gV w6_30 w6_32 ws_MM_sendsAll w1_10 w6_33) rfl rfl rfl ⟨rfl, by decide, by decide, by decide +kernel⟩ ⟨h1, h2⟩
theorem cw_MM_288 {R : Room} {s : State} {args : Array Value} (ht : ∀ w ∈ gtb, w.before args s = true) (h1 : 2 + 1 ≤ R.frames) (h2 : 8 + (3 + 11) + 46 ≤ R.locals) : CallW R s args R_MM R_MM 288 y_MM_relays b_MM_relays 3 (some .boolean) (.code y_MM_relays b_MM_relays 3 (some .boolean) :: gtb) { frames := 2, cells := 0, slots := 0, locals := 46 } 0 0 2 := cwV 2 ht (gV w6_38 w6_40 ws_MM_relays w1_10 w6_41) rfl rfl rfl ⟨rfl, by decide, by decide, by decide +kernel⟩ ⟨h1, h2⟩
noncomputable def f_MM_sendsHonest_L87 (x4 : Int32) (x5 : Int32) (M : Mem) : Option ((Int32 × Mem) ⊕ Mem) := gIn x4 260 (if (M 13 x4.toNatClampNeg) ≤ x5 then some (.inr M) else 
    gIn (((8 : Int32) * x4) + x5) 2080 (gIn x5 8 (lt1 (upM M 8 x5.toNatClampNeg (M 16 (((8 : Int32) * x4) + x5).toNatClampNeg)) (fun M4 => some (.inl (x5 + (1 : Int32), M4))))))
noncomputable def f_MM_sendsHonest_W87 (x4 : Int32) (u : (Int32 × Mem)) : Option Mem := loop (fun t => f_MM_sendsHonest_L87 x4 t.1 t.2) u
noncomputable def f_MM_sendsHonest_J87 (M : Mem) (x1 : Int32) (x2 : Int32) (x3 : Int32) (x4 : Int32) (x5 : Int32) : Option ((Int32 × Mem) ⊕ Mem) := bnd (f_MM_sendsHonest_W87 x4 (x5, M)) (fun e87 => gIn x4 260 (gIn (e87 13 x4.toNatClampNeg) 8 (lt1 (upM e87 8 ((e87 13 x4.toNatClampNeg).toNatClampNeg) x2) (fun M7 => 
    bnd (f_MM_sendsAll M7 x1 x2 x3 ((M7 13 x4.toNatClampNeg) + (1 : Int32))) (fun M9 => some (.inl (x3 + (1 : Int32), M9)))))))
noncomputable def f_MM_sendsHonest_L37 (x1 : Int32) (x2 : Int32) (x3 : Int32) (M : Mem) : Option ((Int32 × Mem) ⊕ Mem) := if (4 : Int32) ≤ x3 then some (.inr M) else 
    if x1 ≤ (1 : Int32) then some (.inr M) else 
    gIn (f_MM_cell x2 x3) 32 (if (M 17 (f_MM_cell x2 x3).toNatClampNeg) = (x1 - (1 : Int32)) then 
    bnd (f_MM_relays M x2 x3) (fun y12 => 
    if (bI y12) = 0 then some (.inl (x3 + (1 : Int32), M)) else f_MM_sendsHonest_J87 M x1 x2 x3 (M 18 (f_MM_cell x2 x3).toNatClampNeg) (0 : Int32)) else some (.inl (x3 + (1 : Int32), M)))
noncomputable def f_MM_sendsHonest_W37 (x1 : Int32) (x2 : Int32) (u : (Int32 × Mem)) : Option Mem := loop (fun t => f_MM_sendsHonest_L37 x1 x2 t.1 t.2) u
noncomputable def f_MM_sendsHonest_J37 (M : Mem) (x1 : Int32) (x2 : Int32) (x3 : Int32) : Option (Mem) := bnd (f_MM_sendsHonest_W37 x1 x2 (x3, M)) (fun e37 => some e37)
noncomputable def f_MM_sendsHonest_J35 (M : Mem) (x1 : Int32) (x2 : Int32) : Option (Mem) := f_MM_sendsHonest_J37 M x1 x2 (0 : Int32)
noncomputable def f_MM_sendsHonest (M : Mem) (x1 : Int32) (x2 : Int32) : Option Mem := 
    if x1 = (1 : Int32) then 
    if x2 = (M 1 1) then 
    lt1 (upM M 8 0 x2) (fun M13 => bnd (f_MM_sendsAll M13 x1 x2 (M13 1 2) (1 : Int32)) (fun M15 => f_MM_sendsHonest_J35 M15 x1 x2)) else f_MM_sendsHonest_J35 M x1 x2 else f_MM_sendsHonest_J35 M x1 x2
set_option maxHeartbeats 4000000 in
theorem wk_MM_sendsHonest {l : Launch} {Z : WD} (hI : wI Z) (hZ : IsM Z) (M : Mem) (x1 : Int32) (x2 : Int32) {M' : Mem} {p : Program} {e : Env} {R : Room} {s : State} {m : MethodId} {args : Array Value} {below : List Frame} {meth : Method} {c : Code} {H : Heap} {locs : List Loc} {ls : Array Slot} {Q : State → Prop} (S : CallFix p m c b_MM_sendsHonest 6 s args gtb R_MM) (hX : wX Z s) (hR : 4 ≤ R.frames ∧ 101 ≤ R.locals) (hQ : ∀ (pc : Nat) (H : Heap) (locs : List Loc) (ls : Array Slot), HW Z M' s H locs → decode b_MM_sendsHonest pc = .ok (.return_, 1) → W p l e R s m args below meth c H locs 0 0 Q (F0 m pc ls [])) (hf0 : f_MM_sendsHonest M x1 x2 = some M') (hH : HW Z M s H locs) (hl : lv_has ls 6 [(0, .ref (Z.2.2.1 0)), (1, .int x1), (2, .int x2)]) : W p l e R s m args below meth c H locs 0 0 Q (F0 m 0 ls []) := by
  have hx := S.1
  have hb := S.2.1
  have hown := S.2.2.2.1
  have ht := S.2.2.2.2
  unfold f_MM_sendsHonest at hf0
  have J37 : ∀ (M : Mem) (x1 : Int32) (x2 : Int32) (x3 : Int32) (H : Heap) (locs : List Loc) (ls : Array Slot), f_MM_sendsHonest_J37 M x1 x2 x3 = some M' → HW Z M s H locs → lv_has ls 6 [(0, .ref (Z.2.2.1 0)), (1, .int x1), (2, .int x2), (3, .int x3)] → W p l e R s m args below meth c H locs 0 0 Q (F0 m 37 ls []) := by
    intro M x1 x2 x3 H locs ls hf0 hH hl
    unfold f_MM_sendsHonest_J37 at hf0
    obtain ⟨e37, he37, hf0⟩ := o_b hf0
    unfold f_MM_sendsHonest_W37 at he37
    refine loop_W (fun t => ∀ (H : Heap) (locs : List Loc) (ls : Array Slot), HW Z t.2 s H locs → lv_has ls 6 [(0, .ref (Z.2.2.1 0)), (1, .int x1), (2, .int x2), (3, .int t.1)] → W p l e R s m args below meth c H locs 0 0 Q (F0 m 37 ls [])) ?_ he37 H locs ls hH hl
    rintro ⟨x3, M⟩ o1 hf1 hG1 hR1 H locs ls hH hl
    replace hH : HW Z M s H locs := hH
    replace hl : lv_has ls 6 [(0, .ref (Z.2.2.1 0)), (1, .int x1), (2, .int x2), (3, .int x3)] := hl
    replace hf1 : f_MM_sendsHonest_L37 x1 x2 x3 M = some o1 := hf1
    unfold f_MM_sendsHonest_L37 at hf1
    have J87 : ∀ (M : Mem) (x3 : Int32) (x4 : Int32) (x5 : Int32) (H : Heap) (locs : List Loc) (ls : Array Slot), f_MM_sendsHonest_J87 M x1 x2 x3 x4 x5 = some o1 → HW Z M s H locs → lv_has ls 6 [(0, .ref (Z.2.2.1 0)), (1, .int x1), (2, .int x2), (3, .int x3), (4, .int x4), (5, .int x5)] → W p l e R s m args below meth c H locs 0 0 Q (F0 m 87 ls []) := by
      intro M x3 x4 x5 H locs ls hf1 hH hl
      unfold f_MM_sendsHonest_J87 at hf1
      obtain ⟨e87, he87, hf1⟩ := o_b hf1
      have KX87 : ∀ (H : Heap) (locs : List Loc) (ls : Array Slot), HW Z e87 s H locs → lv_has ls 6 [(0, .ref (Z.2.2.1 0)), (1, .int x1), (2, .int x2), (3, .int x3), (4, .int x4)] → W p l e R s m args below meth c H locs 0 0 Q (F0 m 125 ls []) := by
        intro H locs ls hH hl
        refine lv_aload_n hx hb d_MM_sendsHonest_125 rfl (lv_at hl 0 rfl) ?_
        refine g_MM_33 S hX hH hZ d_MM_sendsHonest_126 ?_
        refine lv_aload_n hx hb d_MM_sendsHonest_129 rfl (lv_at hl 0 rfl) ?_
        refine g_MM_48 S hX hH hZ d_MM_sendsHonest_130 ?_
        refine lv_iload hx hb d_MM_sendsHonest_133 (lv_at hl 4 rfl) ?_
        obtain ⟨hn5, hf1⟩ := o_in hf1
        refine q_iald (j := x4.toNatClampNeg) hx hb hX hH (aa_MM_13 hZ) hn5 rfl d_MM_sendsHonest_135 ?_
        refine lv_iload_n hx hb d_MM_sendsHonest_136 rfl (lv_at hl 2 rfl) ?_
        obtain ⟨hn6, hf1⟩ := o_in hf1
        obtain ⟨M7, hM7, hf1⟩ := o_l hf1
        refine q_iast (j := (e87 13 x4.toNatClampNeg).toNatClampNeg) hx hb hX hI hH (aa_MM_8 hZ) hn6 rfl d_MM_sendsHonest_137 (fun H locs hH => ?_)
        rw [hM7] at hH
        refine lv_aload_n hx hb d_MM_sendsHonest_138 rfl (lv_at hl 0 rfl) ?_
        refine lv_iload_n hx hb d_MM_sendsHonest_139 rfl (lv_at hl 1 rfl) ?_
        refine lv_iload_n hx hb d_MM_sendsHonest_140 rfl (lv_at hl 2 rfl) ?_
        refine lv_iload_n hx hb d_MM_sendsHonest_141 rfl (lv_at hl 3 rfl) ?_
        refine lv_aload_n hx hb d_MM_sendsHonest_142 rfl (lv_at hl 0 rfl) ?_
        refine g_MM_48 S hX hH hZ d_MM_sendsHonest_143 ?_
        refine lv_iload hx hb d_MM_sendsHonest_146 (lv_at hl 4 rfl) ?_
        refine q_iald (j := x4.toNatClampNeg) hx hb hX hH (aa_MM_13 hZ) hn5 rfl d_MM_sendsHonest_148 ?_
        refine lv_iconst (v := (1 : Int32)) hx hb d_MM_sendsHonest_149 (by decide) ?_
        refine lv_iadd hx hb d_MM_sendsHonest_150 ?_
        obtain ⟨M9, hc8, hf1⟩ := o_b hf1
        refine q_cVv (As := [.int x1, .int x2, .int x3, .int ((M7 13 x4.toNatClampNeg) + (1 : Int32))]) (rest := []) S hX hH (c_MM_sendsAll l hI hZ M7 x1 x2 x3 ((M7 13 x4.toNatClampNeg) + (1 : Int32)) hc8) (cw_MM_285 S.2.2.2.2 (Nat.le_trans (Nat.le_of_ble_eq_true rfl) hR.1) (Nat.le_trans (Nat.le_of_ble_eq_true rfl) hR.2)) (rc_MM hX hH hZ) rfl hl.1 rfl (Nat.le_of_ble_eq_true rfl) d_MM_sendsHonest_151 ⟨Nat.zero_le _, Nat.zero_le _⟩ (fun H locs hH => ?_)
        refine lv_iinc (v := x3 + (1 : Int32)) (lv' := [(3, .int (x3 + (1 : Int32))), (0, .ref (Z.2.2.1 0)), (1, .int x1), (2, .int x2), (4, .int x4)]) hx hb d_MM_sendsHonest_154 hl (k := 3) rfl rfl (by decide) rfl (fun ls hl => ?_)
        refine lv_goto (tgt := 37) hx hb d_MM_sendsHonest_157 (by decide) ?_
        exact hG1 _ (o_v hf1).symm _ _ _ hH (lv_sub hl [1, 2, 3, 0] rfl)
      unfold f_MM_sendsHonest_W87 at he87
      refine loop_W (fun t => ∀ (H : Heap) (locs : List Loc) (ls : Array Slot), HW Z t.2 s H locs → lv_has ls 6 [(0, .ref (Z.2.2.1 0)), (1, .int x1), (2, .int x2), (3, .int x3), (4, .int x4), (5, .int t.1)] → W p l e R s m args below meth c H locs 0 0 Q (F0 m 87 ls [])) ?_ he87 H locs ls hH hl
      rintro ⟨x5, M⟩ o2 hf2 hG2 hR2 H locs ls hH hl
      replace hH : HW Z M s H locs := hH
      replace hl : lv_has ls 6 [(0, .ref (Z.2.2.1 0)), (1, .int x1), (2, .int x2), (3, .int x3), (4, .int x4), (5, .int x5)] := hl
      replace hf2 : f_MM_sendsHonest_L87 x4 x5 M = some o2 := hf2
      unfold f_MM_sendsHonest_L87 at hf2
      refine lv_iload hx hb d_MM_sendsHonest_87 (lv_at hl 5 rfl) ?_
      refine lv_aload_n hx hb d_MM_sendsHonest_89 rfl (lv_at hl 0 rfl) ?_
      refine g_MM_48 S hX hH hZ d_MM_sendsHonest_90 ?_
      refine lv_iload hx hb d_MM_sendsHonest_93 (lv_at hl 4 rfl) ?_
      obtain ⟨hn1, hf2⟩ := o_in hf2
      refine q_iald (j := x4.toNatClampNeg) hx hb hX hH (aa_MM_13 hZ) hn1 rfl d_MM_sendsHonest_95 ?_
      refine lv_icmp_ge (tgt := 125) hx hb d_MM_sendsHonest_96 (by decide) (fun hc => ?_) (fun hc => ?_)
      · replace hf2 := o_t hc hf2
        obtain rfl := hR2 _ (o_v hf2).symm
        exact KX87 _ _ _ hH (lv_sub hl [0, 1, 2, 3, 4] rfl)
      · replace hf2 := o_f hc hf2
        refine lv_aload_n hx hb d_MM_sendsHonest_99 rfl (lv_at hl 0 rfl) ?_
        refine g_MM_33 S hX hH hZ d_MM_sendsHonest_100 ?_
        refine lv_iload hx hb d_MM_sendsHonest_103 (lv_at hl 5 rfl) ?_
        refine lv_aload_n hx hb d_MM_sendsHonest_105 rfl (lv_at hl 0 rfl) ?_
        refine g_MM_57 S hX hH hZ d_MM_sendsHonest_106 ?_
        refine lv_bipush (v := (8 : Int32)) hx hb d_MM_sendsHonest_109 (by decide) ?_
        refine lv_iload hx hb d_MM_sendsHonest_111 (lv_at hl 4 rfl) ?_
        refine lv_imul hx hb d_MM_sendsHonest_113 ?_
        refine lv_iload hx hb d_MM_sendsHonest_114 (lv_at hl 5 rfl) ?_
        refine lv_iadd hx hb d_MM_sendsHonest_116 ?_
        obtain ⟨hn2, hf2⟩ := o_in hf2
        refine q_iald (j := (((8 : Int32) * x4) + x5).toNatClampNeg) hx hb hX hH (aa_MM_16 hZ) hn2 rfl d_MM_sendsHonest_117 ?_
        obtain ⟨hn3, hf2⟩ := o_in hf2
        obtain ⟨M4, hM4, hf2⟩ := o_l hf2
        refine q_iast (j := x5.toNatClampNeg) hx hb hX hI hH (aa_MM_8 hZ) hn3 rfl d_MM_sendsHonest_118 (fun H locs hH => ?_)
        rw [hM4] at hH
        refine lv_iinc (v := x5 + (1 : Int32)) (lv' := [(5, .int (x5 + (1 : Int32))), (0, .ref (Z.2.2.1 0)), (1, .int x1), (2, .int x2), (3, .int x3), (4, .int x4)]) hx hb d_MM_sendsHonest_119 hl (k := 5) rfl rfl (by decide) rfl (fun ls hl => ?_)
        refine lv_goto (tgt := 87) hx hb d_MM_sendsHonest_122 (by decide) ?_
        exact hG2 _ (o_v hf2).symm _ _ _ hH (lv_sub hl [1, 2, 3, 4, 5, 0] rfl)
    refine lv_iload_n hx hb d_MM_sendsHonest_37 rfl (lv_at hl 3 rfl) ?_
    refine lv_iconst (v := (4 : Int32)) hx hb d_MM_sendsHonest_38 (by decide) ?_
    refine lv_icmp_ge (tgt := 160) hx hb d_MM_sendsHonest_39 (by decide) (fun hc => ?_) (fun hc => ?_)
    · replace hf1 := o_t hc hf1
      obtain rfl := hR1 _ (o_v hf1).symm
      obtain rfl := o_v hf0
      exact hQ _ _ _ _ hH d_MM_sendsHonest_160
    · replace hf1 := o_f hc hf1
      refine lv_iload_n hx hb d_MM_sendsHonest_42 rfl (lv_at hl 1 rfl) ?_
      refine lv_iconst (v := (1 : Int32)) hx hb d_MM_sendsHonest_43 (by decide) ?_
      refine lv_icmp_le (tgt := 160) hx hb d_MM_sendsHonest_44 (by decide) (fun hc => ?_) (fun hc => ?_)
      · replace hf1 := o_t hc hf1
        obtain rfl := hR1 _ (o_v hf1).symm
        obtain rfl := o_v hf0
        exact hQ _ _ _ _ hH d_MM_sendsHonest_160
      · replace hf1 := o_f hc hf1
        refine lv_aload_n hx hb d_MM_sendsHonest_47 rfl (lv_at hl 0 rfl) ?_
        refine g_MM_60 S hX hH hZ d_MM_sendsHonest_48 ?_
        refine lv_iload_n hx hb d_MM_sendsHonest_51 rfl (lv_at hl 2 rfl) ?_
        refine lv_iload_n hx hb d_MM_sendsHonest_52 rfl (lv_at hl 3 rfl) ?_
        refine q_cSi (As := [.int x2, .int x3]) (rest := [.ref (Z.2.2.1 17)]) S hX hH (c_MM_cell l hI M x2 x3 rfl) (cw_MM_276 S.2.2.2.2 (Nat.le_trans (Nat.le_of_ble_eq_true rfl) hR.1) (Nat.le_trans (Nat.le_of_ble_eq_true rfl) hR.2)) rfl hl.1 rfl (Nat.le_of_ble_eq_true rfl) d_MM_sendsHonest_53 ⟨Nat.zero_le _, Nat.zero_le _⟩ (fun H locs hH => ?_)
        obtain ⟨hn10, hf1⟩ := o_in hf1
        refine q_iald (j := (f_MM_cell x2 x3).toNatClampNeg) hx hb hX hH (aa_MM_17 hZ) hn10 rfl d_MM_sendsHonest_56 ?_
        refine lv_iload_n hx hb d_MM_sendsHonest_57 rfl (lv_at hl 1 rfl) ?_
        refine lv_iconst (v := (1 : Int32)) hx hb d_MM_sendsHonest_58 (by decide) ?_
        refine lv_isub hx hb d_MM_sendsHonest_59 ?_
        refine lv_icmp_ne (tgt := 154) hx hb d_MM_sendsHonest_60 (by decide) (fun hc => ?_) (fun hc => ?_)
        · replace hf1 := o_f hc hf1
          refine lv_iinc (v := x3 + (1 : Int32)) (lv' := [(3, .int (x3 + (1 : Int32))), (0, .ref (Z.2.2.1 0)), (1, .int x1), (2, .int x2)]) hx hb d_MM_sendsHonest_154 hl (k := 3) rfl rfl (by decide) rfl (fun ls hl => ?_)
          refine lv_goto (tgt := 37) hx hb d_MM_sendsHonest_157 (by decide) ?_
          exact hG1 _ (o_v hf1).symm _ _ _ hH (lv_sub hl [1, 2, 3, 0] rfl)
        · replace hf1 := o_t hc hf1
          refine lv_aload_n hx hb d_MM_sendsHonest_63 rfl (lv_at hl 0 rfl) ?_
          refine lv_iload_n hx hb d_MM_sendsHonest_64 rfl (lv_at hl 2 rfl) ?_
          refine lv_iload_n hx hb d_MM_sendsHonest_65 rfl (lv_at hl 3 rfl) ?_
          obtain ⟨y12, hc11, hf1⟩ := o_b hf1
          refine q_cVi (As := [.int x2, .int x3]) (rest := []) S hX hH (c_MM_relays l hI hZ M x2 x3 hc11) (cw_MM_288 S.2.2.2.2 (Nat.le_trans (Nat.le_of_ble_eq_true rfl) hR.1) (Nat.le_trans (Nat.le_of_ble_eq_true rfl) hR.2)) (rc_MM hX hH hZ) rfl hl.1 rfl (Nat.le_of_ble_eq_true rfl) d_MM_sendsHonest_66 ⟨Nat.zero_le _, Nat.zero_le _⟩ (fun H locs hH => ?_)
          refine lv_if_eq (tgt := 154) hx hb d_MM_sendsHonest_69 (by decide) (fun hc => ?_) (fun hc => ?_)
          · replace hf1 := o_t hc hf1
            refine lv_iinc (v := x3 + (1 : Int32)) (lv' := [(3, .int (x3 + (1 : Int32))), (0, .ref (Z.2.2.1 0)), (1, .int x1), (2, .int x2)]) hx hb d_MM_sendsHonest_154 hl (k := 3) rfl rfl (by decide) rfl (fun ls hl => ?_)
            refine lv_goto (tgt := 37) hx hb d_MM_sendsHonest_157 (by decide) ?_
            exact hG1 _ (o_v hf1).symm _ _ _ hH (lv_sub hl [1, 2, 3, 0] rfl)
          · replace hf1 := o_f hc hf1
            refine lv_aload_n hx hb d_MM_sendsHonest_72 rfl (lv_at hl 0 rfl) ?_
            refine g_MM_63 S hX hH hZ d_MM_sendsHonest_73 ?_
            refine lv_iload_n hx hb d_MM_sendsHonest_76 rfl (lv_at hl 2 rfl) ?_
            refine lv_iload_n hx hb d_MM_sendsHonest_77 rfl (lv_at hl 3 rfl) ?_
            refine q_cSi (As := [.int x2, .int x3]) (rest := [.ref (Z.2.2.1 18)]) S hX hH (c_MM_cell l hI M x2 x3 rfl) (cw_MM_276 S.2.2.2.2 (Nat.le_trans (Nat.le_of_ble_eq_true rfl) hR.1) (Nat.le_trans (Nat.le_of_ble_eq_true rfl) hR.2)) rfl hl.1 rfl (Nat.le_of_ble_eq_true rfl) d_MM_sendsHonest_78 ⟨Nat.zero_le _, Nat.zero_le _⟩ (fun H locs hH => ?_)
            refine q_iald (j := (f_MM_cell x2 x3).toNatClampNeg) hx hb hX hH (aa_MM_18 hZ) hn10 rfl d_MM_sendsHonest_81 ?_
            refine lv_istore (lv' := [(4, .int (M 18 (f_MM_cell x2 x3).toNatClampNeg)), (0, .ref (Z.2.2.1 0)), (1, .int x1), (2, .int x2), (3, .int x3)]) hx hb d_MM_sendsHonest_82 hl (by decide) rfl (fun ls hl => ?_)
            refine lv_iconst (v := (0 : Int32)) hx hb d_MM_sendsHonest_84 (by decide) ?_
            refine lv_istore (lv' := [(5, .int (0 : Int32)), (4, .int (M 18 (f_MM_cell x2 x3).toNatClampNeg)), (0, .ref (Z.2.2.1 0)), (1, .int x1), (2, .int x2), (3, .int x3)]) hx hb d_MM_sendsHonest_85 hl (by decide) rfl (fun ls hl => ?_)
            exact J87 _ _ _ _ _ _ _ hf1 hH (lv_sub hl [2, 3, 4, 5, 1, 0] rfl)
  have J35 : ∀ (M : Mem) (x1 : Int32) (x2 : Int32) (H : Heap) (locs : List Loc) (ls : Array Slot), f_MM_sendsHonest_J35 M x1 x2 = some M' → HW Z M s H locs → lv_has ls 6 [(0, .ref (Z.2.2.1 0)), (1, .int x1), (2, .int x2)] → W p l e R s m args below meth c H locs 0 0 Q (F0 m 35 ls []) := by
    intro M x1 x2 H locs ls hf0 hH hl
    unfold f_MM_sendsHonest_J35 at hf0
    refine lv_iconst (v := (0 : Int32)) hx hb d_MM_sendsHonest_35 (by decide) ?_
    refine lv_istore_n (lv' := [(3, .int (0 : Int32)), (0, .ref (Z.2.2.1 0)), (1, .int x1), (2, .int x2)]) hx hb d_MM_sendsHonest_36 rfl hl (by decide) rfl (fun ls hl => ?_)
    exact J37 _ _ _ _ _ _ _ hf0 hH (lv_sub hl [1, 2, 3, 0] rfl)
  refine lv_iload_n hx hb d_MM_sendsHonest_0 rfl (lv_at hl 1 rfl) ?_
  refine lv_iconst (v := (1 : Int32)) hx hb d_MM_sendsHonest_1 (by decide) ?_
  refine lv_icmp_ne (tgt := 35) hx hb d_MM_sendsHonest_2 (by decide) (fun hc => ?_) (fun hc => ?_)
  · replace hf0 := o_f hc hf0
    exact J35 _ _ _ _ _ _ hf0 hH (lv_sub hl [0, 1, 2] rfl)
  · replace hf0 := o_t hc hf0
    refine lv_iload_n hx hb d_MM_sendsHonest_5 rfl (lv_at hl 2 rfl) ?_
    refine lv_aload_n hx hb d_MM_sendsHonest_6 rfl (lv_at hl 0 rfl) ?_
    refine g_MM_9 S hX hH hZ d_MM_sendsHonest_7 ?_
    refine lv_iconst (v := (1 : Int32)) hx hb d_MM_sendsHonest_10 (by decide) ?_
    refine q_iald (j := 1) hx hb hX hH (aa_MM_1 hZ) (vp_c (by decide)) (by decide) d_MM_sendsHonest_11 ?_
    refine lv_icmp_ne (tgt := 35) hx hb d_MM_sendsHonest_12 (by decide) (fun hc => ?_) (fun hc => ?_)
    · replace hf0 := o_f hc hf0
      exact J35 _ _ _ _ _ _ hf0 hH (lv_sub hl [0, 1, 2] rfl)
    · replace hf0 := o_t hc hf0
      refine lv_aload_n hx hb d_MM_sendsHonest_15 rfl (lv_at hl 0 rfl) ?_
      refine g_MM_33 S hX hH hZ d_MM_sendsHonest_16 ?_
      refine lv_iconst (v := (0 : Int32)) hx hb d_MM_sendsHonest_19 (by decide) ?_
      refine lv_iload_n hx hb d_MM_sendsHonest_20 rfl (lv_at hl 2 rfl) ?_
      obtain ⟨M13, hM13, hf0⟩ := o_l hf0
      refine q_iast (j := 0) hx hb hX hI hH (aa_MM_8 hZ) (vp_c (by decide)) (by decide) d_MM_sendsHonest_21 (fun H locs hH => ?_)
      rw [hM13] at hH
      refine lv_aload_n hx hb d_MM_sendsHonest_22 rfl (lv_at hl 0 rfl) ?_
      refine lv_iload_n hx hb d_MM_sendsHonest_23 rfl (lv_at hl 1 rfl) ?_
      refine lv_iload_n hx hb d_MM_sendsHonest_24 rfl (lv_at hl 2 rfl) ?_
      refine lv_aload_n hx hb d_MM_sendsHonest_25 rfl (lv_at hl 0 rfl) ?_
      refine g_MM_9 S hX hH hZ d_MM_sendsHonest_26 ?_
      refine lv_iconst (v := (2 : Int32)) hx hb d_MM_sendsHonest_29 (by decide) ?_
      refine q_iald (j := 2) hx hb hX hH (aa_MM_1 hZ) (vp_c (by decide)) (by decide) d_MM_sendsHonest_30 ?_
      refine lv_iconst (v := (1 : Int32)) hx hb d_MM_sendsHonest_31 (by decide) ?_
      obtain ⟨M15, hc14, hf0⟩ := o_b hf0
      refine q_cVv (As := [.int x1, .int x2, .int (M13 1 2), .int (1 : Int32)]) (rest := []) S hX hH (c_MM_sendsAll l hI hZ M13 x1 x2 (M13 1 2) (1 : Int32) hc14) (cw_MM_285 S.2.2.2.2 (Nat.le_trans (Nat.le_of_ble_eq_true rfl) hR.1) (Nat.le_trans (Nat.le_of_ble_eq_true rfl) hR.2)) (rc_MM hX hH hZ) rfl hl.1 rfl (Nat.le_of_ble_eq_true rfl) d_MM_sendsHonest_32 ⟨Nat.zero_le _, Nat.zero_le _⟩ (fun H locs hH => ?_)
      exact J35 _ _ _ _ _ _ hf0 hH (lv_sub hl [0, 1, 2] rfl)
theorem c_MM_sendsHonest (l : Launch) {Z : WD} (hI : wI Z) (hZ : IsM Z) (M : Mem) (x1 : Int32) (x2 : Int32) {M' : Mem} (hf : f_MM_sendsHonest M x1 x2 = some M') : Cv l Z y_MM_sendsHonest b_MM_sendsHonest 6 none 4 101 [.ref (Z.2.2.1 0), .int x1, .int x2] M M' := by
  refine Met.ofW (cc := b_MM_sendsHonest) (maxL := 6) (ret := none) (by decide) rfl ?_
  intro p e s m args below meth c s₁ B hml hv
  obtain ⟨rfl, hP, hX⟩ := hv
  have S : CallFix p m c b_MM_sendsHonest 6 s ([.ref (Z.2.2.1 0), .int x1, .int x2] : List Value).toArray gtb R_MM := ⟨B.exec, B.bytes, hml, findClass_of_methodNamed B.named, fun w hw => atoms_spec (ws := .code y_MM_sendsHonest b_MM_sendsHonest 6 none :: gtb) B.pre w (List.mem_cons_of_mem _ hw)⟩
  have hl := lv_entry ([.ref (Z.2.2.1 0), .int x1, .int x2]) (n := 6) (Nat.le_of_ble_eq_true rfl)
  rw [lg_entry_eq]
  exact wk_MM_sendsHonest hI hZ M x1 x2 S hX ⟨Nat.le_refl _, Nat.le_refl _⟩ (fun pc H locs ls hH d => q_rv S.1 S.2.1 B.returns B.notSynchronized hH rfl d) hf ⟨hP, va_S.rf⟩ hl
noncomputable def f_MM_isForged_L2 (M : Mem) (x1 : Int32) (x2 : Int32) (x3 : Int32) : Option (Int32 ⊕ Bool) := gIn (x1 + (4 : Int32)) 302 (if (M 1 (x1 + (4 : Int32)).toNatClampNeg) ≤ x3 then some (.inr false) else 
    gIn ((x1 + (5 : Int32)) + x3) 302 (gIn (x1 + (3 : Int32)) 302 (gIn (f_MM_cell (M 1 ((x1 + (5 : Int32)) + x3).toNatClampNeg) (M 1 (x1 + (3 : Int32)).toNatClampNeg)) 32 (if (M 19 (f_MM_cell (M 1 ((x1 + (5 : Int32)) + x3).toNatClampNeg) (M 1 (x1 + (3 : Int32)).toNatClampNeg)).toNatClampNeg) ≤ x2 then some (.inl (x3 + (1 : Int32))) else some (.inr true)))))
noncomputable def f_MM_isForged_W2 (M : Mem) (x1 : Int32) (x2 : Int32) (u : Int32) : Option Bool := loop (fun t => f_MM_isForged_L2 M x1 x2 t) u
noncomputable def f_MM_isForged_J2 (M : Mem) (x1 : Int32) (x2 : Int32) (x3 : Int32) : Option (Bool) := bnd (f_MM_isForged_W2 M x1 x2 x3) (fun e2 => some e2)
noncomputable def f_MM_isForged (M : Mem) (x1 : Int32) (x2 : Int32) : Option Bool := f_MM_isForged_J2 M x1 x2 (0 : Int32)
set_option maxHeartbeats 4000000 in
theorem wk_MM_isForged {l : Launch} {Z : WD} (hI : wI Z) (hZ : IsM Z) (M : Mem) (x1 : Int32) (x2 : Int32) {r : Bool} {p : Program} {e : Env} {R : Room} {s : State} {m : MethodId} {args : Array Value} {below : List Frame} {meth : Method} {c : Code} {H : Heap} {locs : List Loc} {ls : Array Slot} {Q : State → Prop} (S : CallFix p m c b_MM_isForged 4 s args gtb R_MM) (hX : wX Z s) (hR : 1 ≤ R.frames ∧ 21 ≤ R.locals) (hQ : ∀ (pc : Nat) (H : Heap) (locs : List Loc) (ls : Array Slot), HW Z M s H locs → decode b_MM_isForged pc = .ok (.ireturn, 1) → W p l e R s m args below meth c H locs 0 0 Q (F0 m pc ls [.int (bI r)])) (hf0 : f_MM_isForged M x1 x2 = some r) (hH : HW Z M s H locs) (hl : lv_has ls 4 [(0, .ref (Z.2.2.1 0)), (1, .int x1), (2, .int x2)]) : W p l e R s m args below meth c H locs 0 0 Q (F0 m 0 ls []) := by
  have hx := S.1
  have hb := S.2.1
  have hown := S.2.2.2.1
  have ht := S.2.2.2.2
  unfold f_MM_isForged at hf0
  have J2 : ∀ (x1 : Int32) (x2 : Int32) (x3 : Int32) (H : Heap) (locs : List Loc) (ls : Array Slot), f_MM_isForged_J2 M x1 x2 x3 = some r → HW Z M s H locs → lv_has ls 4 [(0, .ref (Z.2.2.1 0)), (1, .int x1), (2, .int x2), (3, .int x3)] → W p l e R s m args below meth c H locs 0 0 Q (F0 m 2 ls []) := by
    intro x1 x2 x3 H locs ls hf0 hH hl
    unfold f_MM_isForged_J2 at hf0
    obtain ⟨e2, he2, hf0⟩ := o_b hf0
    unfold f_MM_isForged_W2 at he2
    refine loop_W (fun t => ∀ (H : Heap) (locs : List Loc) (ls : Array Slot), HW Z M s H locs → lv_has ls 4 [(0, .ref (Z.2.2.1 0)), (1, .int x1), (2, .int x2), (3, .int t)] → W p l e R s m args below meth c H locs 0 0 Q (F0 m 2 ls [])) ?_ he2 H locs ls hH hl
    rintro x3 o1 hf1 hG1 hR1 H locs ls hH hl
    replace hH : HW Z M s H locs := hH
    replace hl : lv_has ls 4 [(0, .ref (Z.2.2.1 0)), (1, .int x1), (2, .int x2), (3, .int x3)] := hl
    replace hf1 : f_MM_isForged_L2 M x1 x2 x3 = some o1 := hf1
    unfold f_MM_isForged_L2 at hf1
    refine lv_iload_n hx hb d_MM_isForged_2 rfl (lv_at hl 3 rfl) ?_
    refine lv_aload_n hx hb d_MM_isForged_3 rfl (lv_at hl 0 rfl) ?_
    refine g_MM_9 S hX hH hZ d_MM_isForged_4 ?_
    refine lv_iload_n hx hb d_MM_isForged_7 rfl (lv_at hl 1 rfl) ?_
    refine lv_iconst (v := (4 : Int32)) hx hb d_MM_isForged_8 (by decide) ?_
    refine lv_iadd hx hb d_MM_isForged_9 ?_
    obtain ⟨hn1, hf1⟩ := o_in hf1
    refine q_iald (j := (x1 + (4 : Int32)).toNatClampNeg) hx hb hX hH (aa_MM_1 hZ) hn1 rfl d_MM_isForged_10 ?_
    refine lv_icmp_ge (tgt := 52) hx hb d_MM_isForged_11 (by decide) (fun hc => ?_) (fun hc => ?_)
    · replace hf1 := o_t hc hf1
      refine lv_iconst (v := (0 : Int32)) hx hb d_MM_isForged_52 (by decide) ?_
      obtain rfl := hR1 _ (o_v hf1).symm
      obtain rfl := o_v hf0
      exact hQ _ _ _ _ hH d_MM_isForged_53
    · replace hf1 := o_f hc hf1
      refine lv_aload_n hx hb d_MM_isForged_14 rfl (lv_at hl 0 rfl) ?_
      refine g_MM_66 S hX hH hZ d_MM_isForged_15 ?_
      refine lv_aload_n hx hb d_MM_isForged_18 rfl (lv_at hl 0 rfl) ?_
      refine g_MM_9 S hX hH hZ d_MM_isForged_19 ?_
      refine lv_iload_n hx hb d_MM_isForged_22 rfl (lv_at hl 1 rfl) ?_
      refine lv_iconst (v := (5 : Int32)) hx hb d_MM_isForged_23 (by decide) ?_
      refine lv_iadd hx hb d_MM_isForged_24 ?_
      refine lv_iload_n hx hb d_MM_isForged_25 rfl (lv_at hl 3 rfl) ?_
      refine lv_iadd hx hb d_MM_isForged_26 ?_
      obtain ⟨hn2, hf1⟩ := o_in hf1
      refine q_iald (j := ((x1 + (5 : Int32)) + x3).toNatClampNeg) hx hb hX hH (aa_MM_1 hZ) hn2 rfl d_MM_isForged_27 ?_
      refine lv_aload_n hx hb d_MM_isForged_28 rfl (lv_at hl 0 rfl) ?_
      refine g_MM_9 S hX hH hZ d_MM_isForged_29 ?_
      refine lv_iload_n hx hb d_MM_isForged_32 rfl (lv_at hl 1 rfl) ?_
      refine lv_iconst (v := (3 : Int32)) hx hb d_MM_isForged_33 (by decide) ?_
      refine lv_iadd hx hb d_MM_isForged_34 ?_
      obtain ⟨hn3, hf1⟩ := o_in hf1
      refine q_iald (j := (x1 + (3 : Int32)).toNatClampNeg) hx hb hX hH (aa_MM_1 hZ) hn3 rfl d_MM_isForged_35 ?_
      refine q_cSi (As := [.int (M 1 ((x1 + (5 : Int32)) + x3).toNatClampNeg), .int (M 1 (x1 + (3 : Int32)).toNatClampNeg)]) (rest := [.ref (Z.2.2.1 19)]) S hX hH (c_MM_cell l hI M (M 1 ((x1 + (5 : Int32)) + x3).toNatClampNeg) (M 1 (x1 + (3 : Int32)).toNatClampNeg) rfl) (cw_MM_276 S.2.2.2.2 (Nat.le_trans (Nat.le_of_ble_eq_true rfl) hR.1) (Nat.le_trans (Nat.le_of_ble_eq_true rfl) hR.2)) rfl hl.1 rfl (Nat.le_of_ble_eq_true rfl) d_MM_isForged_36 ⟨Nat.zero_le _, Nat.zero_le _⟩ (fun H locs hH => ?_)
      obtain ⟨hn4, hf1⟩ := o_in hf1
      refine q_iald (j := (f_MM_cell (M 1 ((x1 + (5 : Int32)) + x3).toNatClampNeg) (M 1 (x1 + (3 : Int32)).toNatClampNeg)).toNatClampNeg) hx hb hX hH (aa_MM_19 hZ) hn4 rfl d_MM_isForged_39 ?_
      refine lv_iload_n hx hb d_MM_isForged_40 rfl (lv_at hl 2 rfl) ?_
      refine lv_icmp_le (tgt := 46) hx hb d_MM_isForged_41 (by decide) (fun hc => ?_) (fun hc => ?_)
      · replace hf1 := o_t hc hf1
        refine lv_iinc (v := x3 + (1 : Int32)) (lv' := [(3, .int (x3 + (1 : Int32))), (0, .ref (Z.2.2.1 0)), (1, .int x1), (2, .int x2)]) hx hb d_MM_isForged_46 hl (k := 3) rfl rfl (by decide) rfl (fun ls hl => ?_)
        refine lv_goto (tgt := 2) hx hb d_MM_isForged_49 (by decide) ?_
        exact hG1 _ (o_v hf1).symm _ _ _ hH (lv_sub hl [1, 2, 3, 0] rfl)
      · replace hf1 := o_f hc hf1
        refine lv_iconst (v := (1 : Int32)) hx hb d_MM_isForged_44 (by decide) ?_
        obtain rfl := hR1 _ (o_v hf1).symm
        obtain rfl := o_v hf0
        exact hQ _ _ _ _ hH d_MM_isForged_45
  refine lv_iconst (v := (0 : Int32)) hx hb d_MM_isForged_0 (by decide) ?_
  refine lv_istore_n (lv' := [(3, .int (0 : Int32)), (0, .ref (Z.2.2.1 0)), (1, .int x1), (2, .int x2)]) hx hb d_MM_isForged_1 rfl hl (by decide) rfl (fun ls hl => ?_)
  exact J2 _ _ _ _ _ _ hf0 hH (lv_sub hl [1, 2, 3, 0] rfl)
theorem c_MM_isForged (l : Launch) {Z : WD} (hI : wI Z) (hZ : IsM Z) (M : Mem) (x1 : Int32) (x2 : Int32) {r : Bool} (hf : f_MM_isForged M x1 x2 = some r) : Ci l Z y_MM_isForged b_MM_isForged 4 (some .boolean) 1 21 [.ref (Z.2.2.1 0), .int x1, .int x2] M M (bI r) := by
  refine Met.ofW (cc := b_MM_isForged) (maxL := 4) (ret := (some .boolean)) (by decide) rfl ?_
  intro p e s m args below meth c s₁ B hml hv
  obtain ⟨rfl, hP, hX⟩ := hv
  have S : CallFix p m c b_MM_isForged 4 s ([.ref (Z.2.2.1 0), .int x1, .int x2] : List Value).toArray gtb R_MM := ⟨B.exec, B.bytes, hml, findClass_of_methodNamed B.named, fun w hw => atoms_spec (ws := .code y_MM_isForged b_MM_isForged 4 (some .boolean) :: gtb) B.pre w (List.mem_cons_of_mem _ hw)⟩
  have hl := lv_entry ([.ref (Z.2.2.1 0), .int x1, .int x2]) (n := 4) (Nat.le_of_ble_eq_true rfl)
  rw [lg_entry_eq]
  exact wk_MM_isForged hI hZ M x1 x2 S hX ⟨Nat.le_refl _, Nat.le_refl _⟩ (fun pc H locs ls hH d => q_rz S.1 S.2.1 B.returns B.notSynchronized hH rfl rfl d) hf ⟨hP, va_S.rf⟩ hl
theorem cw_MM_291 {R : Room} {s : State} {args : Array Value} (ht : ∀ w ∈ gtb, w.before args s = true) (h1 : 1 + 1 ≤ R.frames) (h2 : 8 + (4 + 11) + 21 ≤ R.locals) : CallW R s args R_MM R_MM 291 y_MM_isForged b_MM_isForged 4 (some .boolean) (.code y_MM_isForged b_MM_isForged 4 (some .boolean) :: gtb) { frames := 1, cells := 0, slots := 0, locals := 21 } 0 0 2 := cwV 2 ht (gV w6_50 w6_52 ws_MM_isForged w1_10 w6_53) rfl rfl rfl ⟨rfl, by decide, by decide, by decide +kernel⟩ ⟨h1, h2⟩
noncomputable def f_MM_sendsPlanned_L76 (x3 : Int32) (x4 : Int32) (M : Mem) : Option ((Int32 × Mem) ⊕ Mem) := gIn (x3 + (4 : Int32)) 302 (if (M 1 (x3 + (4 : Int32)).toNatClampNeg) ≤ x4 then some (.inr M) else 
    gIn ((x3 + (5 : Int32)) + x4) 302 (gIn x4 8 (lt1 (upM M 8 x4.toNatClampNeg (M 1 ((x3 + (5 : Int32)) + x4).toNatClampNeg)) (fun M4 => some (.inl (x4 + (1 : Int32), M4))))))
noncomputable def f_MM_sendsPlanned_W76 (x3 : Int32) (u : (Int32 × Mem)) : Option Mem := loop (fun t => f_MM_sendsPlanned_L76 x3 t.1 t.2) u
noncomputable def f_MM_sendsPlanned_J76 (M : Mem) (x1 : Int32) (x2 : Int32) (x3 : Int32) (x4 : Int32) : Option ((Int32 × Mem) ⊕ Mem) := bnd (f_MM_sendsPlanned_W76 x3 (x4, M)) (fun e76 => gIn (x3 + (1 : Int32)) 302 (gIn (x3 + (2 : Int32)) 302 (gIn (x3 + (3 : Int32)) 302 (gIn (x3 + (4 : Int32)) 302 (bnd (f_MM_sends e76 x1 (e76 1 (x3 + (1 : Int32)).toNatClampNeg) (e76 1 (x3 + (2 : Int32)).toNatClampNeg) (e76 1 (x3 + (3 : Int32)).toNatClampNeg) (e76 1 (x3 + (4 : Int32)).toNatClampNeg)) (fun M10 => some (.inl (x2 + (1 : Int32), M10))))))))
noncomputable def f_MM_sendsPlanned_L2 (x1 : Int32) (x2 : Int32) (M : Mem) : Option ((Int32 × Mem) ⊕ Mem) := if (M 1 7) ≤ x2 then some (.inr M) else 
    gIn ((10 : Int32) + ((13 : Int32) * x2)) 302 (if (M 1 ((10 : Int32) + ((13 : Int32) * x2)).toNatClampNeg) = x1 then 
    gIn (((10 : Int32) + ((13 : Int32) * x2)) + (1 : Int32)) 302 (if (bI (f_MM_isLiar M (M 1 (((10 : Int32) + ((13 : Int32) * x2)) + (1 : Int32)).toNatClampNeg))) = 0 then some (.inl (x2 + (1 : Int32), M)) else 
    bnd (f_MM_isForged M ((10 : Int32) + ((13 : Int32) * x2)) x1) (fun y14 => 
    if (bI y14) = 0 then f_MM_sendsPlanned_J76 M x1 x2 ((10 : Int32) + ((13 : Int32) * x2)) (0 : Int32) else 
    lt1 (upM M 0 25 ((M 0 25) ||| ((1 : Int32) <<< (x2 &&& 31)))) (fun M15 => some (.inl (x2 + (1 : Int32), M15))))) else some (.inl (x2 + (1 : Int32), M)))
noncomputable def f_MM_sendsPlanned_W2 (x1 : Int32) (u : (Int32 × Mem)) : Option Mem := loop (fun t => f_MM_sendsPlanned_L2 x1 t.1 t.2) u
noncomputable def f_MM_sendsPlanned_J2 (M : Mem) (x1 : Int32) (x2 : Int32) : Option (Mem) := bnd (f_MM_sendsPlanned_W2 x1 (x2, M)) (fun e2 => some e2)
noncomputable def f_MM_sendsPlanned (M : Mem) (x1 : Int32) : Option Mem := f_MM_sendsPlanned_J2 M x1 (0 : Int32)
set_option maxHeartbeats 4000000 in
theorem wk_MM_sendsPlanned {l : Launch} {Z : WD} (hI : wI Z) (hZ : IsM Z) (M : Mem) (x1 : Int32) {M' : Mem} {p : Program} {e : Env} {R : Room} {s : State} {m : MethodId} {args : Array Value} {below : List Frame} {meth : Method} {c : Code} {H : Heap} {locs : List Loc} {ls : Array Slot} {Q : State → Prop} (S : CallFix p m c b_MM_sendsPlanned 5 s args gtb R_MM) (hX : wX Z s) (hR : 3 ≤ R.frames ∧ 76 ≤ R.locals) (hQ : ∀ (pc : Nat) (H : Heap) (locs : List Loc) (ls : Array Slot), HW Z M' s H locs → decode b_MM_sendsPlanned pc = .ok (.return_, 1) → W p l e R s m args below meth c H locs 0 0 Q (F0 m pc ls [])) (hf0 : f_MM_sendsPlanned M x1 = some M') (hH : HW Z M s H locs) (hl : lv_has ls 5 [(0, .ref (Z.2.2.1 0)), (1, .int x1)]) : W p l e R s m args below meth c H locs 0 0 Q (F0 m 0 ls []) := by
  have hx := S.1
  have hb := S.2.1
  have hown := S.2.2.2.1
  have ht := S.2.2.2.2
  unfold f_MM_sendsPlanned at hf0
  have J2 : ∀ (M : Mem) (x1 : Int32) (x2 : Int32) (H : Heap) (locs : List Loc) (ls : Array Slot), f_MM_sendsPlanned_J2 M x1 x2 = some M' → HW Z M s H locs → lv_has ls 5 [(0, .ref (Z.2.2.1 0)), (1, .int x1), (2, .int x2)] → W p l e R s m args below meth c H locs 0 0 Q (F0 m 2 ls []) := by
    intro M x1 x2 H locs ls hf0 hH hl
    unfold f_MM_sendsPlanned_J2 at hf0
    obtain ⟨e2, he2, hf0⟩ := o_b hf0
    unfold f_MM_sendsPlanned_W2 at he2
    refine loop_W (fun t => ∀ (H : Heap) (locs : List Loc) (ls : Array Slot), HW Z t.2 s H locs → lv_has ls 5 [(0, .ref (Z.2.2.1 0)), (1, .int x1), (2, .int t.1)] → W p l e R s m args below meth c H locs 0 0 Q (F0 m 2 ls [])) ?_ he2 H locs ls hH hl
    rintro ⟨x2, M⟩ o1 hf1 hG1 hR1 H locs ls hH hl
    replace hH : HW Z M s H locs := hH
    replace hl : lv_has ls 5 [(0, .ref (Z.2.2.1 0)), (1, .int x1), (2, .int x2)] := hl
    replace hf1 : f_MM_sendsPlanned_L2 x1 x2 M = some o1 := hf1
    unfold f_MM_sendsPlanned_L2 at hf1
    have J76 : ∀ (M : Mem) (x2 : Int32) (x3 : Int32) (x4 : Int32) (H : Heap) (locs : List Loc) (ls : Array Slot), f_MM_sendsPlanned_J76 M x1 x2 x3 x4 = some o1 → HW Z M s H locs → lv_has ls 5 [(0, .ref (Z.2.2.1 0)), (1, .int x1), (2, .int x2), (3, .int x3), (4, .int x4)] → W p l e R s m args below meth c H locs 0 0 Q (F0 m 76 ls []) := by
      intro M x2 x3 x4 H locs ls hf1 hH hl
      unfold f_MM_sendsPlanned_J76 at hf1
      obtain ⟨e76, he76, hf1⟩ := o_b hf1
      have KX76 : ∀ (H : Heap) (locs : List Loc) (ls : Array Slot), HW Z e76 s H locs → lv_has ls 5 [(0, .ref (Z.2.2.1 0)), (1, .int x1), (2, .int x2), (3, .int x3)] → W p l e R s m args below meth c H locs 0 0 Q (F0 m 113 ls []) := by
        intro H locs ls hH hl
        refine lv_aload_n hx hb d_MM_sendsPlanned_113 rfl (lv_at hl 0 rfl) ?_
        refine lv_iload_n hx hb d_MM_sendsPlanned_114 rfl (lv_at hl 1 rfl) ?_
        refine lv_aload_n hx hb d_MM_sendsPlanned_115 rfl (lv_at hl 0 rfl) ?_
        refine g_MM_9 S hX hH hZ d_MM_sendsPlanned_116 ?_
        refine lv_iload_n hx hb d_MM_sendsPlanned_119 rfl (lv_at hl 3 rfl) ?_
        refine lv_iconst (v := (1 : Int32)) hx hb d_MM_sendsPlanned_120 (by decide) ?_
        refine lv_iadd hx hb d_MM_sendsPlanned_121 ?_
        obtain ⟨hn5, hf1⟩ := o_in hf1
        refine q_iald (j := (x3 + (1 : Int32)).toNatClampNeg) hx hb hX hH (aa_MM_1 hZ) hn5 rfl d_MM_sendsPlanned_122 ?_
        refine lv_aload_n hx hb d_MM_sendsPlanned_123 rfl (lv_at hl 0 rfl) ?_
        refine g_MM_9 S hX hH hZ d_MM_sendsPlanned_124 ?_
        refine lv_iload_n hx hb d_MM_sendsPlanned_127 rfl (lv_at hl 3 rfl) ?_
        refine lv_iconst (v := (2 : Int32)) hx hb d_MM_sendsPlanned_128 (by decide) ?_
        refine lv_iadd hx hb d_MM_sendsPlanned_129 ?_
        obtain ⟨hn6, hf1⟩ := o_in hf1
        refine q_iald (j := (x3 + (2 : Int32)).toNatClampNeg) hx hb hX hH (aa_MM_1 hZ) hn6 rfl d_MM_sendsPlanned_130 ?_
        refine lv_aload_n hx hb d_MM_sendsPlanned_131 rfl (lv_at hl 0 rfl) ?_
        refine g_MM_9 S hX hH hZ d_MM_sendsPlanned_132 ?_
        refine lv_iload_n hx hb d_MM_sendsPlanned_135 rfl (lv_at hl 3 rfl) ?_
        refine lv_iconst (v := (3 : Int32)) hx hb d_MM_sendsPlanned_136 (by decide) ?_
        refine lv_iadd hx hb d_MM_sendsPlanned_137 ?_
        obtain ⟨hn7, hf1⟩ := o_in hf1
        refine q_iald (j := (x3 + (3 : Int32)).toNatClampNeg) hx hb hX hH (aa_MM_1 hZ) hn7 rfl d_MM_sendsPlanned_138 ?_
        refine lv_aload_n hx hb d_MM_sendsPlanned_139 rfl (lv_at hl 0 rfl) ?_
        refine g_MM_9 S hX hH hZ d_MM_sendsPlanned_140 ?_
        refine lv_iload_n hx hb d_MM_sendsPlanned_143 rfl (lv_at hl 3 rfl) ?_
        refine lv_iconst (v := (4 : Int32)) hx hb d_MM_sendsPlanned_144 (by decide) ?_
        refine lv_iadd hx hb d_MM_sendsPlanned_145 ?_
        obtain ⟨hn8, hf1⟩ := o_in hf1
        refine q_iald (j := (x3 + (4 : Int32)).toNatClampNeg) hx hb hX hH (aa_MM_1 hZ) hn8 rfl d_MM_sendsPlanned_146 ?_
        obtain ⟨M10, hc9, hf1⟩ := o_b hf1
        refine q_cVv (As := [.int x1, .int (e76 1 (x3 + (1 : Int32)).toNatClampNeg), .int (e76 1 (x3 + (2 : Int32)).toNatClampNeg), .int (e76 1 (x3 + (3 : Int32)).toNatClampNeg), .int (e76 1 (x3 + (4 : Int32)).toNatClampNeg)]) (rest := []) S hX hH (c_MM_sends l hI hZ e76 x1 (e76 1 (x3 + (1 : Int32)).toNatClampNeg) (e76 1 (x3 + (2 : Int32)).toNatClampNeg) (e76 1 (x3 + (3 : Int32)).toNatClampNeg) (e76 1 (x3 + (4 : Int32)).toNatClampNeg) hc9) (cw_MM_279 S.2.2.2.2 (Nat.le_trans (Nat.le_of_ble_eq_true rfl) hR.1) (Nat.le_trans (Nat.le_of_ble_eq_true rfl) hR.2)) (rc_MM hX hH hZ) rfl hl.1 rfl (Nat.le_of_ble_eq_true rfl) d_MM_sendsPlanned_147 ⟨Nat.zero_le _, Nat.zero_le _⟩ (fun H locs hH => ?_)
        refine lv_iinc (v := x2 + (1 : Int32)) (lv' := [(2, .int (x2 + (1 : Int32))), (0, .ref (Z.2.2.1 0)), (1, .int x1), (3, .int x3)]) hx hb d_MM_sendsPlanned_150 hl (k := 2) rfl rfl (by decide) rfl (fun ls hl => ?_)
        refine lv_goto (tgt := 2) hx hb d_MM_sendsPlanned_153 (by decide) ?_
        exact hG1 _ (o_v hf1).symm _ _ _ hH (lv_sub hl [1, 2, 0] rfl)
      unfold f_MM_sendsPlanned_W76 at he76
      refine loop_W (fun t => ∀ (H : Heap) (locs : List Loc) (ls : Array Slot), HW Z t.2 s H locs → lv_has ls 5 [(0, .ref (Z.2.2.1 0)), (1, .int x1), (2, .int x2), (3, .int x3), (4, .int t.1)] → W p l e R s m args below meth c H locs 0 0 Q (F0 m 76 ls [])) ?_ he76 H locs ls hH hl
      rintro ⟨x4, M⟩ o2 hf2 hG2 hR2 H locs ls hH hl
      replace hH : HW Z M s H locs := hH
      replace hl : lv_has ls 5 [(0, .ref (Z.2.2.1 0)), (1, .int x1), (2, .int x2), (3, .int x3), (4, .int x4)] := hl
      replace hf2 : f_MM_sendsPlanned_L76 x3 x4 M = some o2 := hf2
      unfold f_MM_sendsPlanned_L76 at hf2
      refine lv_iload hx hb d_MM_sendsPlanned_76 (lv_at hl 4 rfl) ?_
      refine lv_aload_n hx hb d_MM_sendsPlanned_78 rfl (lv_at hl 0 rfl) ?_
      refine g_MM_9 S hX hH hZ d_MM_sendsPlanned_79 ?_
      refine lv_iload_n hx hb d_MM_sendsPlanned_82 rfl (lv_at hl 3 rfl) ?_
      refine lv_iconst (v := (4 : Int32)) hx hb d_MM_sendsPlanned_83 (by decide) ?_
      refine lv_iadd hx hb d_MM_sendsPlanned_84 ?_
      obtain ⟨hn1, hf2⟩ := o_in hf2
      refine q_iald (j := (x3 + (4 : Int32)).toNatClampNeg) hx hb hX hH (aa_MM_1 hZ) hn1 rfl d_MM_sendsPlanned_85 ?_
      refine lv_icmp_ge (tgt := 113) hx hb d_MM_sendsPlanned_86 (by decide) (fun hc => ?_) (fun hc => ?_)
      · replace hf2 := o_t hc hf2
        obtain rfl := hR2 _ (o_v hf2).symm
        exact KX76 _ _ _ hH (lv_sub hl [0, 1, 2, 3] rfl)
      · replace hf2 := o_f hc hf2
        refine lv_aload_n hx hb d_MM_sendsPlanned_89 rfl (lv_at hl 0 rfl) ?_
        refine g_MM_33 S hX hH hZ d_MM_sendsPlanned_90 ?_
        refine lv_iload hx hb d_MM_sendsPlanned_93 (lv_at hl 4 rfl) ?_
        refine lv_aload_n hx hb d_MM_sendsPlanned_95 rfl (lv_at hl 0 rfl) ?_
        refine g_MM_9 S hX hH hZ d_MM_sendsPlanned_96 ?_
        refine lv_iload_n hx hb d_MM_sendsPlanned_99 rfl (lv_at hl 3 rfl) ?_
        refine lv_iconst (v := (5 : Int32)) hx hb d_MM_sendsPlanned_100 (by decide) ?_
        refine lv_iadd hx hb d_MM_sendsPlanned_101 ?_
        refine lv_iload hx hb d_MM_sendsPlanned_102 (lv_at hl 4 rfl) ?_
        refine lv_iadd hx hb d_MM_sendsPlanned_104 ?_
        obtain ⟨hn2, hf2⟩ := o_in hf2
        refine q_iald (j := ((x3 + (5 : Int32)) + x4).toNatClampNeg) hx hb hX hH (aa_MM_1 hZ) hn2 rfl d_MM_sendsPlanned_105 ?_
        obtain ⟨hn3, hf2⟩ := o_in hf2
        obtain ⟨M4, hM4, hf2⟩ := o_l hf2
        refine q_iast (j := x4.toNatClampNeg) hx hb hX hI hH (aa_MM_8 hZ) hn3 rfl d_MM_sendsPlanned_106 (fun H locs hH => ?_)
        rw [hM4] at hH
        refine lv_iinc (v := x4 + (1 : Int32)) (lv' := [(4, .int (x4 + (1 : Int32))), (0, .ref (Z.2.2.1 0)), (1, .int x1), (2, .int x2), (3, .int x3)]) hx hb d_MM_sendsPlanned_107 hl (k := 4) rfl rfl (by decide) rfl (fun ls hl => ?_)
        refine lv_goto (tgt := 76) hx hb d_MM_sendsPlanned_110 (by decide) ?_
        exact hG2 _ (o_v hf2).symm _ _ _ hH (lv_sub hl [1, 2, 3, 4, 0] rfl)
    refine lv_iload_n hx hb d_MM_sendsPlanned_2 rfl (lv_at hl 2 rfl) ?_
    refine lv_aload_n hx hb d_MM_sendsPlanned_3 rfl (lv_at hl 0 rfl) ?_
    refine g_MM_9 S hX hH hZ d_MM_sendsPlanned_4 ?_
    refine lv_bipush (v := (7 : Int32)) hx hb d_MM_sendsPlanned_7 (by decide) ?_
    refine q_iald (j := 7) hx hb hX hH (aa_MM_1 hZ) (vp_c (by decide)) (by decide) d_MM_sendsPlanned_9 ?_
    refine lv_icmp_ge (tgt := 156) hx hb d_MM_sendsPlanned_10 (by decide) (fun hc => ?_) (fun hc => ?_)
    · replace hf1 := o_t hc hf1
      obtain rfl := hR1 _ (o_v hf1).symm
      obtain rfl := o_v hf0
      exact hQ _ _ _ _ hH d_MM_sendsPlanned_156
    · replace hf1 := o_f hc hf1
      refine lv_bipush (v := (10 : Int32)) hx hb d_MM_sendsPlanned_13 (by decide) ?_
      refine lv_bipush (v := (13 : Int32)) hx hb d_MM_sendsPlanned_15 (by decide) ?_
      refine lv_iload_n hx hb d_MM_sendsPlanned_17 rfl (lv_at hl 2 rfl) ?_
      refine lv_imul hx hb d_MM_sendsPlanned_18 ?_
      refine lv_iadd hx hb d_MM_sendsPlanned_19 ?_
      refine lv_istore_n (lv' := [(3, .int ((10 : Int32) + ((13 : Int32) * x2))), (0, .ref (Z.2.2.1 0)), (1, .int x1), (2, .int x2)]) hx hb d_MM_sendsPlanned_20 rfl hl (by decide) rfl (fun ls hl => ?_)
      refine lv_aload_n hx hb d_MM_sendsPlanned_21 rfl (lv_at hl 1 rfl) ?_
      refine g_MM_9 S hX hH hZ d_MM_sendsPlanned_22 ?_
      refine lv_iload_n hx hb d_MM_sendsPlanned_25 rfl (lv_at hl 0 rfl) ?_
      obtain ⟨hn11, hf1⟩ := o_in hf1
      refine q_iald (j := ((10 : Int32) + ((13 : Int32) * x2)).toNatClampNeg) hx hb hX hH (aa_MM_1 hZ) hn11 rfl d_MM_sendsPlanned_26 ?_
      refine lv_iload_n hx hb d_MM_sendsPlanned_27 rfl (lv_at hl 2 rfl) ?_
      refine lv_icmp_ne (tgt := 150) hx hb d_MM_sendsPlanned_28 (by decide) (fun hc => ?_) (fun hc => ?_)
      · replace hf1 := o_f hc hf1
        refine lv_iinc (v := x2 + (1 : Int32)) (lv' := [(2, .int (x2 + (1 : Int32))), (3, .int ((10 : Int32) + ((13 : Int32) * x2))), (0, .ref (Z.2.2.1 0)), (1, .int x1)]) hx hb d_MM_sendsPlanned_150 hl (k := 3) rfl rfl (by decide) rfl (fun ls hl => ?_)
        refine lv_goto (tgt := 2) hx hb d_MM_sendsPlanned_153 (by decide) ?_
        exact hG1 _ (o_v hf1).symm _ _ _ hH (lv_sub hl [2, 3, 0] rfl)
      · replace hf1 := o_t hc hf1
        refine lv_aload_n hx hb d_MM_sendsPlanned_31 rfl (lv_at hl 1 rfl) ?_
        refine lv_aload_n hx hb d_MM_sendsPlanned_32 rfl (lv_at hl 1 rfl) ?_
        refine g_MM_9 S hX hH hZ d_MM_sendsPlanned_33 ?_
        refine lv_iload_n hx hb d_MM_sendsPlanned_36 rfl (lv_at hl 0 rfl) ?_
        refine lv_iconst (v := (1 : Int32)) hx hb d_MM_sendsPlanned_37 (by decide) ?_
        refine lv_iadd hx hb d_MM_sendsPlanned_38 ?_
        obtain ⟨hn12, hf1⟩ := o_in hf1
        refine q_iald (j := (((10 : Int32) + ((13 : Int32) * x2)) + (1 : Int32)).toNatClampNeg) hx hb hX hH (aa_MM_1 hZ) hn12 rfl d_MM_sendsPlanned_39 ?_
        refine q_cVi (As := [.int (M 1 (((10 : Int32) + ((13 : Int32) * x2)) + (1 : Int32)).toNatClampNeg)]) (rest := []) S hX hH (c_MM_isLiar l hI hZ M (M 1 (((10 : Int32) + ((13 : Int32) * x2)) + (1 : Int32)).toNatClampNeg) rfl) (cw_MM_205 S.2.2.2.2 (Nat.le_trans (Nat.le_of_ble_eq_true rfl) hR.1) (Nat.le_trans (Nat.le_of_ble_eq_true rfl) hR.2)) (rc_MM hX hH hZ) rfl hl.1 rfl (Nat.le_of_ble_eq_true rfl) d_MM_sendsPlanned_40 ⟨Nat.zero_le _, Nat.zero_le _⟩ (fun H locs hH => ?_)
        refine lv_if_ne (tgt := 49) hx hb d_MM_sendsPlanned_43 (by decide) (fun hc => ?_) (fun hc => ?_)
        · replace hf1 := o_f hc hf1
          refine lv_aload_n hx hb d_MM_sendsPlanned_49 rfl (lv_at hl 1 rfl) ?_
          refine lv_iload_n hx hb d_MM_sendsPlanned_50 rfl (lv_at hl 0 rfl) ?_
          refine lv_iload_n hx hb d_MM_sendsPlanned_51 rfl (lv_at hl 2 rfl) ?_
          obtain ⟨y14, hc13, hf1⟩ := o_b hf1
          refine q_cVi (As := [.int ((10 : Int32) + ((13 : Int32) * x2)), .int x1]) (rest := []) S hX hH (c_MM_isForged l hI hZ M ((10 : Int32) + ((13 : Int32) * x2)) x1 hc13) (cw_MM_291 S.2.2.2.2 (Nat.le_trans (Nat.le_of_ble_eq_true rfl) hR.1) (Nat.le_trans (Nat.le_of_ble_eq_true rfl) hR.2)) (rc_MM hX hH hZ) rfl hl.1 rfl (Nat.le_of_ble_eq_true rfl) d_MM_sendsPlanned_52 ⟨Nat.zero_le _, Nat.zero_le _⟩ (fun H locs hH => ?_)
          refine lv_if_eq (tgt := 73) hx hb d_MM_sendsPlanned_55 (by decide) (fun hc => ?_) (fun hc => ?_)
          · replace hf1 := o_t hc hf1
            refine lv_iconst (v := (0 : Int32)) hx hb d_MM_sendsPlanned_73 (by decide) ?_
            refine lv_istore (lv' := [(4, .int (0 : Int32)), (3, .int ((10 : Int32) + ((13 : Int32) * x2))), (0, .ref (Z.2.2.1 0)), (1, .int x1), (2, .int x2)]) hx hb d_MM_sendsPlanned_74 hl (by decide) rfl (fun ls hl => ?_)
            exact J76 _ _ _ _ _ _ _ hf1 hH (lv_sub hl [2, 3, 4, 1, 0] rfl)
          · replace hf1 := o_f hc hf1
            refine lv_aload_n hx hb d_MM_sendsPlanned_58 rfl (lv_at hl 1 rfl) ?_
            refine lv_dup hx hb d_MM_sendsPlanned_59 rfl ?_
            refine g_MM_294 S hX hH hZ d_MM_sendsPlanned_60 ?_
            refine lv_iconst (v := (1 : Int32)) hx hb d_MM_sendsPlanned_63 (by decide) ?_
            refine lv_iload_n hx hb d_MM_sendsPlanned_64 rfl (lv_at hl 3 rfl) ?_
            refine lv_ishl hx hb d_MM_sendsPlanned_65 ?_
            refine lv_ior hx hb d_MM_sendsPlanned_66 ?_
            obtain ⟨M15, hM15, hf1⟩ := o_l hf1
            refine s_MM_294 S hX hI hH hZ d_MM_sendsPlanned_67 (fun H locs hH => ?_)
            rw [hM15] at hH
            refine lv_goto (tgt := 150) hx hb d_MM_sendsPlanned_70 (by decide) ?_
            refine lv_iinc (v := x2 + (1 : Int32)) (lv' := [(2, .int (x2 + (1 : Int32))), (3, .int ((10 : Int32) + ((13 : Int32) * x2))), (0, .ref (Z.2.2.1 0)), (1, .int x1)]) hx hb d_MM_sendsPlanned_150 hl (k := 3) rfl rfl (by decide) rfl (fun ls hl => ?_)
            refine lv_goto (tgt := 2) hx hb d_MM_sendsPlanned_153 (by decide) ?_
            exact hG1 _ (o_v hf1).symm _ _ _ hH (lv_sub hl [2, 3, 0] rfl)
        · replace hf1 := o_t hc hf1
          refine lv_goto (tgt := 150) hx hb d_MM_sendsPlanned_46 (by decide) ?_
          refine lv_iinc (v := x2 + (1 : Int32)) (lv' := [(2, .int (x2 + (1 : Int32))), (3, .int ((10 : Int32) + ((13 : Int32) * x2))), (0, .ref (Z.2.2.1 0)), (1, .int x1)]) hx hb d_MM_sendsPlanned_150 hl (k := 3) rfl rfl (by decide) rfl (fun ls hl => ?_)
          refine lv_goto (tgt := 2) hx hb d_MM_sendsPlanned_153 (by decide) ?_
          exact hG1 _ (o_v hf1).symm _ _ _ hH (lv_sub hl [2, 3, 0] rfl)
  refine lv_iconst (v := (0 : Int32)) hx hb d_MM_sendsPlanned_0 (by decide) ?_
  refine lv_istore_n (lv' := [(2, .int (0 : Int32)), (0, .ref (Z.2.2.1 0)), (1, .int x1)]) hx hb d_MM_sendsPlanned_1 rfl hl (by decide) rfl (fun ls hl => ?_)
  exact J2 _ _ _ _ _ _ hf0 hH (lv_sub hl [1, 2, 0] rfl)
theorem c_MM_sendsPlanned (l : Launch) {Z : WD} (hI : wI Z) (hZ : IsM Z) (M : Mem) (x1 : Int32) {M' : Mem} (hf : f_MM_sendsPlanned M x1 = some M') : Cv l Z y_MM_sendsPlanned b_MM_sendsPlanned 5 none 3 76 [.ref (Z.2.2.1 0), .int x1] M M' := by
  refine Met.ofW (cc := b_MM_sendsPlanned) (maxL := 5) (ret := none) (by decide) rfl ?_
  intro p e s m args below meth c s₁ B hml hv
  obtain ⟨rfl, hP, hX⟩ := hv
  have S : CallFix p m c b_MM_sendsPlanned 5 s ([.ref (Z.2.2.1 0), .int x1] : List Value).toArray gtb R_MM := ⟨B.exec, B.bytes, hml, findClass_of_methodNamed B.named, fun w hw => atoms_spec (ws := .code y_MM_sendsPlanned b_MM_sendsPlanned 5 none :: gtb) B.pre w (List.mem_cons_of_mem _ hw)⟩
  have hl := lv_entry ([.ref (Z.2.2.1 0), .int x1]) (n := 5) (Nat.le_of_ble_eq_true rfl)
  rw [lg_entry_eq]
  exact wk_MM_sendsPlanned hI hZ M x1 S hX ⟨Nat.le_refl _, Nat.le_refl _⟩ (fun pc H locs ls hH d => q_rv S.1 S.2.1 B.returns B.notSynchronized hH rfl d) hf ⟨hP, va_S.rf⟩ hl
noncomputable def f_MM_reads_J100 (M : Mem) (x1 : Int32) (x2 : Int32) (x3 : Int32) (s0 : Int32) (s1 : Int32) : Option ((Int32 × Mem) ⊕ Mem) := gIn s1 260 (lt1 (upM M 15 s1.toNatClampNeg s0) (fun M2 => 
    gIn x3 32 (if (M2 17 x3.toNatClampNeg) = (-1 : Int32) then 
    lt1 (upM M2 17 x3.toNatClampNeg x1) (fun M4 => lt1 (upM M4 18 x3.toNatClampNeg x2) (fun M5 => some (.inl (x2 + (1 : Int32), M5)))) else some (.inl (x2 + (1 : Int32), M2)))))
noncomputable def f_MM_reads_L2 (x1 : Int32) (x2 : Int32) (M : Mem) : Option ((Int32 × Mem) ⊕ Mem) := if (M 0 21) ≤ x2 then some (.inr M) else 
    gIn x2 260 (if (M 14 x2.toNatClampNeg) = x1 then 
    if (bI (f_MM_isLiar M (M 11 x2.toNatClampNeg))) = 0 then 
    gIn ((8 : Int32) * x2) 2080 (if (M 16 ((8 : Int32) * x2).toNatClampNeg) = (M 1 1) then 
    if x1 ≤ (M 13 x2.toNatClampNeg) then 
    gIn (f_MM_cell (M 11 x2.toNatClampNeg) (M 12 x2.toNatClampNeg)) 32 (if (M 17 (f_MM_cell (M 11 x2.toNatClampNeg) (M 12 x2.toNatClampNeg)).toNatClampNeg) = (-1 : Int32) then f_MM_reads_J100 M x1 x2 (f_MM_cell (M 11 x2.toNatClampNeg) (M 12 x2.toNatClampNeg)) (2 : Int32) x2 else f_MM_reads_J100 M x1 x2 (f_MM_cell (M 11 x2.toNatClampNeg) (M 12 x2.toNatClampNeg)) (1 : Int32) x2) else some (.inl (x2 + (1 : Int32), M)) else some (.inl (x2 + (1 : Int32), M))) else some (.inl (x2 + (1 : Int32), M)) else some (.inl (x2 + (1 : Int32), M)))
noncomputable def f_MM_reads_W2 (x1 : Int32) (u : (Int32 × Mem)) : Option Mem := loop (fun t => f_MM_reads_L2 x1 t.1 t.2) u
noncomputable def f_MM_reads_J2 (M : Mem) (x1 : Int32) (x2 : Int32) : Option (Mem) := bnd (f_MM_reads_W2 x1 (x2, M)) (fun e2 => some e2)
noncomputable def f_MM_reads (M : Mem) (x1 : Int32) : Option Mem := f_MM_reads_J2 M x1 (0 : Int32)
set_option maxHeartbeats 4000000 in
theorem wk_MM_reads {l : Launch} {Z : WD} (hI : wI Z) (hZ : IsM Z) (M : Mem) (x1 : Int32) {M' : Mem} {p : Program} {e : Env} {R : Room} {s : State} {m : MethodId} {args : Array Value} {below : List Frame} {meth : Method} {c : Code} {H : Heap} {locs : List Loc} {ls : Array Slot} {Q : State → Prop} (S : CallFix p m c b_MM_reads 4 s args gtb R_MM) (hX : wX Z s) (hR : 2 ≤ R.frames ∧ 42 ≤ R.locals) (hQ : ∀ (pc : Nat) (H : Heap) (locs : List Loc) (ls : Array Slot), HW Z M' s H locs → decode b_MM_reads pc = .ok (.return_, 1) → W p l e R s m args below meth c H locs 0 0 Q (F0 m pc ls [])) (hf0 : f_MM_reads M x1 = some M') (hH : HW Z M s H locs) (hl : lv_has ls 4 [(0, .ref (Z.2.2.1 0)), (1, .int x1)]) : W p l e R s m args below meth c H locs 0 0 Q (F0 m 0 ls []) := by
  have hx := S.1
  have hb := S.2.1
  have hown := S.2.2.2.1
  have ht := S.2.2.2.2
  unfold f_MM_reads at hf0
  have J2 : ∀ (M : Mem) (x1 : Int32) (x2 : Int32) (H : Heap) (locs : List Loc) (ls : Array Slot), f_MM_reads_J2 M x1 x2 = some M' → HW Z M s H locs → lv_has ls 4 [(0, .ref (Z.2.2.1 0)), (1, .int x1), (2, .int x2)] → W p l e R s m args below meth c H locs 0 0 Q (F0 m 2 ls []) := by
    intro M x1 x2 H locs ls hf0 hH hl
    unfold f_MM_reads_J2 at hf0
    obtain ⟨e2, he2, hf0⟩ := o_b hf0
    unfold f_MM_reads_W2 at he2
    refine loop_W (fun t => ∀ (H : Heap) (locs : List Loc) (ls : Array Slot), HW Z t.2 s H locs → lv_has ls 4 [(0, .ref (Z.2.2.1 0)), (1, .int x1), (2, .int t.1)] → W p l e R s m args below meth c H locs 0 0 Q (F0 m 2 ls [])) ?_ he2 H locs ls hH hl
    rintro ⟨x2, M⟩ o1 hf1 hG1 hR1 H locs ls hH hl
    replace hH : HW Z M s H locs := hH
    replace hl : lv_has ls 4 [(0, .ref (Z.2.2.1 0)), (1, .int x1), (2, .int x2)] := hl
    replace hf1 : f_MM_reads_L2 x1 x2 M = some o1 := hf1
    unfold f_MM_reads_L2 at hf1
    have J100 : ∀ (M : Mem) (x2 : Int32) (x3 : Int32) (s0 : Int32) (s1 : Int32) (H : Heap) (locs : List Loc) (ls : Array Slot), f_MM_reads_J100 M x1 x2 x3 s0 s1 = some o1 → HW Z M s H locs → lv_has ls 4 [(0, .ref (Z.2.2.1 0)), (1, .int x1), (2, .int x2), (3, .int x3)] → W p l e R s m args below meth c H locs 0 0 Q (F0 m 100 ls [.int s0, .int s1, .ref (Z.2.2.1 15)]) := by
      intro M x2 x3 s0 s1 H locs ls hf1 hH hl
      unfold f_MM_reads_J100 at hf1
      obtain ⟨hn1, hf1⟩ := o_in hf1
      obtain ⟨M2, hM2, hf1⟩ := o_l hf1
      refine q_iast (j := s1.toNatClampNeg) hx hb hX hI hH (aa_MM_15 hZ) hn1 rfl d_MM_reads_100 (fun H locs hH => ?_)
      rw [hM2] at hH
      refine lv_aload_n hx hb d_MM_reads_101 rfl (lv_at hl 0 rfl) ?_
      refine g_MM_60 S hX hH hZ d_MM_reads_102 ?_
      refine lv_iload_n hx hb d_MM_reads_105 rfl (lv_at hl 3 rfl) ?_
      obtain ⟨hn3, hf1⟩ := o_in hf1
      refine q_iald (j := x3.toNatClampNeg) hx hb hX hH (aa_MM_17 hZ) hn3 rfl d_MM_reads_106 ?_
      refine lv_iconst (v := (-1 : Int32)) hx hb d_MM_reads_107 (by decide) ?_
      refine lv_icmp_ne (tgt := 125) hx hb d_MM_reads_108 (by decide) (fun hc => ?_) (fun hc => ?_)
      · replace hf1 := o_f hc hf1
        refine lv_iinc (v := x2 + (1 : Int32)) (lv' := [(2, .int (x2 + (1 : Int32))), (0, .ref (Z.2.2.1 0)), (1, .int x1), (3, .int x3)]) hx hb d_MM_reads_125 hl (k := 2) rfl rfl (by decide) rfl (fun ls hl => ?_)
        refine lv_goto (tgt := 2) hx hb d_MM_reads_128 (by decide) ?_
        exact hG1 _ (o_v hf1).symm _ _ _ hH (lv_sub hl [1, 2, 0] rfl)
      · replace hf1 := o_t hc hf1
        refine lv_aload_n hx hb d_MM_reads_111 rfl (lv_at hl 0 rfl) ?_
        refine g_MM_60 S hX hH hZ d_MM_reads_112 ?_
        refine lv_iload_n hx hb d_MM_reads_115 rfl (lv_at hl 3 rfl) ?_
        refine lv_iload_n hx hb d_MM_reads_116 rfl (lv_at hl 1 rfl) ?_
        obtain ⟨M4, hM4, hf1⟩ := o_l hf1
        refine q_iast (j := x3.toNatClampNeg) hx hb hX hI hH (aa_MM_17 hZ) hn3 rfl d_MM_reads_117 (fun H locs hH => ?_)
        rw [hM4] at hH
        refine lv_aload_n hx hb d_MM_reads_118 rfl (lv_at hl 0 rfl) ?_
        refine g_MM_63 S hX hH hZ d_MM_reads_119 ?_
        refine lv_iload_n hx hb d_MM_reads_122 rfl (lv_at hl 3 rfl) ?_
        refine lv_iload_n hx hb d_MM_reads_123 rfl (lv_at hl 2 rfl) ?_
        obtain ⟨M5, hM5, hf1⟩ := o_l hf1
        refine q_iast (j := x3.toNatClampNeg) hx hb hX hI hH (aa_MM_18 hZ) hn3 rfl d_MM_reads_124 (fun H locs hH => ?_)
        rw [hM5] at hH
        refine lv_iinc (v := x2 + (1 : Int32)) (lv' := [(2, .int (x2 + (1 : Int32))), (0, .ref (Z.2.2.1 0)), (1, .int x1), (3, .int x3)]) hx hb d_MM_reads_125 hl (k := 2) rfl rfl (by decide) rfl (fun ls hl => ?_)
        refine lv_goto (tgt := 2) hx hb d_MM_reads_128 (by decide) ?_
        exact hG1 _ (o_v hf1).symm _ _ _ hH (lv_sub hl [1, 2, 0] rfl)
    refine lv_iload_n hx hb d_MM_reads_2 rfl (lv_at hl 2 rfl) ?_
    refine lv_aload_n hx hb d_MM_reads_3 rfl (lv_at hl 0 rfl) ?_
    refine g_MM_264 S hX hH hZ d_MM_reads_4 ?_
    refine lv_icmp_ge (tgt := 131) hx hb d_MM_reads_7 (by decide) (fun hc => ?_) (fun hc => ?_)
    · replace hf1 := o_t hc hf1
      obtain rfl := hR1 _ (o_v hf1).symm
      obtain rfl := o_v hf0
      exact hQ _ _ _ _ hH d_MM_reads_131
    · replace hf1 := o_f hc hf1
      refine lv_aload_n hx hb d_MM_reads_10 rfl (lv_at hl 0 rfl) ?_
      refine g_MM_51 S hX hH hZ d_MM_reads_11 ?_
      refine lv_iload_n hx hb d_MM_reads_14 rfl (lv_at hl 2 rfl) ?_
      obtain ⟨hn6, hf1⟩ := o_in hf1
      refine q_iald (j := x2.toNatClampNeg) hx hb hX hH (aa_MM_14 hZ) hn6 rfl d_MM_reads_15 ?_
      refine lv_iload_n hx hb d_MM_reads_16 rfl (lv_at hl 1 rfl) ?_
      refine lv_icmp_ne (tgt := 125) hx hb d_MM_reads_17 (by decide) (fun hc => ?_) (fun hc => ?_)
      · replace hf1 := o_f hc hf1
        refine lv_iinc (v := x2 + (1 : Int32)) (lv' := [(2, .int (x2 + (1 : Int32))), (0, .ref (Z.2.2.1 0)), (1, .int x1)]) hx hb d_MM_reads_125 hl (k := 2) rfl rfl (by decide) rfl (fun ls hl => ?_)
        refine lv_goto (tgt := 2) hx hb d_MM_reads_128 (by decide) ?_
        exact hG1 _ (o_v hf1).symm _ _ _ hH (lv_sub hl [1, 2, 0] rfl)
      · replace hf1 := o_t hc hf1
        refine lv_aload_n hx hb d_MM_reads_20 rfl (lv_at hl 0 rfl) ?_
        refine lv_aload_n hx hb d_MM_reads_21 rfl (lv_at hl 0 rfl) ?_
        refine g_MM_42 S hX hH hZ d_MM_reads_22 ?_
        refine lv_iload_n hx hb d_MM_reads_25 rfl (lv_at hl 2 rfl) ?_
        refine q_iald (j := x2.toNatClampNeg) hx hb hX hH (aa_MM_11 hZ) hn6 rfl d_MM_reads_26 ?_
        refine q_cVi (As := [.int (M 11 x2.toNatClampNeg)]) (rest := []) S hX hH (c_MM_isLiar l hI hZ M (M 11 x2.toNatClampNeg) rfl) (cw_MM_205 S.2.2.2.2 (Nat.le_trans (Nat.le_of_ble_eq_true rfl) hR.1) (Nat.le_trans (Nat.le_of_ble_eq_true rfl) hR.2)) (rc_MM hX hH hZ) rfl hl.1 rfl (Nat.le_of_ble_eq_true rfl) d_MM_reads_27 ⟨Nat.zero_le _, Nat.zero_le _⟩ (fun H locs hH => ?_)
        refine lv_if_ne (tgt := 125) hx hb d_MM_reads_30 (by decide) (fun hc => ?_) (fun hc => ?_)
        · replace hf1 := o_f hc hf1
          refine lv_iinc (v := x2 + (1 : Int32)) (lv' := [(2, .int (x2 + (1 : Int32))), (0, .ref (Z.2.2.1 0)), (1, .int x1)]) hx hb d_MM_reads_125 hl (k := 2) rfl rfl (by decide) rfl (fun ls hl => ?_)
          refine lv_goto (tgt := 2) hx hb d_MM_reads_128 (by decide) ?_
          exact hG1 _ (o_v hf1).symm _ _ _ hH (lv_sub hl [1, 2, 0] rfl)
        · replace hf1 := o_t hc hf1
          refine lv_aload_n hx hb d_MM_reads_33 rfl (lv_at hl 0 rfl) ?_
          refine g_MM_57 S hX hH hZ d_MM_reads_34 ?_
          refine lv_bipush (v := (8 : Int32)) hx hb d_MM_reads_37 (by decide) ?_
          refine lv_iload_n hx hb d_MM_reads_39 rfl (lv_at hl 2 rfl) ?_
          refine lv_imul hx hb d_MM_reads_40 ?_
          obtain ⟨hn7, hf1⟩ := o_in hf1
          refine q_iald (j := ((8 : Int32) * x2).toNatClampNeg) hx hb hX hH (aa_MM_16 hZ) hn7 rfl d_MM_reads_41 ?_
          refine lv_aload_n hx hb d_MM_reads_42 rfl (lv_at hl 0 rfl) ?_
          refine g_MM_9 S hX hH hZ d_MM_reads_43 ?_
          refine lv_iconst (v := (1 : Int32)) hx hb d_MM_reads_46 (by decide) ?_
          refine q_iald (j := 1) hx hb hX hH (aa_MM_1 hZ) (vp_c (by decide)) (by decide) d_MM_reads_47 ?_
          refine lv_icmp_ne (tgt := 125) hx hb d_MM_reads_48 (by decide) (fun hc => ?_) (fun hc => ?_)
          · replace hf1 := o_f hc hf1
            refine lv_iinc (v := x2 + (1 : Int32)) (lv' := [(2, .int (x2 + (1 : Int32))), (0, .ref (Z.2.2.1 0)), (1, .int x1)]) hx hb d_MM_reads_125 hl (k := 2) rfl rfl (by decide) rfl (fun ls hl => ?_)
            refine lv_goto (tgt := 2) hx hb d_MM_reads_128 (by decide) ?_
            exact hG1 _ (o_v hf1).symm _ _ _ hH (lv_sub hl [1, 2, 0] rfl)
          · replace hf1 := o_t hc hf1
            refine lv_aload_n hx hb d_MM_reads_51 rfl (lv_at hl 0 rfl) ?_
            refine g_MM_48 S hX hH hZ d_MM_reads_52 ?_
            refine lv_iload_n hx hb d_MM_reads_55 rfl (lv_at hl 2 rfl) ?_
            refine q_iald (j := x2.toNatClampNeg) hx hb hX hH (aa_MM_13 hZ) hn6 rfl d_MM_reads_56 ?_
            refine lv_iload_n hx hb d_MM_reads_57 rfl (lv_at hl 1 rfl) ?_
            refine lv_icmp_ge (tgt := 64) hx hb d_MM_reads_58 (by decide) (fun hc => ?_) (fun hc => ?_)
            · replace hf1 := o_t hc hf1
              refine lv_aload_n hx hb d_MM_reads_64 rfl (lv_at hl 0 rfl) ?_
              refine g_MM_42 S hX hH hZ d_MM_reads_65 ?_
              refine lv_iload_n hx hb d_MM_reads_68 rfl (lv_at hl 2 rfl) ?_
              refine q_iald (j := x2.toNatClampNeg) hx hb hX hH (aa_MM_11 hZ) hn6 rfl d_MM_reads_69 ?_
              refine lv_aload_n hx hb d_MM_reads_70 rfl (lv_at hl 0 rfl) ?_
              refine g_MM_45 S hX hH hZ d_MM_reads_71 ?_
              refine lv_iload_n hx hb d_MM_reads_74 rfl (lv_at hl 2 rfl) ?_
              refine q_iald (j := x2.toNatClampNeg) hx hb hX hH (aa_MM_12 hZ) hn6 rfl d_MM_reads_75 ?_
              refine q_cSi (As := [.int (M 11 x2.toNatClampNeg), .int (M 12 x2.toNatClampNeg)]) (rest := []) S hX hH (c_MM_cell l hI M (M 11 x2.toNatClampNeg) (M 12 x2.toNatClampNeg) rfl) (cw_MM_276 S.2.2.2.2 (Nat.le_trans (Nat.le_of_ble_eq_true rfl) hR.1) (Nat.le_trans (Nat.le_of_ble_eq_true rfl) hR.2)) rfl hl.1 rfl (Nat.le_of_ble_eq_true rfl) d_MM_reads_76 ⟨Nat.zero_le _, Nat.zero_le _⟩ (fun H locs hH => ?_)
              refine lv_istore_n (lv' := [(3, .int (f_MM_cell (M 11 x2.toNatClampNeg) (M 12 x2.toNatClampNeg))), (0, .ref (Z.2.2.1 0)), (1, .int x1), (2, .int x2)]) hx hb d_MM_reads_79 rfl hl (by decide) rfl (fun ls hl => ?_)
              refine lv_aload_n hx hb d_MM_reads_80 rfl (lv_at hl 1 rfl) ?_
              refine g_MM_54 S hX hH hZ d_MM_reads_81 ?_
              refine lv_iload_n hx hb d_MM_reads_84 rfl (lv_at hl 3 rfl) ?_
              refine lv_aload_n hx hb d_MM_reads_85 rfl (lv_at hl 1 rfl) ?_
              refine g_MM_60 S hX hH hZ d_MM_reads_86 ?_
              refine lv_iload_n hx hb d_MM_reads_89 rfl (lv_at hl 0 rfl) ?_
              obtain ⟨hn8, hf1⟩ := o_in hf1
              refine q_iald (j := (f_MM_cell (M 11 x2.toNatClampNeg) (M 12 x2.toNatClampNeg)).toNatClampNeg) hx hb hX hH (aa_MM_17 hZ) hn8 rfl d_MM_reads_90 ?_
              refine lv_iconst (v := (-1 : Int32)) hx hb d_MM_reads_91 (by decide) ?_
              refine lv_icmp_ne (tgt := 99) hx hb d_MM_reads_92 (by decide) (fun hc => ?_) (fun hc => ?_)
              · replace hf1 := o_f hc hf1
                refine lv_iconst (v := (1 : Int32)) hx hb d_MM_reads_99 (by decide) ?_
                exact J100 _ _ _ _ _ _ _ _ hf1 hH (lv_sub hl [1, 2, 3, 0] rfl)
              · replace hf1 := o_t hc hf1
                refine lv_iconst (v := (2 : Int32)) hx hb d_MM_reads_95 (by decide) ?_
                refine lv_goto (tgt := 100) hx hb d_MM_reads_96 (by decide) ?_
                exact J100 _ _ _ _ _ _ _ _ hf1 hH (lv_sub hl [1, 2, 3, 0] rfl)
            · replace hf1 := o_f hc hf1
              refine lv_goto (tgt := 125) hx hb d_MM_reads_61 (by decide) ?_
              refine lv_iinc (v := x2 + (1 : Int32)) (lv' := [(2, .int (x2 + (1 : Int32))), (0, .ref (Z.2.2.1 0)), (1, .int x1)]) hx hb d_MM_reads_125 hl (k := 2) rfl rfl (by decide) rfl (fun ls hl => ?_)
              refine lv_goto (tgt := 2) hx hb d_MM_reads_128 (by decide) ?_
              exact hG1 _ (o_v hf1).symm _ _ _ hH (lv_sub hl [1, 2, 0] rfl)
  refine lv_iconst (v := (0 : Int32)) hx hb d_MM_reads_0 (by decide) ?_
  refine lv_istore_n (lv' := [(2, .int (0 : Int32)), (0, .ref (Z.2.2.1 0)), (1, .int x1)]) hx hb d_MM_reads_1 rfl hl (by decide) rfl (fun ls hl => ?_)
  exact J2 _ _ _ _ _ _ hf0 hH (lv_sub hl [1, 2, 0] rfl)
theorem c_MM_reads (l : Launch) {Z : WD} (hI : wI Z) (hZ : IsM Z) (M : Mem) (x1 : Int32) {M' : Mem} (hf : f_MM_reads M x1 = some M') : Cv l Z y_MM_reads b_MM_reads 4 none 2 42 [.ref (Z.2.2.1 0), .int x1] M M' := by
  refine Met.ofW (cc := b_MM_reads) (maxL := 4) (ret := none) (by decide) rfl ?_
  intro p e s m args below meth c s₁ B hml hv
  obtain ⟨rfl, hP, hX⟩ := hv
  have S : CallFix p m c b_MM_reads 4 s ([.ref (Z.2.2.1 0), .int x1] : List Value).toArray gtb R_MM := ⟨B.exec, B.bytes, hml, findClass_of_methodNamed B.named, fun w hw => atoms_spec (ws := .code y_MM_reads b_MM_reads 4 none :: gtb) B.pre w (List.mem_cons_of_mem _ hw)⟩
  have hl := lv_entry ([.ref (Z.2.2.1 0), .int x1]) (n := 4) (Nat.le_of_ble_eq_true rfl)
  rw [lg_entry_eq]
  exact wk_MM_reads hI hZ M x1 S hX ⟨Nat.le_refl _, Nat.le_refl _⟩ (fun pc H locs ls hH d => q_rv S.1 S.2.1 B.returns B.notSynchronized hH rfl d) hf ⟨hP, va_S.rf⟩ hl
theorem cw_MM_303 {R : Room} {s : State} {args : Array Value} (ht : ∀ w ∈ gtb, w.before args s = true) (h1 : 4 + 1 ≤ R.frames) (h2 : 8 + (6 + 11) + 101 ≤ R.locals) : CallW R s args R_MM R_MM 303 y_MM_sendsHonest b_MM_sendsHonest 6 none (.code y_MM_sendsHonest b_MM_sendsHonest 6 none :: gtb) { frames := 4, cells := 0, slots := 0, locals := 101 } 0 0 2 := cwV 2 ht (gV w6_26 w6_28 ws_MM_sendsHonest w1_10 w6_29) rfl rfl rfl ⟨rfl, by decide, by decide, by decide +kernel⟩ ⟨h1, h2⟩
theorem cw_MM_306 {R : Room} {s : State} {args : Array Value} (ht : ∀ w ∈ gtb, w.before args s = true) (h1 : 3 + 1 ≤ R.frames) (h2 : 8 + (5 + 11) + 76 ≤ R.locals) : CallW R s args R_MM R_MM 306 y_MM_sendsPlanned b_MM_sendsPlanned 5 none (.code y_MM_sendsPlanned b_MM_sendsPlanned 5 none :: gtb) { frames := 3, cells := 0, slots := 0, locals := 76 } 0 0 1 := cwV 1 ht (gV w6_46 w6_48 ws_MM_sendsPlanned w1_10 w6_49) rfl rfl rfl ⟨rfl, by decide, by decide, by decide +kernel⟩ ⟨h1, h2⟩
theorem cw_MM_309 {R : Room} {s : State} {args : Array Value} (ht : ∀ w ∈ gtb, w.before args s = true) (h1 : 2 + 1 ≤ R.frames) (h2 : 8 + (4 + 11) + 42 ≤ R.locals) : CallW R s args R_MM R_MM 309 y_MM_reads b_MM_reads 4 none (.code y_MM_reads b_MM_reads 4 none :: gtb) { frames := 2, cells := 0, slots := 0, locals := 42 } 0 0 1 := cwV 1 ht (gV w6_54 w6_56 ws_MM_reads w1_10 w6_57) rfl rfl rfl ⟨rfl, by decide, by decide, by decide +kernel⟩ ⟨h1, h2⟩
theorem cw_MM_300 {R : Room} {s : State} {args : Array Value} (ht : ∀ w ∈ gtb, w.before args s = true) (h1 : 2 + 1 ≤ R.frames) (h2 : 8 + (2 + 11) + 46 ≤ R.locals) : CallW R s args R_MM R_MM 300 y_MM_isHonest b_MM_isHonest 2 (some .boolean) (.code y_MM_isHonest b_MM_isHonest 2 (some .boolean) :: gtb) { frames := 2, cells := 0, slots := 0, locals := 46 } 0 0 1 := cwV 1 ht (gV w6_15 w6_17 ws_MM_isHonest w1_10 w6_18) rfl rfl rfl ⟨rfl, by decide, by decide, by decide +kernel⟩ ⟨h1, h2⟩
noncomputable def f_MM_runs_L219 (x1 : Int32) (x2 : Int32) (M : Mem) : Option ((Int32 × Mem) ⊕ Mem) := if (M 1 0) ≤ x2 then some (.inr M) else 
    if (bI (f_MM_isLiar M x2)) = 0 then bnd (f_MM_sendsHonest M x1 x2) (fun M2 => some (.inl (x2 + (1 : Int32), M2))) else some (.inl (x2 + (1 : Int32), M))
noncomputable def f_MM_runs_W219 (x1 : Int32) (u : (Int32 × Mem)) : Option Mem := loop (fun t => f_MM_runs_L219 x1 t.1 t.2) u
noncomputable def f_MM_runs_J219 (M : Mem) (x1 : Int32) (x2 : Int32) : Option ((Int32 × Mem) ⊕ Mem) := bnd (f_MM_runs_W219 x1 (x2, M)) (fun e219 => bnd (f_MM_sendsPlanned e219 x1) (fun M4 => bnd (f_MM_reads M4 x1) (fun M6 => some (.inl (x1 + (1 : Int32), M6)))))
noncomputable def f_MM_runs_L198 (x1 : Int32) (M : Mem) : Option ((Int32 × Mem) ⊕ Mem) := if (M 1 3) < x1 then some (.inr M) else if (M 1 0) ≤ 0 then some (.inr M) else f_MM_runs_J219 M x1 (0 : Int32)
noncomputable def f_MM_runs_W198  (u : (Int32 × Mem)) : Option Mem := loop (fun t => f_MM_runs_L198 t.1 t.2) u
noncomputable def f_MM_runs_J198 (M : Mem) (x1 : Int32) : Option (Mem) := bnd (f_MM_runs_W198 (x1, M)) (fun e198 => some e198)
noncomputable def f_MM_runs_J186 (M : Mem) (x1 : Int32) (s0 : Int32) (s1 : Int32) : Option ((Int32 × Mem) ⊕ Mem) := lt1 (upM M 0 26 (s1 ||| s0)) (fun M7 => some (.inl (x1 + (1 : Int32), M7)))
noncomputable def f_MM_runs_J179 (M : Mem) (x1 : Int32) (s0 : Int32) : Option ((Int32 × Mem) ⊕ Mem) := f_MM_runs_J186 M x1 ((1 : Int32) <<< (x1 &&& 31)) s0
noncomputable def f_MM_runs_L125 (x1 : Int32) (M : Mem) : Option ((Int32 × Mem) ⊕ Mem) := if (M 1 7) ≤ x1 then some (.inr M) else 
    gIn ((10 : Int32) + ((13 : Int32) * x1)) 302 (if (M 1 3) < (M 1 ((10 : Int32) + ((13 : Int32) * x1)).toNatClampNeg) then f_MM_runs_J179 M x1 (M 0 26) else 
    gIn (((10 : Int32) + ((13 : Int32) * x1)) + (1 : Int32)) 302 (if (bI (f_MM_isLiar M (M 1 (((10 : Int32) + ((13 : Int32) * x1)) + (1 : Int32)).toNatClampNeg))) = 0 then f_MM_runs_J179 M x1 (M 0 26) else f_MM_runs_J186 M x1 (0 : Int32) (M 0 26)))
noncomputable def f_MM_runs_W125  (u : (Int32 × Mem)) : Option Mem := loop (fun t => f_MM_runs_L125 t.1 t.2) u
noncomputable def f_MM_runs_J125 (M : Mem) (x1 : Int32) : Option (Mem) := bnd (f_MM_runs_W125 (x1, M)) (fun e125 => f_MM_runs_J198 e125 (1 : Int32))
noncomputable def f_MM_runs_J123 (M : Mem) : Option (Mem) := f_MM_runs_J125 M (0 : Int32)
noncomputable def f_MM_runs_J76 (M : Mem) (x1 : Int32) (x2 : Int32) (s0 : Int32) (s1 : Int32) : Option ((Int32 × Mem) ⊕ Mem) := gIn s1 32 (lt1 (upM M 19 s1.toNatClampNeg s0) (fun M11 => some (.inl (x2 + (1 : Int32), M11))))
noncomputable def f_MM_runs_L25 (x1 : Int32) (x2 : Int32) (M : Mem) : Option ((Int32 × Mem) ⊕ Mem) := if (4 : Int32) ≤ x2 then some (.inr M) else 
    gIn (f_MM_cell x1 x2) 32 (lt1 (upM M 17 ((f_MM_cell x1 x2).toNatClampNeg) (-1 : Int32)) (fun M13 => 
    lt1 (upM M13 18 ((f_MM_cell x1 x2).toNatClampNeg) (-1 : Int32)) (fun M14 => 
    if (bI (f_MM_isLiar M14 x1)) = 0 then f_MM_runs_J76 M14 x1 x2 (1000 : Int32) (f_MM_cell x1 x2) else f_MM_runs_J76 M14 x1 x2 (0 : Int32) (f_MM_cell x1 x2))))
noncomputable def f_MM_runs_W25 (x1 : Int32) (u : (Int32 × Mem)) : Option Mem := loop (fun t => f_MM_runs_L25 x1 t.1 t.2) u
noncomputable def f_MM_runs_J25 (M : Mem) (x1 : Int32) (x2 : Int32) : Option ((Int32 × Mem) ⊕ Mem) := bnd (f_MM_runs_W25 x1 (x2, M)) (fun e25 => some (.inl (x1 + (1 : Int32), e25)))
noncomputable def f_MM_runs_L17 (x1 : Int32) (M : Mem) : Option ((Int32 × Mem) ⊕ Mem) := if (8 : Int32) ≤ x1 then some (.inr M) else f_MM_runs_J25 M x1 (0 : Int32)
noncomputable def f_MM_runs_W17  (u : (Int32 × Mem)) : Option Mem := loop (fun t => f_MM_runs_L17 t.1 t.2) u
noncomputable def f_MM_runs_J17 (M : Mem) (x1 : Int32) : Option (Mem) := bnd (f_MM_runs_W17 (x1, M)) (fun e17 => if (bI (f_MM_isHonest e17 (e17 1 1))) = 0 then f_MM_runs_J123 e17 else 
    gIn (f_MM_cell (e17 1 1) (e17 1 2)) 32 (lt1 (upM e17 17 ((f_MM_cell (e17 1 1) (e17 1 2)).toNatClampNeg) (0 : Int32)) (fun M16 => f_MM_runs_J123 M16)))
noncomputable def f_MM_runs (M : Mem) : Option Mem := 
    lt1 (upM M 0 21 (0 : Int32)) (fun M17 => 
    lt1 (upM M17 0 25 (0 : Int32)) (fun M18 => lt1 (upM M18 0 26 (0 : Int32)) (fun M19 => f_MM_runs_J17 M19 (0 : Int32))))
set_option maxHeartbeats 4000000 in
theorem wk_MM_runs {l : Launch} {Z : WD} (hI : wI Z) (hZ : IsM Z) (M : Mem) {M' : Mem} {p : Program} {e : Env} {R : Room} {s : State} {m : MethodId} {args : Array Value} {below : List Frame} {meth : Method} {c : Code} {H : Heap} {locs : List Loc} {ls : Array Slot} {Q : State → Prop} (S : CallFix p m c b_MM_runs 3 s args gtb R_MM) (hX : wX Z s) (hR : 5 ≤ R.frames ∧ 126 ≤ R.locals) (hQ : ∀ (pc : Nat) (H : Heap) (locs : List Loc) (ls : Array Slot), HW Z M' s H locs → decode b_MM_runs pc = .ok (.return_, 1) → W p l e R s m args below meth c H locs 0 0 Q (F0 m pc ls [])) (hf0 : f_MM_runs M = some M') (hH : HW Z M s H locs) (hl : lv_has ls 3 [(0, .ref (Z.2.2.1 0))]) : W p l e R s m args below meth c H locs 0 0 Q (F0 m 0 ls []) := by
  have hx := S.1
  have hb := S.2.1
  have hown := S.2.2.2.1
  have ht := S.2.2.2.2
  unfold f_MM_runs at hf0
  have J198 : ∀ (M : Mem) (x1 : Int32) (H : Heap) (locs : List Loc) (ls : Array Slot), f_MM_runs_J198 M x1 = some M' → HW Z M s H locs → lv_has ls 3 [(0, .ref (Z.2.2.1 0)), (1, .int x1)] → W p l e R s m args below meth c H locs 0 0 Q (F0 m 198 ls []) := by
    intro M x1 H locs ls hf0 hH hl
    unfold f_MM_runs_J198 at hf0
    obtain ⟨e198, he198, hf0⟩ := o_b hf0
    unfold f_MM_runs_W198 at he198
    refine loop_W (fun t => ∀ (H : Heap) (locs : List Loc) (ls : Array Slot), HW Z t.2 s H locs → lv_has ls 3 [(0, .ref (Z.2.2.1 0)), (1, .int t.1)] → W p l e R s m args below meth c H locs 0 0 Q (F0 m 198 ls [])) ?_ he198 H locs ls hH hl
    rintro ⟨x1, M⟩ o1 hf1 hG1 hR1 H locs ls hH hl
    replace hH : HW Z M s H locs := hH
    replace hl : lv_has ls 3 [(0, .ref (Z.2.2.1 0)), (1, .int x1)] := hl
    replace hf1 : f_MM_runs_L198 x1 M = some o1 := hf1
    unfold f_MM_runs_L198 at hf1
    have J219 : ∀ (M : Mem) (x1 : Int32) (x2 : Int32) (H : Heap) (locs : List Loc) (ls : Array Slot), f_MM_runs_J219 M x1 x2 = some o1 → HW Z M s H locs → lv_has ls 3 [(0, .ref (Z.2.2.1 0)), (1, .int x1), (2, .int x2)] → W p l e R s m args below meth c H locs 0 0 Q (F0 m 219 ls []) := by
      intro M x1 x2 H locs ls hf1 hH hl
      unfold f_MM_runs_J219 at hf1
      obtain ⟨e219, he219, hf1⟩ := o_b hf1
      have KX219 : ∀ (H : Heap) (locs : List Loc) (ls : Array Slot), HW Z e219 s H locs → lv_has ls 3 [(0, .ref (Z.2.2.1 0)), (1, .int x1)] → W p l e R s m args below meth c H locs 0 0 Q (F0 m 249 ls []) := by
        intro H locs ls hH hl
        refine lv_aload_n hx hb d_MM_runs_249 rfl (lv_at hl 0 rfl) ?_
        refine lv_iload_n hx hb d_MM_runs_250 rfl (lv_at hl 1 rfl) ?_
        obtain ⟨M4, hc3, hf1⟩ := o_b hf1
        refine q_cVv (As := [.int x1]) (rest := []) S hX hH (c_MM_sendsPlanned l hI hZ e219 x1 hc3) (cw_MM_306 S.2.2.2.2 (Nat.le_trans (Nat.le_of_ble_eq_true rfl) hR.1) (Nat.le_trans (Nat.le_of_ble_eq_true rfl) hR.2)) (rc_MM hX hH hZ) rfl hl.1 rfl (Nat.le_of_ble_eq_true rfl) d_MM_runs_251 ⟨Nat.zero_le _, Nat.zero_le _⟩ (fun H locs hH => ?_)
        refine lv_aload_n hx hb d_MM_runs_254 rfl (lv_at hl 0 rfl) ?_
        refine lv_iload_n hx hb d_MM_runs_255 rfl (lv_at hl 1 rfl) ?_
        obtain ⟨M6, hc5, hf1⟩ := o_b hf1
        refine q_cVv (As := [.int x1]) (rest := []) S hX hH (c_MM_reads l hI hZ M4 x1 hc5) (cw_MM_309 S.2.2.2.2 (Nat.le_trans (Nat.le_of_ble_eq_true rfl) hR.1) (Nat.le_trans (Nat.le_of_ble_eq_true rfl) hR.2)) (rc_MM hX hH hZ) rfl hl.1 rfl (Nat.le_of_ble_eq_true rfl) d_MM_runs_256 ⟨Nat.zero_le _, Nat.zero_le _⟩ (fun H locs hH => ?_)
        refine lv_iinc (v := x1 + (1 : Int32)) (lv' := [(1, .int (x1 + (1 : Int32))), (0, .ref (Z.2.2.1 0))]) hx hb d_MM_runs_259 hl (k := 1) rfl rfl (by decide) rfl (fun ls hl => ?_)
        refine lv_goto (tgt := 198) hx hb d_MM_runs_262 (by decide) ?_
        exact hG1 _ (o_v hf1).symm _ _ _ hH (lv_sub hl [1, 0] rfl)
      unfold f_MM_runs_W219 at he219
      refine loop_W (fun t => ∀ (H : Heap) (locs : List Loc) (ls : Array Slot), HW Z t.2 s H locs → lv_has ls 3 [(0, .ref (Z.2.2.1 0)), (1, .int x1), (2, .int t.1)] → W p l e R s m args below meth c H locs 0 0 Q (F0 m 219 ls [])) ?_ he219 H locs ls hH hl
      rintro ⟨x2, M⟩ o2 hf2 hG2 hR2 H locs ls hH hl
      replace hH : HW Z M s H locs := hH
      replace hl : lv_has ls 3 [(0, .ref (Z.2.2.1 0)), (1, .int x1), (2, .int x2)] := hl
      replace hf2 : f_MM_runs_L219 x1 x2 M = some o2 := hf2
      unfold f_MM_runs_L219 at hf2
      refine lv_iload_n hx hb d_MM_runs_219 rfl (lv_at hl 2 rfl) ?_
      refine lv_aload_n hx hb d_MM_runs_220 rfl (lv_at hl 0 rfl) ?_
      refine g_MM_9 S hX hH hZ d_MM_runs_221 ?_
      refine lv_iconst (v := (0 : Int32)) hx hb d_MM_runs_224 (by decide) ?_
      refine q_iald (j := 0) hx hb hX hH (aa_MM_1 hZ) (vp_c (by decide)) (by decide) d_MM_runs_225 ?_
      refine lv_icmp_ge (tgt := 249) hx hb d_MM_runs_226 (by decide) (fun hc => ?_) (fun hc => ?_)
      · replace hf2 := o_t hc hf2
        obtain rfl := hR2 _ (o_v hf2).symm
        exact KX219 _ _ _ hH (lv_sub hl [0, 1] rfl)
      · replace hf2 := o_f hc hf2
        refine lv_aload_n hx hb d_MM_runs_229 rfl (lv_at hl 0 rfl) ?_
        refine lv_iload_n hx hb d_MM_runs_230 rfl (lv_at hl 2 rfl) ?_
        refine q_cVi (As := [.int x2]) (rest := []) S hX hH (c_MM_isLiar l hI hZ M x2 rfl) (cw_MM_205 S.2.2.2.2 (Nat.le_trans (Nat.le_of_ble_eq_true rfl) hR.1) (Nat.le_trans (Nat.le_of_ble_eq_true rfl) hR.2)) (rc_MM hX hH hZ) rfl hl.1 rfl (Nat.le_of_ble_eq_true rfl) d_MM_runs_231 ⟨Nat.zero_le _, Nat.zero_le _⟩ (fun H locs hH => ?_)
        refine lv_if_ne (tgt := 243) hx hb d_MM_runs_234 (by decide) (fun hc => ?_) (fun hc => ?_)
        · replace hf2 := o_f hc hf2
          refine lv_iinc (v := x2 + (1 : Int32)) (lv' := [(2, .int (x2 + (1 : Int32))), (0, .ref (Z.2.2.1 0)), (1, .int x1)]) hx hb d_MM_runs_243 hl (k := 2) rfl rfl (by decide) rfl (fun ls hl => ?_)
          refine lv_goto (tgt := 219) hx hb d_MM_runs_246 (by decide) ?_
          exact hG2 _ (o_v hf2).symm _ _ _ hH (lv_sub hl [1, 2, 0] rfl)
        · replace hf2 := o_t hc hf2
          refine lv_aload_n hx hb d_MM_runs_237 rfl (lv_at hl 0 rfl) ?_
          refine lv_iload_n hx hb d_MM_runs_238 rfl (lv_at hl 1 rfl) ?_
          refine lv_iload_n hx hb d_MM_runs_239 rfl (lv_at hl 2 rfl) ?_
          obtain ⟨M2, hc1, hf2⟩ := o_b hf2
          refine q_cVv (As := [.int x1, .int x2]) (rest := []) S hX hH (c_MM_sendsHonest l hI hZ M x1 x2 hc1) (cw_MM_303 S.2.2.2.2 (Nat.le_trans (Nat.le_of_ble_eq_true rfl) hR.1) (Nat.le_trans (Nat.le_of_ble_eq_true rfl) hR.2)) (rc_MM hX hH hZ) rfl hl.1 rfl (Nat.le_of_ble_eq_true rfl) d_MM_runs_240 ⟨Nat.zero_le _, Nat.zero_le _⟩ (fun H locs hH => ?_)
          refine lv_iinc (v := x2 + (1 : Int32)) (lv' := [(2, .int (x2 + (1 : Int32))), (0, .ref (Z.2.2.1 0)), (1, .int x1)]) hx hb d_MM_runs_243 hl (k := 2) rfl rfl (by decide) rfl (fun ls hl => ?_)
          refine lv_goto (tgt := 219) hx hb d_MM_runs_246 (by decide) ?_
          exact hG2 _ (o_v hf2).symm _ _ _ hH (lv_sub hl [1, 2, 0] rfl)
    refine lv_iload_n hx hb d_MM_runs_198 rfl (lv_at hl 1 rfl) ?_
    refine lv_aload_n hx hb d_MM_runs_199 rfl (lv_at hl 0 rfl) ?_
    refine g_MM_9 S hX hH hZ d_MM_runs_200 ?_
    refine lv_iconst (v := (3 : Int32)) hx hb d_MM_runs_203 (by decide) ?_
    refine q_iald (j := 3) hx hb hX hH (aa_MM_1 hZ) (vp_c (by decide)) (by decide) d_MM_runs_204 ?_
    refine lv_icmp_gt (tgt := 265) hx hb d_MM_runs_205 (by decide) (fun hc => ?_) (fun hc => ?_)
    · replace hf1 := o_t hc hf1
      obtain rfl := hR1 _ (o_v hf1).symm
      obtain rfl := o_v hf0
      exact hQ _ _ _ _ hH d_MM_runs_265
    · replace hf1 := o_f hc hf1
      refine lv_aload_n hx hb d_MM_runs_208 rfl (lv_at hl 0 rfl) ?_
      refine g_MM_9 S hX hH hZ d_MM_runs_209 ?_
      refine lv_iconst (v := (0 : Int32)) hx hb d_MM_runs_212 (by decide) ?_
      refine q_iald (j := 0) hx hb hX hH (aa_MM_1 hZ) (vp_c (by decide)) (by decide) d_MM_runs_213 ?_
      refine lv_if_le (tgt := 265) hx hb d_MM_runs_214 (by decide) (fun hc => ?_) (fun hc => ?_)
      · replace hf1 := o_t hc hf1
        obtain rfl := hR1 _ (o_v hf1).symm
        obtain rfl := o_v hf0
        exact hQ _ _ _ _ hH d_MM_runs_265
      · replace hf1 := o_f hc hf1
        refine lv_iconst (v := (0 : Int32)) hx hb d_MM_runs_217 (by decide) ?_
        refine lv_istore_n (lv' := [(2, .int (0 : Int32)), (0, .ref (Z.2.2.1 0)), (1, .int x1)]) hx hb d_MM_runs_218 rfl hl (by decide) rfl (fun ls hl => ?_)
        exact J219 _ _ _ _ _ _ hf1 hH (lv_sub hl [1, 2, 0] rfl)
  have J125 : ∀ (M : Mem) (x1 : Int32) (H : Heap) (locs : List Loc) (ls : Array Slot), f_MM_runs_J125 M x1 = some M' → HW Z M s H locs → lv_has ls 3 [(0, .ref (Z.2.2.1 0)), (1, .int x1)] → W p l e R s m args below meth c H locs 0 0 Q (F0 m 125 ls []) := by
    intro M x1 H locs ls hf0 hH hl
    unfold f_MM_runs_J125 at hf0
    obtain ⟨e125, he125, hf0⟩ := o_b hf0
    have KX125 : ∀ (H : Heap) (locs : List Loc) (ls : Array Slot), HW Z e125 s H locs → lv_has ls 3 [(0, .ref (Z.2.2.1 0))] → W p l e R s m args below meth c H locs 0 0 Q (F0 m 196 ls []) := by
      intro H locs ls hH hl
      refine lv_iconst (v := (1 : Int32)) hx hb d_MM_runs_196 (by decide) ?_
      refine lv_istore_n (lv' := [(1, .int (1 : Int32)), (0, .ref (Z.2.2.1 0))]) hx hb d_MM_runs_197 rfl hl (by decide) rfl (fun ls hl => ?_)
      exact J198 _ _ _ _ _ hf0 hH (lv_sub hl [1, 0] rfl)
    unfold f_MM_runs_W125 at he125
    refine loop_W (fun t => ∀ (H : Heap) (locs : List Loc) (ls : Array Slot), HW Z t.2 s H locs → lv_has ls 3 [(0, .ref (Z.2.2.1 0)), (1, .int t.1)] → W p l e R s m args below meth c H locs 0 0 Q (F0 m 125 ls [])) ?_ he125 H locs ls hH hl
    rintro ⟨x1, M⟩ o1 hf1 hG1 hR1 H locs ls hH hl
    replace hH : HW Z M s H locs := hH
    replace hl : lv_has ls 3 [(0, .ref (Z.2.2.1 0)), (1, .int x1)] := hl
    replace hf1 : f_MM_runs_L125 x1 M = some o1 := hf1
    unfold f_MM_runs_L125 at hf1
    have J186 : ∀ (M : Mem) (x1 : Int32) (s0 : Int32) (s1 : Int32) (H : Heap) (locs : List Loc) (ls : Array Slot), f_MM_runs_J186 M x1 s0 s1 = some o1 → HW Z M s H locs → lv_has ls 3 [(0, .ref (Z.2.2.1 0)), (1, .int x1)] → W p l e R s m args below meth c H locs 0 0 Q (F0 m 186 ls [.int s0, .int s1, .ref (Z.2.2.1 0)]) := by
      intro M x1 s0 s1 H locs ls hf1 hH hl
      unfold f_MM_runs_J186 at hf1
      refine lv_ior hx hb d_MM_runs_186 ?_
      obtain ⟨M7, hM7, hf1⟩ := o_l hf1
      refine s_MM_297 S hX hI hH hZ d_MM_runs_187 (fun H locs hH => ?_)
      rw [hM7] at hH
      refine lv_iinc (v := x1 + (1 : Int32)) (lv' := [(1, .int (x1 + (1 : Int32))), (0, .ref (Z.2.2.1 0))]) hx hb d_MM_runs_190 hl (k := 1) rfl rfl (by decide) rfl (fun ls hl => ?_)
      refine lv_goto (tgt := 125) hx hb d_MM_runs_193 (by decide) ?_
      exact hG1 _ (o_v hf1).symm _ _ _ hH (lv_sub hl [1, 0] rfl)
    have J179 : ∀ (M : Mem) (x1 : Int32) (s0 : Int32) (H : Heap) (locs : List Loc) (ls : Array Slot), f_MM_runs_J179 M x1 s0 = some o1 → HW Z M s H locs → lv_has ls 3 [(0, .ref (Z.2.2.1 0)), (1, .int x1)] → W p l e R s m args below meth c H locs 0 0 Q (F0 m 179 ls [.int s0, .ref (Z.2.2.1 0)]) := by
      intro M x1 s0 H locs ls hf1 hH hl
      unfold f_MM_runs_J179 at hf1
      refine lv_iconst (v := (1 : Int32)) hx hb d_MM_runs_179 (by decide) ?_
      refine lv_iload_n hx hb d_MM_runs_180 rfl (lv_at hl 1 rfl) ?_
      refine lv_ishl hx hb d_MM_runs_181 ?_
      refine lv_goto (tgt := 186) hx hb d_MM_runs_182 (by decide) ?_
      exact J186 _ _ _ _ _ _ _ hf1 hH (lv_sub hl [0, 1] rfl)
    refine lv_iload_n hx hb d_MM_runs_125 rfl (lv_at hl 1 rfl) ?_
    refine lv_aload_n hx hb d_MM_runs_126 rfl (lv_at hl 0 rfl) ?_
    refine g_MM_9 S hX hH hZ d_MM_runs_127 ?_
    refine lv_bipush (v := (7 : Int32)) hx hb d_MM_runs_130 (by decide) ?_
    refine q_iald (j := 7) hx hb hX hH (aa_MM_1 hZ) (vp_c (by decide)) (by decide) d_MM_runs_132 ?_
    refine lv_icmp_ge (tgt := 196) hx hb d_MM_runs_133 (by decide) (fun hc => ?_) (fun hc => ?_)
    · replace hf1 := o_t hc hf1
      obtain rfl := hR1 _ (o_v hf1).symm
      exact KX125 _ _ _ hH (lv_sub hl [0] rfl)
    · replace hf1 := o_f hc hf1
      refine lv_bipush (v := (10 : Int32)) hx hb d_MM_runs_136 (by decide) ?_
      refine lv_bipush (v := (13 : Int32)) hx hb d_MM_runs_138 (by decide) ?_
      refine lv_iload_n hx hb d_MM_runs_140 rfl (lv_at hl 1 rfl) ?_
      refine lv_imul hx hb d_MM_runs_141 ?_
      refine lv_iadd hx hb d_MM_runs_142 ?_
      refine lv_istore_n (lv' := [(2, .int ((10 : Int32) + ((13 : Int32) * x1))), (0, .ref (Z.2.2.1 0)), (1, .int x1)]) hx hb d_MM_runs_143 rfl hl (by decide) rfl (fun ls hl => ?_)
      refine lv_aload_n hx hb d_MM_runs_144 rfl (lv_at hl 1 rfl) ?_
      refine lv_dup hx hb d_MM_runs_145 rfl ?_
      refine g_MM_297 S hX hH hZ d_MM_runs_146 ?_
      refine lv_aload_n hx hb d_MM_runs_149 rfl (lv_at hl 1 rfl) ?_
      refine g_MM_9 S hX hH hZ d_MM_runs_150 ?_
      refine lv_iload_n hx hb d_MM_runs_153 rfl (lv_at hl 0 rfl) ?_
      obtain ⟨hn8, hf1⟩ := o_in hf1
      refine q_iald (j := ((10 : Int32) + ((13 : Int32) * x1)).toNatClampNeg) hx hb hX hH (aa_MM_1 hZ) hn8 rfl d_MM_runs_154 ?_
      refine lv_aload_n hx hb d_MM_runs_155 rfl (lv_at hl 1 rfl) ?_
      refine g_MM_9 S hX hH hZ d_MM_runs_156 ?_
      refine lv_iconst (v := (3 : Int32)) hx hb d_MM_runs_159 (by decide) ?_
      refine q_iald (j := 3) hx hb hX hH (aa_MM_1 hZ) (vp_c (by decide)) (by decide) d_MM_runs_160 ?_
      refine lv_icmp_gt (tgt := 179) hx hb d_MM_runs_161 (by decide) (fun hc => ?_) (fun hc => ?_)
      · replace hf1 := o_t hc hf1
        exact J179 _ _ _ _ _ _ hf1 hH (lv_sub hl [1, 2] rfl)
      · replace hf1 := o_f hc hf1
        refine lv_aload_n hx hb d_MM_runs_164 rfl (lv_at hl 1 rfl) ?_
        refine lv_aload_n hx hb d_MM_runs_165 rfl (lv_at hl 1 rfl) ?_
        refine g_MM_9 S hX hH hZ d_MM_runs_166 ?_
        refine lv_iload_n hx hb d_MM_runs_169 rfl (lv_at hl 0 rfl) ?_
        refine lv_iconst (v := (1 : Int32)) hx hb d_MM_runs_170 (by decide) ?_
        refine lv_iadd hx hb d_MM_runs_171 ?_
        obtain ⟨hn9, hf1⟩ := o_in hf1
        refine q_iald (j := (((10 : Int32) + ((13 : Int32) * x1)) + (1 : Int32)).toNatClampNeg) hx hb hX hH (aa_MM_1 hZ) hn9 rfl d_MM_runs_172 ?_
        refine q_cVi (As := [.int (M 1 (((10 : Int32) + ((13 : Int32) * x1)) + (1 : Int32)).toNatClampNeg)]) (rest := [.int (M 0 26), .ref (Z.2.2.1 0)]) S hX hH (c_MM_isLiar l hI hZ M (M 1 (((10 : Int32) + ((13 : Int32) * x1)) + (1 : Int32)).toNatClampNeg) rfl) (cw_MM_205 S.2.2.2.2 (Nat.le_trans (Nat.le_of_ble_eq_true rfl) hR.1) (Nat.le_trans (Nat.le_of_ble_eq_true rfl) hR.2)) (rc_MM hX hH hZ) rfl hl.1 rfl (Nat.le_of_ble_eq_true rfl) d_MM_runs_173 ⟨Nat.zero_le _, Nat.zero_le _⟩ (fun H locs hH => ?_)
        refine lv_if_ne (tgt := 185) hx hb d_MM_runs_176 (by decide) (fun hc => ?_) (fun hc => ?_)
        · replace hf1 := o_f hc hf1
          refine lv_iconst (v := (0 : Int32)) hx hb d_MM_runs_185 (by decide) ?_
          exact J186 _ _ _ _ _ _ _ hf1 hH (lv_sub hl [1, 2] rfl)
        · replace hf1 := o_t hc hf1
          exact J179 _ _ _ _ _ _ hf1 hH (lv_sub hl [1, 2] rfl)
  have J123 : ∀ (M : Mem) (H : Heap) (locs : List Loc) (ls : Array Slot), f_MM_runs_J123 M = some M' → HW Z M s H locs → lv_has ls 3 [(0, .ref (Z.2.2.1 0))] → W p l e R s m args below meth c H locs 0 0 Q (F0 m 123 ls []) := by
    intro M H locs ls hf0 hH hl
    unfold f_MM_runs_J123 at hf0
    refine lv_iconst (v := (0 : Int32)) hx hb d_MM_runs_123 (by decide) ?_
    refine lv_istore_n (lv' := [(1, .int (0 : Int32)), (0, .ref (Z.2.2.1 0))]) hx hb d_MM_runs_124 rfl hl (by decide) rfl (fun ls hl => ?_)
    exact J125 _ _ _ _ _ hf0 hH (lv_sub hl [1, 0] rfl)
  have J17 : ∀ (M : Mem) (x1 : Int32) (H : Heap) (locs : List Loc) (ls : Array Slot), f_MM_runs_J17 M x1 = some M' → HW Z M s H locs → lv_has ls 3 [(0, .ref (Z.2.2.1 0)), (1, .int x1)] → W p l e R s m args below meth c H locs 0 0 Q (F0 m 17 ls []) := by
    intro M x1 H locs ls hf0 hH hl
    unfold f_MM_runs_J17 at hf0
    obtain ⟨e17, he17, hf0⟩ := o_b hf0
    have KX17 : ∀ (H : Heap) (locs : List Loc) (ls : Array Slot), HW Z e17 s H locs → lv_has ls 3 [(0, .ref (Z.2.2.1 0))] → W p l e R s m args below meth c H locs 0 0 Q (F0 m 89 ls []) := by
      intro H locs ls hH hl
      refine lv_aload_n hx hb d_MM_runs_89 rfl (lv_at hl 0 rfl) ?_
      refine lv_aload_n hx hb d_MM_runs_90 rfl (lv_at hl 0 rfl) ?_
      refine g_MM_9 S hX hH hZ d_MM_runs_91 ?_
      refine lv_iconst (v := (1 : Int32)) hx hb d_MM_runs_94 (by decide) ?_
      refine q_iald (j := 1) hx hb hX hH (aa_MM_1 hZ) (vp_c (by decide)) (by decide) d_MM_runs_95 ?_
      refine q_cVi (As := [.int (e17 1 1)]) (rest := []) S hX hH (c_MM_isHonest l hI hZ e17 (e17 1 1) rfl) (cw_MM_300 S.2.2.2.2 (Nat.le_trans (Nat.le_of_ble_eq_true rfl) hR.1) (Nat.le_trans (Nat.le_of_ble_eq_true rfl) hR.2)) (rc_MM hX hH hZ) rfl hl.1 rfl (Nat.le_of_ble_eq_true rfl) d_MM_runs_96 ⟨Nat.zero_le _, Nat.zero_le _⟩ (fun H locs hH => ?_)
      refine lv_if_eq (tgt := 123) hx hb d_MM_runs_99 (by decide) (fun hc => ?_) (fun hc => ?_)
      · replace hf0 := o_t hc hf0
        exact J123 _ _ _ _ hf0 hH (lv_sub hl [0] rfl)
      · replace hf0 := o_f hc hf0
        refine lv_aload_n hx hb d_MM_runs_102 rfl (lv_at hl 0 rfl) ?_
        refine g_MM_60 S hX hH hZ d_MM_runs_103 ?_
        refine lv_aload_n hx hb d_MM_runs_106 rfl (lv_at hl 0 rfl) ?_
        refine g_MM_9 S hX hH hZ d_MM_runs_107 ?_
        refine lv_iconst (v := (1 : Int32)) hx hb d_MM_runs_110 (by decide) ?_
        refine q_iald (j := 1) hx hb hX hH (aa_MM_1 hZ) (vp_c (by decide)) (by decide) d_MM_runs_111 ?_
        refine lv_aload_n hx hb d_MM_runs_112 rfl (lv_at hl 0 rfl) ?_
        refine g_MM_9 S hX hH hZ d_MM_runs_113 ?_
        refine lv_iconst (v := (2 : Int32)) hx hb d_MM_runs_116 (by decide) ?_
        refine q_iald (j := 2) hx hb hX hH (aa_MM_1 hZ) (vp_c (by decide)) (by decide) d_MM_runs_117 ?_
        refine q_cSi (As := [.int (e17 1 1), .int (e17 1 2)]) (rest := [.ref (Z.2.2.1 17)]) S hX hH (c_MM_cell l hI e17 (e17 1 1) (e17 1 2) rfl) (cw_MM_276 S.2.2.2.2 (Nat.le_trans (Nat.le_of_ble_eq_true rfl) hR.1) (Nat.le_trans (Nat.le_of_ble_eq_true rfl) hR.2)) rfl hl.1 rfl (Nat.le_of_ble_eq_true rfl) d_MM_runs_118 ⟨Nat.zero_le _, Nat.zero_le _⟩ (fun H locs hH => ?_)
        refine lv_iconst (v := (0 : Int32)) hx hb d_MM_runs_121 (by decide) ?_
        obtain ⟨hn15, hf0⟩ := o_in hf0
        obtain ⟨M16, hM16, hf0⟩ := o_l hf0
        refine q_iast (j := (f_MM_cell (e17 1 1) (e17 1 2)).toNatClampNeg) hx hb hX hI hH (aa_MM_17 hZ) hn15 rfl d_MM_runs_122 (fun H locs hH => ?_)
        rw [hM16] at hH
        exact J123 _ _ _ _ hf0 hH (lv_sub hl [0] rfl)
    unfold f_MM_runs_W17 at he17
    refine loop_W (fun t => ∀ (H : Heap) (locs : List Loc) (ls : Array Slot), HW Z t.2 s H locs → lv_has ls 3 [(0, .ref (Z.2.2.1 0)), (1, .int t.1)] → W p l e R s m args below meth c H locs 0 0 Q (F0 m 17 ls [])) ?_ he17 H locs ls hH hl
    rintro ⟨x1, M⟩ o1 hf1 hG1 hR1 H locs ls hH hl
    replace hH : HW Z M s H locs := hH
    replace hl : lv_has ls 3 [(0, .ref (Z.2.2.1 0)), (1, .int x1)] := hl
    replace hf1 : f_MM_runs_L17 x1 M = some o1 := hf1
    unfold f_MM_runs_L17 at hf1
    have J25 : ∀ (M : Mem) (x1 : Int32) (x2 : Int32) (H : Heap) (locs : List Loc) (ls : Array Slot), f_MM_runs_J25 M x1 x2 = some o1 → HW Z M s H locs → lv_has ls 3 [(0, .ref (Z.2.2.1 0)), (1, .int x1), (2, .int x2)] → W p l e R s m args below meth c H locs 0 0 Q (F0 m 25 ls []) := by
      intro M x1 x2 H locs ls hf1 hH hl
      unfold f_MM_runs_J25 at hf1
      obtain ⟨e25, he25, hf1⟩ := o_b hf1
      have KX25 : ∀ (H : Heap) (locs : List Loc) (ls : Array Slot), HW Z e25 s H locs → lv_has ls 3 [(0, .ref (Z.2.2.1 0)), (1, .int x1)] → W p l e R s m args below meth c H locs 0 0 Q (F0 m 83 ls []) := by
        intro H locs ls hH hl
        refine lv_iinc (v := x1 + (1 : Int32)) (lv' := [(1, .int (x1 + (1 : Int32))), (0, .ref (Z.2.2.1 0))]) hx hb d_MM_runs_83 hl (k := 1) rfl rfl (by decide) rfl (fun ls hl => ?_)
        refine lv_goto (tgt := 17) hx hb d_MM_runs_86 (by decide) ?_
        exact hG1 _ (o_v hf1).symm _ _ _ hH (lv_sub hl [1, 0] rfl)
      unfold f_MM_runs_W25 at he25
      refine loop_W (fun t => ∀ (H : Heap) (locs : List Loc) (ls : Array Slot), HW Z t.2 s H locs → lv_has ls 3 [(0, .ref (Z.2.2.1 0)), (1, .int x1), (2, .int t.1)] → W p l e R s m args below meth c H locs 0 0 Q (F0 m 25 ls [])) ?_ he25 H locs ls hH hl
      rintro ⟨x2, M⟩ o2 hf2 hG2 hR2 H locs ls hH hl
      replace hH : HW Z M s H locs := hH
      replace hl : lv_has ls 3 [(0, .ref (Z.2.2.1 0)), (1, .int x1), (2, .int x2)] := hl
      replace hf2 : f_MM_runs_L25 x1 x2 M = some o2 := hf2
      unfold f_MM_runs_L25 at hf2
      have J76 : ∀ (M : Mem) (x2 : Int32) (s0 : Int32) (s1 : Int32) (H : Heap) (locs : List Loc) (ls : Array Slot), f_MM_runs_J76 M x1 x2 s0 s1 = some o2 → HW Z M s H locs → lv_has ls 3 [(0, .ref (Z.2.2.1 0)), (1, .int x1), (2, .int x2)] → W p l e R s m args below meth c H locs 0 0 Q (F0 m 76 ls [.int s0, .int s1, .ref (Z.2.2.1 19)]) := by
        intro M x2 s0 s1 H locs ls hf2 hH hl
        unfold f_MM_runs_J76 at hf2
        obtain ⟨hn10, hf2⟩ := o_in hf2
        obtain ⟨M11, hM11, hf2⟩ := o_l hf2
        refine q_iast (j := s1.toNatClampNeg) hx hb hX hI hH (aa_MM_19 hZ) hn10 rfl d_MM_runs_76 (fun H locs hH => ?_)
        rw [hM11] at hH
        refine lv_iinc (v := x2 + (1 : Int32)) (lv' := [(2, .int (x2 + (1 : Int32))), (0, .ref (Z.2.2.1 0)), (1, .int x1)]) hx hb d_MM_runs_77 hl (k := 2) rfl rfl (by decide) rfl (fun ls hl => ?_)
        refine lv_goto (tgt := 25) hx hb d_MM_runs_80 (by decide) ?_
        exact hG2 _ (o_v hf2).symm _ _ _ hH (lv_sub hl [1, 2, 0] rfl)
      refine lv_iload_n hx hb d_MM_runs_25 rfl (lv_at hl 2 rfl) ?_
      refine lv_iconst (v := (4 : Int32)) hx hb d_MM_runs_26 (by decide) ?_
      refine lv_icmp_ge (tgt := 83) hx hb d_MM_runs_27 (by decide) (fun hc => ?_) (fun hc => ?_)
      · replace hf2 := o_t hc hf2
        obtain rfl := hR2 _ (o_v hf2).symm
        exact KX25 _ _ _ hH (lv_sub hl [0, 1] rfl)
      · replace hf2 := o_f hc hf2
        refine lv_aload_n hx hb d_MM_runs_30 rfl (lv_at hl 0 rfl) ?_
        refine g_MM_60 S hX hH hZ d_MM_runs_31 ?_
        refine lv_iload_n hx hb d_MM_runs_34 rfl (lv_at hl 1 rfl) ?_
        refine lv_iload_n hx hb d_MM_runs_35 rfl (lv_at hl 2 rfl) ?_
        refine q_cSi (As := [.int x1, .int x2]) (rest := [.ref (Z.2.2.1 17)]) S hX hH (c_MM_cell l hI M x1 x2 rfl) (cw_MM_276 S.2.2.2.2 (Nat.le_trans (Nat.le_of_ble_eq_true rfl) hR.1) (Nat.le_trans (Nat.le_of_ble_eq_true rfl) hR.2)) rfl hl.1 rfl (Nat.le_of_ble_eq_true rfl) d_MM_runs_36 ⟨Nat.zero_le _, Nat.zero_le _⟩ (fun H locs hH => ?_)
        refine lv_iconst (v := (-1 : Int32)) hx hb d_MM_runs_39 (by decide) ?_
        obtain ⟨hn12, hf2⟩ := o_in hf2
        obtain ⟨M13, hM13, hf2⟩ := o_l hf2
        refine q_iast (j := (f_MM_cell x1 x2).toNatClampNeg) hx hb hX hI hH (aa_MM_17 hZ) hn12 rfl d_MM_runs_40 (fun H locs hH => ?_)
        rw [hM13] at hH
        refine lv_aload_n hx hb d_MM_runs_41 rfl (lv_at hl 0 rfl) ?_
        refine g_MM_63 S hX hH hZ d_MM_runs_42 ?_
        refine lv_iload_n hx hb d_MM_runs_45 rfl (lv_at hl 1 rfl) ?_
        refine lv_iload_n hx hb d_MM_runs_46 rfl (lv_at hl 2 rfl) ?_
        refine q_cSi (As := [.int x1, .int x2]) (rest := [.ref (Z.2.2.1 18)]) S hX hH (c_MM_cell l hI M13 x1 x2 rfl) (cw_MM_276 S.2.2.2.2 (Nat.le_trans (Nat.le_of_ble_eq_true rfl) hR.1) (Nat.le_trans (Nat.le_of_ble_eq_true rfl) hR.2)) rfl hl.1 rfl (Nat.le_of_ble_eq_true rfl) d_MM_runs_47 ⟨Nat.zero_le _, Nat.zero_le _⟩ (fun H locs hH => ?_)
        refine lv_iconst (v := (-1 : Int32)) hx hb d_MM_runs_50 (by decide) ?_
        obtain ⟨M14, hM14, hf2⟩ := o_l hf2
        refine q_iast (j := (f_MM_cell x1 x2).toNatClampNeg) hx hb hX hI hH (aa_MM_18 hZ) hn12 rfl d_MM_runs_51 (fun H locs hH => ?_)
        rw [hM14] at hH
        refine lv_aload_n hx hb d_MM_runs_52 rfl (lv_at hl 0 rfl) ?_
        refine g_MM_66 S hX hH hZ d_MM_runs_53 ?_
        refine lv_iload_n hx hb d_MM_runs_56 rfl (lv_at hl 1 rfl) ?_
        refine lv_iload_n hx hb d_MM_runs_57 rfl (lv_at hl 2 rfl) ?_
        refine q_cSi (As := [.int x1, .int x2]) (rest := [.ref (Z.2.2.1 19)]) S hX hH (c_MM_cell l hI M14 x1 x2 rfl) (cw_MM_276 S.2.2.2.2 (Nat.le_trans (Nat.le_of_ble_eq_true rfl) hR.1) (Nat.le_trans (Nat.le_of_ble_eq_true rfl) hR.2)) rfl hl.1 rfl (Nat.le_of_ble_eq_true rfl) d_MM_runs_58 ⟨Nat.zero_le _, Nat.zero_le _⟩ (fun H locs hH => ?_)
        refine lv_aload_n hx hb d_MM_runs_61 rfl (lv_at hl 0 rfl) ?_
        refine lv_iload_n hx hb d_MM_runs_62 rfl (lv_at hl 1 rfl) ?_
        refine q_cVi (As := [.int x1]) (rest := [.int (f_MM_cell x1 x2), .ref (Z.2.2.1 19)]) S hX hH (c_MM_isLiar l hI hZ M14 x1 rfl) (cw_MM_205 S.2.2.2.2 (Nat.le_trans (Nat.le_of_ble_eq_true rfl) hR.1) (Nat.le_trans (Nat.le_of_ble_eq_true rfl) hR.2)) (rc_MM hX hH hZ) rfl hl.1 rfl (Nat.le_of_ble_eq_true rfl) d_MM_runs_63 ⟨Nat.zero_le _, Nat.zero_le _⟩ (fun H locs hH => ?_)
        refine lv_if_eq (tgt := 73) hx hb d_MM_runs_66 (by decide) (fun hc => ?_) (fun hc => ?_)
        · replace hf2 := o_t hc hf2
          refine lv_sipush (v := (1000 : Int32)) hx hb d_MM_runs_73 (by decide) ?_
          exact J76 _ _ _ _ _ _ _ hf2 hH (lv_sub hl [0, 1, 2] rfl)
        · replace hf2 := o_f hc hf2
          refine lv_iconst (v := (0 : Int32)) hx hb d_MM_runs_69 (by decide) ?_
          refine lv_goto (tgt := 76) hx hb d_MM_runs_70 (by decide) ?_
          exact J76 _ _ _ _ _ _ _ hf2 hH (lv_sub hl [0, 1, 2] rfl)
    refine lv_iload_n hx hb d_MM_runs_17 rfl (lv_at hl 1 rfl) ?_
    refine lv_bipush (v := (8 : Int32)) hx hb d_MM_runs_18 (by decide) ?_
    refine lv_icmp_ge (tgt := 89) hx hb d_MM_runs_20 (by decide) (fun hc => ?_) (fun hc => ?_)
    · replace hf1 := o_t hc hf1
      obtain rfl := hR1 _ (o_v hf1).symm
      exact KX17 _ _ _ hH (lv_sub hl [0] rfl)
    · replace hf1 := o_f hc hf1
      refine lv_iconst (v := (0 : Int32)) hx hb d_MM_runs_23 (by decide) ?_
      refine lv_istore_n (lv' := [(2, .int (0 : Int32)), (0, .ref (Z.2.2.1 0)), (1, .int x1)]) hx hb d_MM_runs_24 rfl hl (by decide) rfl (fun ls hl => ?_)
      exact J25 _ _ _ _ _ _ hf1 hH (lv_sub hl [1, 2, 0] rfl)
  refine lv_aload_n hx hb d_MM_runs_0 rfl (lv_at hl 0 rfl) ?_
  refine lv_iconst (v := (0 : Int32)) hx hb d_MM_runs_1 (by decide) ?_
  obtain ⟨M17, hM17, hf0⟩ := o_l hf0
  refine s_MM_264 S hX hI hH hZ d_MM_runs_2 (fun H locs hH => ?_)
  rw [hM17] at hH
  refine lv_aload_n hx hb d_MM_runs_5 rfl (lv_at hl 0 rfl) ?_
  refine lv_iconst (v := (0 : Int32)) hx hb d_MM_runs_6 (by decide) ?_
  obtain ⟨M18, hM18, hf0⟩ := o_l hf0
  refine s_MM_294 S hX hI hH hZ d_MM_runs_7 (fun H locs hH => ?_)
  rw [hM18] at hH
  refine lv_aload_n hx hb d_MM_runs_10 rfl (lv_at hl 0 rfl) ?_
  refine lv_iconst (v := (0 : Int32)) hx hb d_MM_runs_11 (by decide) ?_
  obtain ⟨M19, hM19, hf0⟩ := o_l hf0
  refine s_MM_297 S hX hI hH hZ d_MM_runs_12 (fun H locs hH => ?_)
  rw [hM19] at hH
  refine lv_iconst (v := (0 : Int32)) hx hb d_MM_runs_15 (by decide) ?_
  refine lv_istore_n (lv' := [(1, .int (0 : Int32)), (0, .ref (Z.2.2.1 0))]) hx hb d_MM_runs_16 rfl hl (by decide) rfl (fun ls hl => ?_)
  exact J17 _ _ _ _ _ hf0 hH (lv_sub hl [1, 0] rfl)
theorem c_MM_runs (l : Launch) {Z : WD} (hI : wI Z) (hZ : IsM Z) (M : Mem) {M' : Mem} (hf : f_MM_runs M = some M') : Cv l Z y_MM_runs b_MM_runs 3 none 5 126 [.ref (Z.2.2.1 0)] M M' := by
  refine Met.ofW (cc := b_MM_runs) (maxL := 3) (ret := none) (by decide) rfl ?_
  intro p e s m args below meth c s₁ B hml hv
  obtain ⟨rfl, hP, hX⟩ := hv
  have S : CallFix p m c b_MM_runs 3 s ([.ref (Z.2.2.1 0)] : List Value).toArray gtb R_MM := ⟨B.exec, B.bytes, hml, findClass_of_methodNamed B.named, fun w hw => atoms_spec (ws := .code y_MM_runs b_MM_runs 3 none :: gtb) B.pre w (List.mem_cons_of_mem _ hw)⟩
  have hl := lv_entry ([.ref (Z.2.2.1 0)]) (n := 3) (Nat.le_of_ble_eq_true rfl)
  rw [lg_entry_eq]
  exact wk_MM_runs hI hZ M S hX ⟨Nat.le_refl _, Nat.le_refl _⟩ (fun pc H locs ls hH d => q_rv S.1 S.2.1 B.returns B.notSynchronized hH rfl d) hf ⟨hP, va_S.rf⟩ hl
noncomputable def f_MM_setOf_J50 (M : Mem) (x1 : Int32) (x2 : Int32) (x4 : Int32) (s0 : Int32) (s1 : Int32) : Option ((Int32 × Int32) ⊕ Int32) := some (.inl (s1 ||| s0, x4 + (1 : Int32)))
noncomputable def f_MM_setOf_J49 (M : Mem) (x1 : Int32) (x2 : Int32) (x4 : Int32) (s0 : Int32) : Option ((Int32 × Int32) ⊕ Int32) := f_MM_setOf_J50 M x1 x2 x4 (0 : Int32) s0
noncomputable def f_MM_setOf_L5 (M : Mem) (x1 : Int32) (x2 : Int32) (x3 : Int32) (x4 : Int32) : Option ((Int32 × Int32) ⊕ Int32) := if (4 : Int32) ≤ x4 then some (.inr x3) else 
    gIn (f_MM_cell x1 x4) 32 (if (M 17 (f_MM_cell x1 x4).toNatClampNeg) = (-1 : Int32) then f_MM_setOf_J49 M x1 x2 x4 x3 else 
    if x2 < (M 17 (f_MM_cell x1 x4).toNatClampNeg) then f_MM_setOf_J49 M x1 x2 x4 x3 else f_MM_setOf_J50 M x1 x2 x4 ((1 : Int32) <<< (x4 &&& 31)) x3)
noncomputable def f_MM_setOf_W5 (M : Mem) (x1 : Int32) (x2 : Int32) (u : (Int32 × Int32)) : Option Int32 := loop (fun t => f_MM_setOf_L5 M x1 x2 t.1 t.2) u
noncomputable def f_MM_setOf_J5 (M : Mem) (x1 : Int32) (x2 : Int32) (x3 : Int32) (x4 : Int32) : Option (Int32) := bnd (f_MM_setOf_W5 M x1 x2 (x3, x4)) (fun e5 => some e5)
noncomputable def f_MM_setOf (M : Mem) (x1 : Int32) (x2 : Int32) : Option Int32 := f_MM_setOf_J5 M x1 x2 (0 : Int32) (0 : Int32)
set_option maxHeartbeats 4000000 in
theorem wk_MM_setOf {l : Launch} {Z : WD} (hI : wI Z) (hZ : IsM Z) (M : Mem) (x1 : Int32) (x2 : Int32) {r : Int32} {p : Program} {e : Env} {R : Room} {s : State} {m : MethodId} {args : Array Value} {below : List Frame} {meth : Method} {c : Code} {H : Heap} {locs : List Loc} {ls : Array Slot} {Q : State → Prop} (S : CallFix p m c b_MM_setOf 5 s args gtb R_MM) (hX : wX Z s) (hR : 1 ≤ R.frames ∧ 21 ≤ R.locals) (hQ : ∀ (pc : Nat) (H : Heap) (locs : List Loc) (ls : Array Slot), HW Z M s H locs → decode b_MM_setOf pc = .ok (.ireturn, 1) → W p l e R s m args below meth c H locs 0 0 Q (F0 m pc ls [.int r])) (hf0 : f_MM_setOf M x1 x2 = some r) (hH : HW Z M s H locs) (hl : lv_has ls 5 [(0, .ref (Z.2.2.1 0)), (1, .int x1), (2, .int x2)]) : W p l e R s m args below meth c H locs 0 0 Q (F0 m 0 ls []) := by
  have hx := S.1
  have hb := S.2.1
  have hown := S.2.2.2.1
  have ht := S.2.2.2.2
  unfold f_MM_setOf at hf0
  have J5 : ∀ (x1 : Int32) (x2 : Int32) (x3 : Int32) (x4 : Int32) (H : Heap) (locs : List Loc) (ls : Array Slot), f_MM_setOf_J5 M x1 x2 x3 x4 = some r → HW Z M s H locs → lv_has ls 5 [(0, .ref (Z.2.2.1 0)), (1, .int x1), (2, .int x2), (3, .int x3), (4, .int x4)] → W p l e R s m args below meth c H locs 0 0 Q (F0 m 5 ls []) := by
    intro x1 x2 x3 x4 H locs ls hf0 hH hl
    unfold f_MM_setOf_J5 at hf0
    obtain ⟨e5, he5, hf0⟩ := o_b hf0
    unfold f_MM_setOf_W5 at he5
    refine loop_W (fun t => ∀ (H : Heap) (locs : List Loc) (ls : Array Slot), HW Z M s H locs → lv_has ls 5 [(0, .ref (Z.2.2.1 0)), (1, .int x1), (2, .int x2), (3, .int t.1), (4, .int t.2)] → W p l e R s m args below meth c H locs 0 0 Q (F0 m 5 ls [])) ?_ he5 H locs ls hH hl
    rintro ⟨x3, x4⟩ o1 hf1 hG1 hR1 H locs ls hH hl
    replace hH : HW Z M s H locs := hH
    replace hl : lv_has ls 5 [(0, .ref (Z.2.2.1 0)), (1, .int x1), (2, .int x2), (3, .int x3), (4, .int x4)] := hl
    replace hf1 : f_MM_setOf_L5 M x1 x2 x3 x4 = some o1 := hf1
    unfold f_MM_setOf_L5 at hf1
    have J50 : ∀ (x4 : Int32) (s0 : Int32) (s1 : Int32) (H : Heap) (locs : List Loc) (ls : Array Slot), f_MM_setOf_J50 M x1 x2 x4 s0 s1 = some o1 → HW Z M s H locs → lv_has ls 5 [(0, .ref (Z.2.2.1 0)), (1, .int x1), (2, .int x2), (4, .int x4)] → W p l e R s m args below meth c H locs 0 0 Q (F0 m 50 ls [.int s0, .int s1]) := by
      intro x4 s0 s1 H locs ls hf1 hH hl
      unfold f_MM_setOf_J50 at hf1
      refine lv_ior hx hb d_MM_setOf_50 ?_
      refine lv_istore_n (lv' := [(3, .int (s1 ||| s0)), (0, .ref (Z.2.2.1 0)), (1, .int x1), (2, .int x2), (4, .int x4)]) hx hb d_MM_setOf_51 rfl hl (by decide) rfl (fun ls hl => ?_)
      refine lv_iinc (v := x4 + (1 : Int32)) (lv' := [(4, .int (x4 + (1 : Int32))), (3, .int (s1 ||| s0)), (0, .ref (Z.2.2.1 0)), (1, .int x1), (2, .int x2)]) hx hb d_MM_setOf_52 hl (k := 4) rfl rfl (by decide) rfl (fun ls hl => ?_)
      refine lv_goto (tgt := 5) hx hb d_MM_setOf_55 (by decide) ?_
      exact hG1 _ (o_v hf1).symm _ _ _ hH (lv_sub hl [2, 3, 4, 1, 0] rfl)
    have J49 : ∀ (x4 : Int32) (s0 : Int32) (H : Heap) (locs : List Loc) (ls : Array Slot), f_MM_setOf_J49 M x1 x2 x4 s0 = some o1 → HW Z M s H locs → lv_has ls 5 [(0, .ref (Z.2.2.1 0)), (1, .int x1), (2, .int x2), (4, .int x4)] → W p l e R s m args below meth c H locs 0 0 Q (F0 m 49 ls [.int s0]) := by
      intro x4 s0 H locs ls hf1 hH hl
      unfold f_MM_setOf_J49 at hf1
      refine lv_iconst (v := (0 : Int32)) hx hb d_MM_setOf_49 (by decide) ?_
      exact J50 _ _ _ _ _ _ hf1 hH (lv_sub hl [0, 1, 2, 3] rfl)
    refine lv_iload hx hb d_MM_setOf_5 (lv_at hl 4 rfl) ?_
    refine lv_iconst (v := (4 : Int32)) hx hb d_MM_setOf_7 (by decide) ?_
    refine lv_icmp_ge (tgt := 58) hx hb d_MM_setOf_8 (by decide) (fun hc => ?_) (fun hc => ?_)
    · replace hf1 := o_t hc hf1
      refine lv_iload_n hx hb d_MM_setOf_58 rfl (lv_at hl 3 rfl) ?_
      obtain rfl := hR1 _ (o_v hf1).symm
      obtain rfl := o_v hf0
      exact hQ _ _ _ _ hH d_MM_setOf_59
    · replace hf1 := o_f hc hf1
      refine lv_iload_n hx hb d_MM_setOf_11 rfl (lv_at hl 3 rfl) ?_
      refine lv_aload_n hx hb d_MM_setOf_12 rfl (lv_at hl 0 rfl) ?_
      refine g_MM_60 S hX hH hZ d_MM_setOf_13 ?_
      refine lv_iload_n hx hb d_MM_setOf_16 rfl (lv_at hl 1 rfl) ?_
      refine lv_iload hx hb d_MM_setOf_17 (lv_at hl 4 rfl) ?_
      refine q_cSi (As := [.int x1, .int x4]) (rest := [.ref (Z.2.2.1 17), .int x3]) S hX hH (c_MM_cell l hI M x1 x4 rfl) (cw_MM_276 S.2.2.2.2 (Nat.le_trans (Nat.le_of_ble_eq_true rfl) hR.1) (Nat.le_trans (Nat.le_of_ble_eq_true rfl) hR.2)) rfl hl.1 rfl (Nat.le_of_ble_eq_true rfl) d_MM_setOf_19 ⟨Nat.zero_le _, Nat.zero_le _⟩ (fun H locs hH => ?_)
      obtain ⟨hn1, hf1⟩ := o_in hf1
      refine q_iald (j := (f_MM_cell x1 x4).toNatClampNeg) hx hb hX hH (aa_MM_17 hZ) hn1 rfl d_MM_setOf_22 ?_
      refine lv_iconst (v := (-1 : Int32)) hx hb d_MM_setOf_23 (by decide) ?_
      refine lv_icmp_eq (tgt := 49) hx hb d_MM_setOf_24 (by decide) (fun hc => ?_) (fun hc => ?_)
      · replace hf1 := o_t hc hf1
        exact J49 _ _ _ _ _ hf1 hH (lv_sub hl [0, 1, 2, 4] rfl)
      · replace hf1 := o_f hc hf1
        refine lv_aload_n hx hb d_MM_setOf_27 rfl (lv_at hl 0 rfl) ?_
        refine g_MM_60 S hX hH hZ d_MM_setOf_28 ?_
        refine lv_iload_n hx hb d_MM_setOf_31 rfl (lv_at hl 1 rfl) ?_
        refine lv_iload hx hb d_MM_setOf_32 (lv_at hl 4 rfl) ?_
        refine q_cSi (As := [.int x1, .int x4]) (rest := [.ref (Z.2.2.1 17), .int x3]) S hX hH (c_MM_cell l hI M x1 x4 rfl) (cw_MM_276 S.2.2.2.2 (Nat.le_trans (Nat.le_of_ble_eq_true rfl) hR.1) (Nat.le_trans (Nat.le_of_ble_eq_true rfl) hR.2)) rfl hl.1 rfl (Nat.le_of_ble_eq_true rfl) d_MM_setOf_34 ⟨Nat.zero_le _, Nat.zero_le _⟩ (fun H locs hH => ?_)
        refine q_iald (j := (f_MM_cell x1 x4).toNatClampNeg) hx hb hX hH (aa_MM_17 hZ) hn1 rfl d_MM_setOf_37 ?_
        refine lv_iload_n hx hb d_MM_setOf_38 rfl (lv_at hl 2 rfl) ?_
        refine lv_icmp_gt (tgt := 49) hx hb d_MM_setOf_39 (by decide) (fun hc => ?_) (fun hc => ?_)
        · replace hf1 := o_t hc hf1
          exact J49 _ _ _ _ _ hf1 hH (lv_sub hl [0, 1, 2, 4] rfl)
        · replace hf1 := o_f hc hf1
          refine lv_iconst (v := (1 : Int32)) hx hb d_MM_setOf_42 (by decide) ?_
          refine lv_iload hx hb d_MM_setOf_43 (lv_at hl 4 rfl) ?_
          refine lv_ishl hx hb d_MM_setOf_45 ?_
          refine lv_goto (tgt := 50) hx hb d_MM_setOf_46 (by decide) ?_
          exact J50 _ _ _ _ _ _ hf1 hH (lv_sub hl [0, 1, 2, 4] rfl)
  refine lv_iconst (v := (0 : Int32)) hx hb d_MM_setOf_0 (by decide) ?_
  refine lv_istore_n (lv' := [(3, .int (0 : Int32)), (0, .ref (Z.2.2.1 0)), (1, .int x1), (2, .int x2)]) hx hb d_MM_setOf_1 rfl hl (by decide) rfl (fun ls hl => ?_)
  refine lv_iconst (v := (0 : Int32)) hx hb d_MM_setOf_2 (by decide) ?_
  refine lv_istore (lv' := [(4, .int (0 : Int32)), (3, .int (0 : Int32)), (0, .ref (Z.2.2.1 0)), (1, .int x1), (2, .int x2)]) hx hb d_MM_setOf_3 hl (by decide) rfl (fun ls hl => ?_)
  exact J5 _ _ _ _ _ _ _ hf0 hH (lv_sub hl [2, 3, 4, 1, 0] rfl)
theorem c_MM_setOf (l : Launch) {Z : WD} (hI : wI Z) (hZ : IsM Z) (M : Mem) (x1 : Int32) (x2 : Int32) {r : Int32} (hf : f_MM_setOf M x1 x2 = some r) : Ci l Z y_MM_setOf b_MM_setOf 5 (some .int) 1 21 [.ref (Z.2.2.1 0), .int x1, .int x2] M M r := by
  refine Met.ofW (cc := b_MM_setOf) (maxL := 5) (ret := (some .int)) (by decide) rfl ?_
  intro p e s m args below meth c s₁ B hml hv
  obtain ⟨rfl, hP, hX⟩ := hv
  have S : CallFix p m c b_MM_setOf 5 s ([.ref (Z.2.2.1 0), .int x1, .int x2] : List Value).toArray gtb R_MM := ⟨B.exec, B.bytes, hml, findClass_of_methodNamed B.named, fun w hw => atoms_spec (ws := .code y_MM_setOf b_MM_setOf 5 (some .int) :: gtb) B.pre w (List.mem_cons_of_mem _ hw)⟩
  have hl := lv_entry ([.ref (Z.2.2.1 0), .int x1, .int x2]) (n := 5) (Nat.le_of_ble_eq_true rfl)
  rw [lg_entry_eq]
  exact wk_MM_setOf hI hZ M x1 x2 S hX ⟨Nat.le_refl _, Nat.le_refl _⟩ (fun pc H locs ls hH d => q_ri S.1 S.2.1 B.returns B.notSynchronized hH rfl rfl d) hf ⟨hP, va_S.rf⟩ hl
theorem cw_MM_321 {R : Room} {s : State} {args : Array Value} (ht : ∀ w ∈ gtb, w.before args s = true) (h1 : 5 + 1 ≤ R.frames) (h2 : 8 + (3 + 11) + 126 ≤ R.locals) : CallW R s args R_MM R_MM 321 y_MM_runs b_MM_runs 3 none (.code y_MM_runs b_MM_runs 3 none :: gtb) { frames := 5, cells := 0, slots := 0, locals := 126 } 0 0 0 := cwV 0 ht (gV w6_19 w6_21 ws_MM_runs w1_10 w6_22) rfl rfl rfl ⟨rfl, by decide, by decide, by decide +kernel⟩ ⟨h1, h2⟩
theorem cw_MM_312 {R : Room} {s : State} {args : Array Value} (ht : ∀ w ∈ gtb, w.before args s = true) (h1 : 1 + 1 ≤ R.frames) (h2 : 8 + (5 + 11) + 21 ≤ R.locals) : CallW R s args R_MM R_MM 312 y_MM_setOf b_MM_setOf 5 (some .int) (.code y_MM_setOf b_MM_setOf 5 (some .int) :: gtb) { frames := 1, cells := 0, slots := 0, locals := 21 } 0 0 2 := cwV 2 ht (gV w6_58 w6_60 ws_MM_setOf w1_10 w6_61) rfl rfl rfl ⟨rfl, by decide, by decide, by decide +kernel⟩ ⟨h1, h2⟩
noncomputable def f_MM_set (M : Mem) (x1 : Int32) (x2 : Int32) : Option (Int32 × Mem) := 
    if (bI (f_MM_isHonest M x1)) = 0 then some ((-1 : Int32), M) else 
    if (bI (f_MM_in x2.toInt64 (0 : Int64) ((M 1 3).toInt64))) = 0 then some ((-1 : Int32), M) else bnd (f_MM_runs M) (fun M2 => bnd (f_MM_setOf M2 x1 x2) (fun y4 => some (y4, M2)))
set_option maxHeartbeats 4000000 in
theorem wk_MM_set {l : Launch} {Z : WD} (hI : wI Z) (hZ : IsM Z) (M : Mem) (x1 : Int32) (x2 : Int32) {r : Int32} {M' : Mem} {p : Program} {e : Env} {R : Room} {s : State} {m : MethodId} {args : Array Value} {below : List Frame} {meth : Method} {c : Code} {H : Heap} {locs : List Loc} {ls : Array Slot} {Q : State → Prop} (S : CallFix p m c b_MM_set 3 s args gtb R_MM) (hX : wX Z s) (hR : 6 ≤ R.frames ∧ 148 ≤ R.locals) (hQ : ∀ (pc : Nat) (H : Heap) (locs : List Loc) (ls : Array Slot), HW Z M' s H locs → decode b_MM_set pc = .ok (.ireturn, 1) → W p l e R s m args below meth c H locs 0 0 Q (F0 m pc ls [.int r])) (hf0 : f_MM_set M x1 x2 = some (r, M')) (hH : HW Z M s H locs) (hl : lv_has ls 3 [(0, .ref (Z.2.2.1 0)), (1, .int x1), (2, .int x2)]) : W p l e R s m args below meth c H locs 0 0 Q (F0 m 0 ls []) := by
  have hx := S.1
  have hb := S.2.1
  have hown := S.2.2.2.1
  have ht := S.2.2.2.2
  unfold f_MM_set at hf0
  refine lv_aload_n hx hb d_MM_set_0 rfl (lv_at hl 0 rfl) ?_
  refine lv_iload_n hx hb d_MM_set_1 rfl (lv_at hl 1 rfl) ?_
  refine q_cVi (As := [.int x1]) (rest := []) S hX hH (c_MM_isHonest l hI hZ M x1 rfl) (cw_MM_300 S.2.2.2.2 (Nat.le_trans (Nat.le_of_ble_eq_true rfl) hR.1) (Nat.le_trans (Nat.le_of_ble_eq_true rfl) hR.2)) (rc_MM hX hH hZ) rfl hl.1 rfl (Nat.le_of_ble_eq_true rfl) d_MM_set_2 ⟨Nat.zero_le _, Nat.zero_le _⟩ (fun H locs hH => ?_)
  refine lv_if_eq (tgt := 24) hx hb d_MM_set_5 (by decide) (fun hc => ?_) (fun hc => ?_)
  · replace hf0 := o_t hc hf0
    refine lv_iconst (v := (-1 : Int32)) hx hb d_MM_set_24 (by decide) ?_
    obtain ⟨rfl, rfl⟩ := o_p hf0
    exact hQ _ _ _ _ hH d_MM_set_25
  · replace hf0 := o_f hc hf0
    refine lv_iload_n hx hb d_MM_set_8 rfl (lv_at hl 2 rfl) ?_
    refine lv_i2l hx hb d_MM_set_9 rfl ?_
    refine lv_lconst (v := (0 : Int64)) hx hb d_MM_set_10 (by decide) ?_
    refine lv_aload_n hx hb d_MM_set_11 rfl (lv_at hl 0 rfl) ?_
    refine g_MM_9 S hX hH hZ d_MM_set_12 ?_
    refine lv_iconst (v := (3 : Int32)) hx hb d_MM_set_15 (by decide) ?_
    refine q_iald (j := 3) hx hb hX hH (aa_MM_1 hZ) (vp_c (by decide)) (by decide) d_MM_set_16 ?_
    refine lv_i2l hx hb d_MM_set_17 rfl ?_
    refine q_cSi (As := [.long x2.toInt64, .long (0 : Int64), .long ((M 1 3).toInt64)]) (rest := []) S hX hH (c_MM_in l hI M x2.toInt64 (0 : Int64) ((M 1 3).toInt64) rfl) (cw_MM_108 S.2.2.2.2 (Nat.le_trans (Nat.le_of_ble_eq_true rfl) hR.1) (Nat.le_trans (Nat.le_of_ble_eq_true rfl) hR.2)) rfl hl.1 rfl (Nat.le_of_ble_eq_true rfl) d_MM_set_18 ⟨Nat.zero_le _, Nat.zero_le _⟩ (fun H locs hH => ?_)
    refine lv_if_ne (tgt := 26) hx hb d_MM_set_21 (by decide) (fun hc => ?_) (fun hc => ?_)
    · replace hf0 := o_f hc hf0
      refine lv_aload_n hx hb d_MM_set_26 rfl (lv_at hl 0 rfl) ?_
      obtain ⟨M2, hc1, hf0⟩ := o_b hf0
      refine q_cVv (As := []) (rest := []) S hX hH (c_MM_runs l hI hZ M hc1) (cw_MM_321 S.2.2.2.2 (Nat.le_trans (Nat.le_of_ble_eq_true rfl) hR.1) (Nat.le_trans (Nat.le_of_ble_eq_true rfl) hR.2)) (rc_MM hX hH hZ) rfl hl.1 rfl (Nat.le_of_ble_eq_true rfl) d_MM_set_27 ⟨Nat.zero_le _, Nat.zero_le _⟩ (fun H locs hH => ?_)
      refine lv_aload_n hx hb d_MM_set_30 rfl (lv_at hl 0 rfl) ?_
      refine lv_iload_n hx hb d_MM_set_31 rfl (lv_at hl 1 rfl) ?_
      refine lv_iload_n hx hb d_MM_set_32 rfl (lv_at hl 2 rfl) ?_
      obtain ⟨y4, hc3, hf0⟩ := o_b hf0
      refine q_cVi (As := [.int x1, .int x2]) (rest := []) S hX hH (c_MM_setOf l hI hZ M2 x1 x2 hc3) (cw_MM_312 S.2.2.2.2 (Nat.le_trans (Nat.le_of_ble_eq_true rfl) hR.1) (Nat.le_trans (Nat.le_of_ble_eq_true rfl) hR.2)) (rc_MM hX hH hZ) rfl hl.1 rfl (Nat.le_of_ble_eq_true rfl) d_MM_set_33 ⟨Nat.zero_le _, Nat.zero_le _⟩ (fun H locs hH => ?_)
      obtain ⟨rfl, rfl⟩ := o_p hf0
      exact hQ _ _ _ _ hH d_MM_set_36
    · replace hf0 := o_t hc hf0
      refine lv_iconst (v := (-1 : Int32)) hx hb d_MM_set_24 (by decide) ?_
      obtain ⟨rfl, rfl⟩ := o_p hf0
      exact hQ _ _ _ _ hH d_MM_set_25
theorem c_MM_set (l : Launch) {Z : WD} (hI : wI Z) (hZ : IsM Z) (M : Mem) (x1 : Int32) (x2 : Int32) {r : Int32} {M' : Mem} (hf : f_MM_set M x1 x2 = some (r, M')) : Ci l Z y_MM_set b_MM_set 3 (some .int) 6 148 [.ref (Z.2.2.1 0), .int x1, .int x2] M M' r := by
  refine Met.ofW (cc := b_MM_set) (maxL := 3) (ret := (some .int)) (by decide) rfl ?_
  intro p e s m args below meth c s₁ B hml hv
  obtain ⟨rfl, hP, hX⟩ := hv
  have S : CallFix p m c b_MM_set 3 s ([.ref (Z.2.2.1 0), .int x1, .int x2] : List Value).toArray gtb R_MM := ⟨B.exec, B.bytes, hml, findClass_of_methodNamed B.named, fun w hw => atoms_spec (ws := .code y_MM_set b_MM_set 3 (some .int) :: gtb) B.pre w (List.mem_cons_of_mem _ hw)⟩
  have hl := lv_entry ([.ref (Z.2.2.1 0), .int x1, .int x2]) (n := 3) (Nat.le_of_ble_eq_true rfl)
  rw [lg_entry_eq]
  exact wk_MM_set hI hZ M x1 x2 S hX ⟨Nat.le_refl _, Nat.le_refl _⟩ (fun pc H locs ls hH d => q_ri S.1 S.2.1 B.returns B.notSynchronized hH rfl rfl d) hf ⟨hP, va_S.rf⟩ hl
theorem cw_MM_315 {R : Room} {s : State} {args : Array Value} (ht : ∀ w ∈ gtb, w.before args s = true) (h1 : 0 + 1 ≤ R.frames) (h2 : 8 + (2 + 11) + 0 ≤ R.locals) : CallB R s args R_MM 315 y_Int_numberOfTrailingZeros b_Int_numberOfTrailingZeros 2 (some .int) (.code y_Int_numberOfTrailingZeros b_Int_numberOfTrailingZeros 2 (some .int) :: gtb) { frames := 0, cells := 0, slots := 0, locals := 0 } 0 0 1 ∧ (Cond.static y_Int_numberOfTrailingZeros).before args s = true := va_cwS 1 ht (gS w6_70 w6_71 w1_15 w6_72) rfl rfl rfl ⟨by decide, by decide, by decide +kernel⟩ ⟨h1, h2⟩
noncomputable def f_MM_decisionOf (M : Mem) (x1 : Int32) : Option Int32 := 
    bnd (f_MM_setOf M x1 (8 : Int32)) (fun y2 => if (f_Int_bitCount y2) = (1 : Int32) then some (f_Int_numberOfTrailingZeros y2) else some (M 1 4))
set_option maxHeartbeats 4000000 in
theorem wk_MM_decisionOf {l : Launch} {Z : WD} (hI : wI Z) (hZ : IsM Z) (M : Mem) (x1 : Int32) {r : Int32} {p : Program} {e : Env} {R : Room} {s : State} {m : MethodId} {args : Array Value} {below : List Frame} {meth : Method} {c : Code} {H : Heap} {locs : List Loc} {ls : Array Slot} {Q : State → Prop} (S : CallFix p m c b_MM_decisionOf 3 s args gtb R_MM) (hX : wX Z s) (hR : 2 ≤ R.frames ∧ 45 ≤ R.locals) (hQ : ∀ (pc : Nat) (H : Heap) (locs : List Loc) (ls : Array Slot), HW Z M s H locs → decode b_MM_decisionOf pc = .ok (.ireturn, 1) → W p l e R s m args below meth c H locs 0 0 Q (F0 m pc ls [.int r])) (hf0 : f_MM_decisionOf M x1 = some r) (hH : HW Z M s H locs) (hl : lv_has ls 3 [(0, .ref (Z.2.2.1 0)), (1, .int x1)]) : W p l e R s m args below meth c H locs 0 0 Q (F0 m 0 ls []) := by
  have hx := S.1
  have hb := S.2.1
  have hown := S.2.2.2.1
  have ht := S.2.2.2.2
  unfold f_MM_decisionOf at hf0
  refine lv_aload_n hx hb d_MM_decisionOf_0 rfl (lv_at hl 0 rfl) ?_
  refine lv_iload_n hx hb d_MM_decisionOf_1 rfl (lv_at hl 1 rfl) ?_
  refine lv_bipush (v := (8 : Int32)) hx hb d_MM_decisionOf_2 (by decide) ?_
  obtain ⟨y2, hc1, hf0⟩ := o_b hf0
  refine q_cVi (As := [.int x1, .int (8 : Int32)]) (rest := []) S hX hH (c_MM_setOf l hI hZ M x1 (8 : Int32) hc1) (cw_MM_312 S.2.2.2.2 (Nat.le_trans (Nat.le_of_ble_eq_true rfl) hR.1) (Nat.le_trans (Nat.le_of_ble_eq_true rfl) hR.2)) (rc_MM hX hH hZ) rfl hl.1 rfl (Nat.le_of_ble_eq_true rfl) d_MM_decisionOf_4 ⟨Nat.zero_le _, Nat.zero_le _⟩ (fun H locs hH => ?_)
  refine lv_istore_n (lv' := [(2, .int y2), (0, .ref (Z.2.2.1 0)), (1, .int x1)]) hx hb d_MM_decisionOf_7 rfl hl (by decide) rfl (fun ls hl => ?_)
  refine lv_iload_n hx hb d_MM_decisionOf_8 rfl (lv_at hl 0 rfl) ?_
  refine q_cSi (As := [.int y2]) (rest := []) S hX hH (c_Int_bitCount l hI M y2 rfl) (cw_MM_255 S.2.2.2.2 (Nat.le_trans (Nat.le_of_ble_eq_true rfl) hR.1) (Nat.le_trans (Nat.le_of_ble_eq_true rfl) hR.2)) rfl hl.1 rfl (Nat.le_of_ble_eq_true rfl) d_MM_decisionOf_9 ⟨Nat.zero_le _, Nat.zero_le _⟩ (fun H locs hH => ?_)
  refine lv_iconst (v := (1 : Int32)) hx hb d_MM_decisionOf_12 (by decide) ?_
  refine lv_icmp_ne (tgt := 23) hx hb d_MM_decisionOf_13 (by decide) (fun hc => ?_) (fun hc => ?_)
  · replace hf0 := o_f hc hf0
    refine lv_aload_n hx hb d_MM_decisionOf_23 rfl (lv_at hl 1 rfl) ?_
    refine g_MM_9 S hX hH hZ d_MM_decisionOf_24 ?_
    refine lv_iconst (v := (4 : Int32)) hx hb d_MM_decisionOf_27 (by decide) ?_
    refine q_iald (j := 4) hx hb hX hH (aa_MM_1 hZ) (vp_c (by decide)) (by decide) d_MM_decisionOf_28 ?_
    obtain rfl := o_v hf0
    exact hQ _ _ _ _ hH d_MM_decisionOf_29
  · replace hf0 := o_t hc hf0
    refine lv_iload_n hx hb d_MM_decisionOf_16 rfl (lv_at hl 0 rfl) ?_
    refine q_cSi (As := [.int y2]) (rest := []) S hX hH (c_Int_numberOfTrailingZeros l hI M y2 rfl) (cw_MM_315 S.2.2.2.2 (Nat.le_trans (Nat.le_of_ble_eq_true rfl) hR.1) (Nat.le_trans (Nat.le_of_ble_eq_true rfl) hR.2)) rfl hl.1 rfl (Nat.le_of_ble_eq_true rfl) d_MM_decisionOf_17 ⟨Nat.zero_le _, Nat.zero_le _⟩ (fun H locs hH => ?_)
    refine lv_goto (tgt := 29) hx hb d_MM_decisionOf_20 (by decide) ?_
    obtain rfl := o_v hf0
    exact hQ _ _ _ _ hH d_MM_decisionOf_29
theorem c_MM_decisionOf (l : Launch) {Z : WD} (hI : wI Z) (hZ : IsM Z) (M : Mem) (x1 : Int32) {r : Int32} (hf : f_MM_decisionOf M x1 = some r) : Ci l Z y_MM_decisionOf b_MM_decisionOf 3 (some .int) 2 45 [.ref (Z.2.2.1 0), .int x1] M M r := by
  refine Met.ofW (cc := b_MM_decisionOf) (maxL := 3) (ret := (some .int)) (by decide) rfl ?_
  intro p e s m args below meth c s₁ B hml hv
  obtain ⟨rfl, hP, hX⟩ := hv
  have S : CallFix p m c b_MM_decisionOf 3 s ([.ref (Z.2.2.1 0), .int x1] : List Value).toArray gtb R_MM := ⟨B.exec, B.bytes, hml, findClass_of_methodNamed B.named, fun w hw => atoms_spec (ws := .code y_MM_decisionOf b_MM_decisionOf 3 (some .int) :: gtb) B.pre w (List.mem_cons_of_mem _ hw)⟩
  have hl := lv_entry ([.ref (Z.2.2.1 0), .int x1]) (n := 3) (Nat.le_of_ble_eq_true rfl)
  rw [lg_entry_eq]
  exact wk_MM_decisionOf hI hZ M x1 S hX ⟨Nat.le_refl _, Nat.le_refl _⟩ (fun pc H locs ls hH d => q_ri S.1 S.2.1 B.returns B.notSynchronized hH rfl rfl d) hf ⟨hP, va_S.rf⟩ hl
theorem cw_MM_318 {R : Room} {s : State} {args : Array Value} (ht : ∀ w ∈ gtb, w.before args s = true) (h1 : 2 + 1 ≤ R.frames) (h2 : 8 + (3 + 11) + 45 ≤ R.locals) : CallW R s args R_MM R_MM 318 y_MM_decisionOf b_MM_decisionOf 3 (some .int) (.code y_MM_decisionOf b_MM_decisionOf 3 (some .int) :: gtb) { frames := 2, cells := 0, slots := 0, locals := 45 } 0 0 1 := cwV 1 ht (gV w6_66 w6_68 ws_MM_decisionOf w1_10 w6_69) rfl rfl rfl ⟨rfl, by decide, by decide, by decide +kernel⟩ ⟨h1, h2⟩
noncomputable def f_MM_decision (M : Mem) (x1 : Int32) : Option (Int32 × Mem) := 
    if (bI (f_MM_isHonest M x1)) = 0 then some ((-1 : Int32), M) else bnd (f_MM_runs M) (fun M2 => bnd (f_MM_decisionOf M2 x1) (fun y4 => some (y4, M2)))
set_option maxHeartbeats 4000000 in
theorem wk_MM_decision {l : Launch} {Z : WD} (hI : wI Z) (hZ : IsM Z) (M : Mem) (x1 : Int32) {r : Int32} {M' : Mem} {p : Program} {e : Env} {R : Room} {s : State} {m : MethodId} {args : Array Value} {below : List Frame} {meth : Method} {c : Code} {H : Heap} {locs : List Loc} {ls : Array Slot} {Q : State → Prop} (S : CallFix p m c b_MM_decision 2 s args gtb R_MM) (hX : wX Z s) (hR : 6 ≤ R.frames ∧ 148 ≤ R.locals) (hQ : ∀ (pc : Nat) (H : Heap) (locs : List Loc) (ls : Array Slot), HW Z M' s H locs → decode b_MM_decision pc = .ok (.ireturn, 1) → W p l e R s m args below meth c H locs 0 0 Q (F0 m pc ls [.int r])) (hf0 : f_MM_decision M x1 = some (r, M')) (hH : HW Z M s H locs) (hl : lv_has ls 2 [(0, .ref (Z.2.2.1 0)), (1, .int x1)]) : W p l e R s m args below meth c H locs 0 0 Q (F0 m 0 ls []) := by
  have hx := S.1
  have hb := S.2.1
  have hown := S.2.2.2.1
  have ht := S.2.2.2.2
  unfold f_MM_decision at hf0
  refine lv_aload_n hx hb d_MM_decision_0 rfl (lv_at hl 0 rfl) ?_
  refine lv_iload_n hx hb d_MM_decision_1 rfl (lv_at hl 1 rfl) ?_
  refine q_cVi (As := [.int x1]) (rest := []) S hX hH (c_MM_isHonest l hI hZ M x1 rfl) (cw_MM_300 S.2.2.2.2 (Nat.le_trans (Nat.le_of_ble_eq_true rfl) hR.1) (Nat.le_trans (Nat.le_of_ble_eq_true rfl) hR.2)) (rc_MM hX hH hZ) rfl hl.1 rfl (Nat.le_of_ble_eq_true rfl) d_MM_decision_2 ⟨Nat.zero_le _, Nat.zero_le _⟩ (fun H locs hH => ?_)
  refine lv_if_ne (tgt := 10) hx hb d_MM_decision_5 (by decide) (fun hc => ?_) (fun hc => ?_)
  · replace hf0 := o_f hc hf0
    refine lv_aload_n hx hb d_MM_decision_10 rfl (lv_at hl 0 rfl) ?_
    obtain ⟨M2, hc1, hf0⟩ := o_b hf0
    refine q_cVv (As := []) (rest := []) S hX hH (c_MM_runs l hI hZ M hc1) (cw_MM_321 S.2.2.2.2 (Nat.le_trans (Nat.le_of_ble_eq_true rfl) hR.1) (Nat.le_trans (Nat.le_of_ble_eq_true rfl) hR.2)) (rc_MM hX hH hZ) rfl hl.1 rfl (Nat.le_of_ble_eq_true rfl) d_MM_decision_11 ⟨Nat.zero_le _, Nat.zero_le _⟩ (fun H locs hH => ?_)
    refine lv_aload_n hx hb d_MM_decision_14 rfl (lv_at hl 0 rfl) ?_
    refine lv_iload_n hx hb d_MM_decision_15 rfl (lv_at hl 1 rfl) ?_
    obtain ⟨y4, hc3, hf0⟩ := o_b hf0
    refine q_cVi (As := [.int x1]) (rest := []) S hX hH (c_MM_decisionOf l hI hZ M2 x1 hc3) (cw_MM_318 S.2.2.2.2 (Nat.le_trans (Nat.le_of_ble_eq_true rfl) hR.1) (Nat.le_trans (Nat.le_of_ble_eq_true rfl) hR.2)) (rc_MM hX hH hZ) rfl hl.1 rfl (Nat.le_of_ble_eq_true rfl) d_MM_decision_16 ⟨Nat.zero_le _, Nat.zero_le _⟩ (fun H locs hH => ?_)
    obtain ⟨rfl, rfl⟩ := o_p hf0
    exact hQ _ _ _ _ hH d_MM_decision_19
  · replace hf0 := o_t hc hf0
    refine lv_iconst (v := (-1 : Int32)) hx hb d_MM_decision_8 (by decide) ?_
    obtain ⟨rfl, rfl⟩ := o_p hf0
    exact hQ _ _ _ _ hH d_MM_decision_9
theorem c_MM_decision (l : Launch) {Z : WD} (hI : wI Z) (hZ : IsM Z) (M : Mem) (x1 : Int32) {r : Int32} {M' : Mem} (hf : f_MM_decision M x1 = some (r, M')) : Ci l Z y_MM_decision b_MM_decision 2 (some .int) 6 148 [.ref (Z.2.2.1 0), .int x1] M M' r := by
  refine Met.ofW (cc := b_MM_decision) (maxL := 2) (ret := (some .int)) (by decide) rfl ?_
  intro p e s m args below meth c s₁ B hml hv
  obtain ⟨rfl, hP, hX⟩ := hv
  have S : CallFix p m c b_MM_decision 2 s ([.ref (Z.2.2.1 0), .int x1] : List Value).toArray gtb R_MM := ⟨B.exec, B.bytes, hml, findClass_of_methodNamed B.named, fun w hw => atoms_spec (ws := .code y_MM_decision b_MM_decision 2 (some .int) :: gtb) B.pre w (List.mem_cons_of_mem _ hw)⟩
  have hl := lv_entry ([.ref (Z.2.2.1 0), .int x1]) (n := 2) (Nat.le_of_ble_eq_true rfl)
  rw [lg_entry_eq]
  exact wk_MM_decision hI hZ M x1 S hX ⟨Nat.le_refl _, Nat.le_refl _⟩ (fun pc H locs ls hH d => q_ri S.1 S.2.1 B.returns B.notSynchronized hH rfl rfl d) hf ⟨hP, va_S.rf⟩ hl
noncomputable def f_MM_extracted (M : Mem) (x1 : Int32) (x2 : Int32) (x3 : Int32) : Option (Int32 × Mem) := 
    if (bI (f_MM_isHonest M x1)) = 0 then some ((-1 : Int32), M) else 
    if (bI (f_MM_in x2.toInt64 (0 : Int64) (3 : Int64))) = 0 then some ((-1 : Int32), M) else 
    if (bI (f_MM_in x3.toInt64 (0 : Int64) (3 : Int64))) = 0 then some ((-1 : Int32), M) else 
    bnd (f_MM_runs M) (fun M2 => 
    gIn (f_MM_cell x1 x2) 32 (if (M2 17 (f_MM_cell x1 x2).toNatClampNeg) = (-1 : Int32) then some ((-2 : Int32), M2) else 
    if x3 = (0 : Int32) then some (M2 17 (f_MM_cell x1 x2).toNatClampNeg, M2) else 
    if x3 = (1 : Int32) then 
    if (M2 18 (f_MM_cell x1 x2).toNatClampNeg) = (-1 : Int32) then some ((-1 : Int32), M2) else 
    gIn (M2 18 (f_MM_cell x1 x2).toNatClampNeg) 260 (some (M2 10 (M2 18 (f_MM_cell x1 x2).toNatClampNeg).toNatClampNeg, M2)) else 
    if x3 = (2 : Int32) then 
    if (M2 18 (f_MM_cell x1 x2).toNatClampNeg) = (-1 : Int32) then some ((0 : Int32), M2) else 
    gIn (M2 18 (f_MM_cell x1 x2).toNatClampNeg) 260 (some (M2 13 (M2 18 (f_MM_cell x1 x2).toNatClampNeg).toNatClampNeg, M2)) else bnd (f_MM_relays M2 x1 x2) (fun y7 => some (f_MM_truth (bI y7), M2))))
set_option maxHeartbeats 4000000 in
theorem wk_MM_extracted {l : Launch} {Z : WD} (hI : wI Z) (hZ : IsM Z) (M : Mem) (x1 : Int32) (x2 : Int32) (x3 : Int32) {r : Int32} {M' : Mem} {p : Program} {e : Env} {R : Room} {s : State} {m : MethodId} {args : Array Value} {below : List Frame} {meth : Method} {c : Code} {H : Heap} {locs : List Loc} {ls : Array Slot} {Q : State → Prop} (S : CallFix p m c b_MM_extracted 6 s args gtb R_MM) (hX : wX Z s) (hR : 6 ≤ R.frames ∧ 148 ≤ R.locals) (hQ : ∀ (pc : Nat) (H : Heap) (locs : List Loc) (ls : Array Slot), HW Z M' s H locs → decode b_MM_extracted pc = .ok (.ireturn, 1) → W p l e R s m args below meth c H locs 0 0 Q (F0 m pc ls [.int r])) (hf0 : f_MM_extracted M x1 x2 x3 = some (r, M')) (hH : HW Z M s H locs) (hl : lv_has ls 6 [(0, .ref (Z.2.2.1 0)), (1, .int x1), (2, .int x2), (3, .int x3)]) : W p l e R s m args below meth c H locs 0 0 Q (F0 m 0 ls []) := by
  have hx := S.1
  have hb := S.2.1
  have hown := S.2.2.2.1
  have ht := S.2.2.2.2
  unfold f_MM_extracted at hf0
  refine lv_aload_n hx hb d_MM_extracted_0 rfl (lv_at hl 0 rfl) ?_
  refine lv_iload_n hx hb d_MM_extracted_1 rfl (lv_at hl 1 rfl) ?_
  refine q_cVi (As := [.int x1]) (rest := []) S hX hH (c_MM_isHonest l hI hZ M x1 rfl) (cw_MM_300 S.2.2.2.2 (Nat.le_trans (Nat.le_of_ble_eq_true rfl) hR.1) (Nat.le_trans (Nat.le_of_ble_eq_true rfl) hR.2)) (rc_MM hX hH hZ) rfl hl.1 rfl (Nat.le_of_ble_eq_true rfl) d_MM_extracted_2 ⟨Nat.zero_le _, Nat.zero_le _⟩ (fun H locs hH => ?_)
  refine lv_if_eq (tgt := 32) hx hb d_MM_extracted_5 (by decide) (fun hc => ?_) (fun hc => ?_)
  · replace hf0 := o_t hc hf0
    refine lv_iconst (v := (-1 : Int32)) hx hb d_MM_extracted_32 (by decide) ?_
    obtain ⟨rfl, rfl⟩ := o_p hf0
    exact hQ _ _ _ _ hH d_MM_extracted_33
  · replace hf0 := o_f hc hf0
    refine lv_iload_n hx hb d_MM_extracted_8 rfl (lv_at hl 2 rfl) ?_
    refine lv_i2l hx hb d_MM_extracted_9 rfl ?_
    refine lv_lconst (v := (0 : Int64)) hx hb d_MM_extracted_10 (by decide) ?_
    refine lv_ldc2 (v := (3 : Int64)) hx hb hown (ht _ w5_171) d_MM_extracted_11 ?_
    refine q_cSi (As := [.long x2.toInt64, .long (0 : Int64), .long (3 : Int64)]) (rest := []) S hX hH (c_MM_in l hI M x2.toInt64 (0 : Int64) (3 : Int64) rfl) (cw_MM_108 S.2.2.2.2 (Nat.le_trans (Nat.le_of_ble_eq_true rfl) hR.1) (Nat.le_trans (Nat.le_of_ble_eq_true rfl) hR.2)) rfl hl.1 rfl (Nat.le_of_ble_eq_true rfl) d_MM_extracted_14 ⟨Nat.zero_le _, Nat.zero_le _⟩ (fun H locs hH => ?_)
    refine lv_if_eq (tgt := 32) hx hb d_MM_extracted_17 (by decide) (fun hc => ?_) (fun hc => ?_)
    · replace hf0 := o_t hc hf0
      refine lv_iconst (v := (-1 : Int32)) hx hb d_MM_extracted_32 (by decide) ?_
      obtain ⟨rfl, rfl⟩ := o_p hf0
      exact hQ _ _ _ _ hH d_MM_extracted_33
    · replace hf0 := o_f hc hf0
      refine lv_iload_n hx hb d_MM_extracted_20 rfl (lv_at hl 3 rfl) ?_
      refine lv_i2l hx hb d_MM_extracted_21 rfl ?_
      refine lv_lconst (v := (0 : Int64)) hx hb d_MM_extracted_22 (by decide) ?_
      refine lv_ldc2 (v := (3 : Int64)) hx hb hown (ht _ w5_171) d_MM_extracted_23 ?_
      refine q_cSi (As := [.long x3.toInt64, .long (0 : Int64), .long (3 : Int64)]) (rest := []) S hX hH (c_MM_in l hI M x3.toInt64 (0 : Int64) (3 : Int64) rfl) (cw_MM_108 S.2.2.2.2 (Nat.le_trans (Nat.le_of_ble_eq_true rfl) hR.1) (Nat.le_trans (Nat.le_of_ble_eq_true rfl) hR.2)) rfl hl.1 rfl (Nat.le_of_ble_eq_true rfl) d_MM_extracted_26 ⟨Nat.zero_le _, Nat.zero_le _⟩ (fun H locs hH => ?_)
      refine lv_if_ne (tgt := 34) hx hb d_MM_extracted_29 (by decide) (fun hc => ?_) (fun hc => ?_)
      · replace hf0 := o_f hc hf0
        refine lv_aload_n hx hb d_MM_extracted_34 rfl (lv_at hl 0 rfl) ?_
        obtain ⟨M2, hc1, hf0⟩ := o_b hf0
        refine q_cVv (As := []) (rest := []) S hX hH (c_MM_runs l hI hZ M hc1) (cw_MM_321 S.2.2.2.2 (Nat.le_trans (Nat.le_of_ble_eq_true rfl) hR.1) (Nat.le_trans (Nat.le_of_ble_eq_true rfl) hR.2)) (rc_MM hX hH hZ) rfl hl.1 rfl (Nat.le_of_ble_eq_true rfl) d_MM_extracted_35 ⟨Nat.zero_le _, Nat.zero_le _⟩ (fun H locs hH => ?_)
        refine lv_aload_n hx hb d_MM_extracted_38 rfl (lv_at hl 0 rfl) ?_
        refine g_MM_60 S hX hH hZ d_MM_extracted_39 ?_
        refine lv_iload_n hx hb d_MM_extracted_42 rfl (lv_at hl 1 rfl) ?_
        refine lv_iload_n hx hb d_MM_extracted_43 rfl (lv_at hl 2 rfl) ?_
        refine q_cSi (As := [.int x1, .int x2]) (rest := [.ref (Z.2.2.1 17)]) S hX hH (c_MM_cell l hI M2 x1 x2 rfl) (cw_MM_276 S.2.2.2.2 (Nat.le_trans (Nat.le_of_ble_eq_true rfl) hR.1) (Nat.le_trans (Nat.le_of_ble_eq_true rfl) hR.2)) rfl hl.1 rfl (Nat.le_of_ble_eq_true rfl) d_MM_extracted_44 ⟨Nat.zero_le _, Nat.zero_le _⟩ (fun H locs hH => ?_)
        obtain ⟨hn3, hf0⟩ := o_in hf0
        refine q_iald (j := (f_MM_cell x1 x2).toNatClampNeg) hx hb hX hH (aa_MM_17 hZ) hn3 rfl d_MM_extracted_47 ?_
        refine lv_istore (lv' := [(4, .int (M2 17 (f_MM_cell x1 x2).toNatClampNeg)), (0, .ref (Z.2.2.1 0)), (1, .int x1), (2, .int x2), (3, .int x3)]) hx hb d_MM_extracted_48 hl (by decide) rfl (fun ls hl => ?_)
        refine lv_iload hx hb d_MM_extracted_50 (lv_at hl 0 rfl) ?_
        refine lv_iconst (v := (-1 : Int32)) hx hb d_MM_extracted_52 (by decide) ?_
        refine lv_icmp_ne (tgt := 59) hx hb d_MM_extracted_53 (by decide) (fun hc => ?_) (fun hc => ?_)
        · replace hf0 := o_f hc hf0
          refine lv_aload_n hx hb d_MM_extracted_59 rfl (lv_at hl 1 rfl) ?_
          refine g_MM_63 S hX hH hZ d_MM_extracted_60 ?_
          refine lv_iload_n hx hb d_MM_extracted_63 rfl (lv_at hl 2 rfl) ?_
          refine lv_iload_n hx hb d_MM_extracted_64 rfl (lv_at hl 3 rfl) ?_
          refine q_cSi (As := [.int x1, .int x2]) (rest := [.ref (Z.2.2.1 18)]) S hX hH (c_MM_cell l hI M2 x1 x2 rfl) (cw_MM_276 S.2.2.2.2 (Nat.le_trans (Nat.le_of_ble_eq_true rfl) hR.1) (Nat.le_trans (Nat.le_of_ble_eq_true rfl) hR.2)) rfl hl.1 rfl (Nat.le_of_ble_eq_true rfl) d_MM_extracted_65 ⟨Nat.zero_le _, Nat.zero_le _⟩ (fun H locs hH => ?_)
          refine q_iald (j := (f_MM_cell x1 x2).toNatClampNeg) hx hb hX hH (aa_MM_18 hZ) hn3 rfl d_MM_extracted_68 ?_
          refine lv_istore (lv' := [(5, .int (M2 18 (f_MM_cell x1 x2).toNatClampNeg)), (4, .int (M2 17 (f_MM_cell x1 x2).toNatClampNeg)), (0, .ref (Z.2.2.1 0)), (1, .int x1), (2, .int x2), (3, .int x3)]) hx hb d_MM_extracted_69 hl (by decide) rfl (fun ls hl => ?_)
          refine lv_iload_n hx hb d_MM_extracted_71 rfl (lv_at hl 5 rfl) ?_
          by_cases hcv0 : x3 = (0 : Int32)
          · replace hf0 := o_t hcv0 hf0
            refine lv_tableIn (tgt := 100) hx hb d_MM_extracted_72 (by rw [hcv0]; decide) (by rw [hcv0]; decide) (by rw [hcv0]; rfl) (by decide) ?_
            refine lv_iload hx hb d_MM_extracted_100 (lv_at hl 1 rfl) ?_
            obtain ⟨rfl, rfl⟩ := o_p hf0
            exact hQ _ _ _ _ hH d_MM_extracted_102
          replace hf0 := o_f hcv0 hf0
          by_cases hcv1 : x3 = (1 : Int32)
          · replace hf0 := o_t hcv1 hf0
            refine lv_tableIn (tgt := 103) hx hb d_MM_extracted_72 (by rw [hcv1]; decide) (by rw [hcv1]; decide) (by rw [hcv1]; rfl) (by decide) ?_
            refine lv_iload hx hb d_MM_extracted_103 (lv_at hl 0 rfl) ?_
            refine lv_iconst (v := (-1 : Int32)) hx hb d_MM_extracted_105 (by decide) ?_
            refine lv_icmp_ne (tgt := 113) hx hb d_MM_extracted_106 (by decide) (fun hc => ?_) (fun hc => ?_)
            · replace hf0 := o_f hc hf0
              refine lv_aload_n hx hb d_MM_extracted_113 rfl (lv_at hl 2 rfl) ?_
              refine g_MM_39 S hX hH hZ d_MM_extracted_114 ?_
              refine lv_iload hx hb d_MM_extracted_117 (lv_at hl 0 rfl) ?_
              obtain ⟨hn4, hf0⟩ := o_in hf0
              refine q_iald (j := (M2 18 (f_MM_cell x1 x2).toNatClampNeg).toNatClampNeg) hx hb hX hH (aa_MM_10 hZ) hn4 rfl d_MM_extracted_119 ?_
              obtain ⟨rfl, rfl⟩ := o_p hf0
              exact hQ _ _ _ _ hH d_MM_extracted_120
            · replace hf0 := o_t hc hf0
              refine lv_iconst (v := (-1 : Int32)) hx hb d_MM_extracted_109 (by decide) ?_
              refine lv_goto (tgt := 120) hx hb d_MM_extracted_110 (by decide) ?_
              obtain ⟨rfl, rfl⟩ := o_p hf0
              exact hQ _ _ _ _ hH d_MM_extracted_120
          replace hf0 := o_f hcv1 hf0
          by_cases hcv2 : x3 = (2 : Int32)
          · replace hf0 := o_t hcv2 hf0
            refine lv_tableIn (tgt := 121) hx hb d_MM_extracted_72 (by rw [hcv2]; decide) (by rw [hcv2]; decide) (by rw [hcv2]; rfl) (by decide) ?_
            refine lv_iload hx hb d_MM_extracted_121 (lv_at hl 0 rfl) ?_
            refine lv_iconst (v := (-1 : Int32)) hx hb d_MM_extracted_123 (by decide) ?_
            refine lv_icmp_ne (tgt := 131) hx hb d_MM_extracted_124 (by decide) (fun hc => ?_) (fun hc => ?_)
            · replace hf0 := o_f hc hf0
              refine lv_aload_n hx hb d_MM_extracted_131 rfl (lv_at hl 2 rfl) ?_
              refine g_MM_48 S hX hH hZ d_MM_extracted_132 ?_
              refine lv_iload hx hb d_MM_extracted_135 (lv_at hl 0 rfl) ?_
              obtain ⟨hn5, hf0⟩ := o_in hf0
              refine q_iald (j := (M2 18 (f_MM_cell x1 x2).toNatClampNeg).toNatClampNeg) hx hb hX hH (aa_MM_13 hZ) hn5 rfl d_MM_extracted_137 ?_
              obtain ⟨rfl, rfl⟩ := o_p hf0
              exact hQ _ _ _ _ hH d_MM_extracted_138
            · replace hf0 := o_t hc hf0
              refine lv_iconst (v := (0 : Int32)) hx hb d_MM_extracted_127 (by decide) ?_
              refine lv_goto (tgt := 138) hx hb d_MM_extracted_128 (by decide) ?_
              obtain ⟨rfl, rfl⟩ := o_p hf0
              exact hQ _ _ _ _ hH d_MM_extracted_138
          replace hf0 := o_f hcv2 hf0
          refine lv_tableOut (tgt := 139) hx hb d_MM_extracted_72 (sw_out (fun v h1 h2 => by rcases (show v = 0 ∨ v = 1 ∨ v = 2 by omega) with rfl | rfl | rfl <;> assumption)) (by decide) ?_
          refine lv_aload_n hx hb d_MM_extracted_139 rfl (lv_at hl 2 rfl) ?_
          refine lv_iload_n hx hb d_MM_extracted_140 rfl (lv_at hl 3 rfl) ?_
          refine lv_iload_n hx hb d_MM_extracted_141 rfl (lv_at hl 4 rfl) ?_
          obtain ⟨y7, hc6, hf0⟩ := o_b hf0
          refine q_cVi (As := [.int x1, .int x2]) (rest := []) S hX hH (c_MM_relays l hI hZ M2 x1 x2 hc6) (cw_MM_288 S.2.2.2.2 (Nat.le_trans (Nat.le_of_ble_eq_true rfl) hR.1) (Nat.le_trans (Nat.le_of_ble_eq_true rfl) hR.2)) (rc_MM hX hH hZ) rfl hl.1 rfl (Nat.le_of_ble_eq_true rfl) d_MM_extracted_142 ⟨Nat.zero_le _, Nat.zero_le _⟩ (fun H locs hH => ?_)
          refine q_cSi (As := [.int (bI y7)]) (rest := []) S hX hH (c_MM_truth l hI M2 (bI y7) rfl) (cw_MM_150 S.2.2.2.2 (Nat.le_trans (Nat.le_of_ble_eq_true rfl) hR.1) (Nat.le_trans (Nat.le_of_ble_eq_true rfl) hR.2)) rfl hl.1 rfl (Nat.le_of_ble_eq_true rfl) d_MM_extracted_145 ⟨Nat.zero_le _, Nat.zero_le _⟩ (fun H locs hH => ?_)
          obtain ⟨rfl, rfl⟩ := o_p hf0
          exact hQ _ _ _ _ hH d_MM_extracted_148
        · replace hf0 := o_t hc hf0
          refine lv_bipush (v := (-2 : Int32)) hx hb d_MM_extracted_56 (by decide) ?_
          obtain ⟨rfl, rfl⟩ := o_p hf0
          exact hQ _ _ _ _ hH d_MM_extracted_58
      · replace hf0 := o_t hc hf0
        refine lv_iconst (v := (-1 : Int32)) hx hb d_MM_extracted_32 (by decide) ?_
        obtain ⟨rfl, rfl⟩ := o_p hf0
        exact hQ _ _ _ _ hH d_MM_extracted_33
theorem c_MM_extracted (l : Launch) {Z : WD} (hI : wI Z) (hZ : IsM Z) (M : Mem) (x1 : Int32) (x2 : Int32) (x3 : Int32) {r : Int32} {M' : Mem} (hf : f_MM_extracted M x1 x2 x3 = some (r, M')) : Ci l Z y_MM_extracted b_MM_extracted 6 (some .int) 6 148 [.ref (Z.2.2.1 0), .int x1, .int x2, .int x3] M M' r := by
  refine Met.ofW (cc := b_MM_extracted) (maxL := 6) (ret := (some .int)) (by decide) rfl ?_
  intro p e s m args below meth c s₁ B hml hv
  obtain ⟨rfl, hP, hX⟩ := hv
  have S : CallFix p m c b_MM_extracted 6 s ([.ref (Z.2.2.1 0), .int x1, .int x2, .int x3] : List Value).toArray gtb R_MM := ⟨B.exec, B.bytes, hml, findClass_of_methodNamed B.named, fun w hw => atoms_spec (ws := .code y_MM_extracted b_MM_extracted 6 (some .int) :: gtb) B.pre w (List.mem_cons_of_mem _ hw)⟩
  have hl := lv_entry ([.ref (Z.2.2.1 0), .int x1, .int x2, .int x3]) (n := 6) (Nat.le_of_ble_eq_true rfl)
  rw [lg_entry_eq]
  exact wk_MM_extracted hI hZ M x1 x2 x3 S hX ⟨Nat.le_refl _, Nat.le_refl _⟩ (fun pc H locs ls hH d => q_ri S.1 S.2.1 B.returns B.notSynchronized hH rfl rfl d) hf ⟨hP, va_S.rf⟩ hl
noncomputable def f_MM_letter_J29 (M : Mem) : Option (Int32 × Mem) := some ((-1 : Int32), M)
noncomputable def f_MM_letter (M : Mem) (x1 : Int32) (x2 : Int32) : Option (Int32 × Mem) := 
    bnd (f_MM_runs M) (fun M2 => 
    if x1 = (-1 : Int32) then 
    if (M2 1 0) ≤ 0 then f_MM_letter_J29 M2 else if x2 = 0 then some (M2 0 21, M2) else f_MM_letter_J29 M2 else 
    if (bI (f_MM_in x1.toInt64 (0 : Int64) (((M2 0 21) - (1 : Int32)).toInt64))) = 0 then some ((-1 : Int32), M2) else 
    if x2 = (0 : Int32) then gIn x1 260 (some (M2 9 x1.toNatClampNeg, M2)) else 
    if x2 = (1 : Int32) then gIn x1 260 (some (M2 10 x1.toNatClampNeg, M2)) else 
    if x2 = (2 : Int32) then gIn x1 260 (some (M2 11 x1.toNatClampNeg, M2)) else 
    if x2 = (3 : Int32) then gIn x1 260 (some (M2 12 x1.toNatClampNeg, M2)) else 
    if x2 = (4 : Int32) then gIn x1 260 (some (M2 13 x1.toNatClampNeg, M2)) else 
    if x2 = (5 : Int32) then gIn x1 260 (some (M2 14 x1.toNatClampNeg, M2)) else if x2 = (6 : Int32) then gIn x1 260 (some (M2 15 x1.toNatClampNeg, M2)) else some ((-1 : Int32), M2))
set_option maxHeartbeats 4000000 in
theorem wk_MM_letter {l : Launch} {Z : WD} (hI : wI Z) (hZ : IsM Z) (M : Mem) (x1 : Int32) (x2 : Int32) {r : Int32} {M' : Mem} {p : Program} {e : Env} {R : Room} {s : State} {m : MethodId} {args : Array Value} {below : List Frame} {meth : Method} {c : Code} {H : Heap} {locs : List Loc} {ls : Array Slot} {Q : State → Prop} (S : CallFix p m c b_MM_letter 3 s args gtb R_MM) (hX : wX Z s) (hR : 6 ≤ R.frames ∧ 148 ≤ R.locals) (hQ : ∀ (pc : Nat) (H : Heap) (locs : List Loc) (ls : Array Slot), HW Z M' s H locs → decode b_MM_letter pc = .ok (.ireturn, 1) → W p l e R s m args below meth c H locs 0 0 Q (F0 m pc ls [.int r])) (hf0 : f_MM_letter M x1 x2 = some (r, M')) (hH : HW Z M s H locs) (hl : lv_has ls 3 [(0, .ref (Z.2.2.1 0)), (1, .int x1), (2, .int x2)]) : W p l e R s m args below meth c H locs 0 0 Q (F0 m 0 ls []) := by
  have hx := S.1
  have hb := S.2.1
  have hown := S.2.2.2.1
  have ht := S.2.2.2.2
  unfold f_MM_letter at hf0
  have J29 : ∀ (M : Mem) (H : Heap) (locs : List Loc) (ls : Array Slot), f_MM_letter_J29 M = some (r, M') → HW Z M s H locs → lv_has ls 3 [] → W p l e R s m args below meth c H locs 0 0 Q (F0 m 29 ls []) := by
    intro M H locs ls hf0 hH hl
    unfold f_MM_letter_J29 at hf0
    refine lv_iconst (v := (-1 : Int32)) hx hb d_MM_letter_29 (by decide) ?_
    obtain ⟨rfl, rfl⟩ := o_p hf0
    exact hQ _ _ _ _ hH d_MM_letter_30
  refine lv_aload_n hx hb d_MM_letter_0 rfl (lv_at hl 0 rfl) ?_
  obtain ⟨M2, hc1, hf0⟩ := o_b hf0
  refine q_cVv (As := []) (rest := []) S hX hH (c_MM_runs l hI hZ M hc1) (cw_MM_321 S.2.2.2.2 (Nat.le_trans (Nat.le_of_ble_eq_true rfl) hR.1) (Nat.le_trans (Nat.le_of_ble_eq_true rfl) hR.2)) (rc_MM hX hH hZ) rfl hl.1 rfl (Nat.le_of_ble_eq_true rfl) d_MM_letter_1 ⟨Nat.zero_le _, Nat.zero_le _⟩ (fun H locs hH => ?_)
  refine lv_iload_n hx hb d_MM_letter_4 rfl (lv_at hl 1 rfl) ?_
  refine lv_iconst (v := (-1 : Int32)) hx hb d_MM_letter_5 (by decide) ?_
  refine lv_icmp_ne (tgt := 31) hx hb d_MM_letter_6 (by decide) (fun hc => ?_) (fun hc => ?_)
  · replace hf0 := o_f hc hf0
    refine lv_iload_n hx hb d_MM_letter_31 rfl (lv_at hl 1 rfl) ?_
    refine lv_i2l hx hb d_MM_letter_32 rfl ?_
    refine lv_lconst (v := (0 : Int64)) hx hb d_MM_letter_33 (by decide) ?_
    refine lv_aload_n hx hb d_MM_letter_34 rfl (lv_at hl 0 rfl) ?_
    refine g_MM_264 S hX hH hZ d_MM_letter_35 ?_
    refine lv_iconst (v := (1 : Int32)) hx hb d_MM_letter_38 (by decide) ?_
    refine lv_isub hx hb d_MM_letter_39 ?_
    refine lv_i2l hx hb d_MM_letter_40 rfl ?_
    refine q_cSi (As := [.long x1.toInt64, .long (0 : Int64), .long (((M2 0 21) - (1 : Int32)).toInt64)]) (rest := []) S hX hH (c_MM_in l hI M2 x1.toInt64 (0 : Int64) (((M2 0 21) - (1 : Int32)).toInt64) rfl) (cw_MM_108 S.2.2.2.2 (Nat.le_trans (Nat.le_of_ble_eq_true rfl) hR.1) (Nat.le_trans (Nat.le_of_ble_eq_true rfl) hR.2)) rfl hl.1 rfl (Nat.le_of_ble_eq_true rfl) d_MM_letter_41 ⟨Nat.zero_le _, Nat.zero_le _⟩ (fun H locs hH => ?_)
    refine lv_if_ne (tgt := 49) hx hb d_MM_letter_44 (by decide) (fun hc => ?_) (fun hc => ?_)
    · replace hf0 := o_f hc hf0
      refine lv_iload_n hx hb d_MM_letter_49 rfl (lv_at hl 2 rfl) ?_
      by_cases hcv0 : x2 = (0 : Int32)
      · replace hf0 := o_t hcv0 hf0
        refine lv_tableIn (tgt := 92) hx hb d_MM_letter_50 (by rw [hcv0]; decide) (by rw [hcv0]; decide) (by rw [hcv0]; rfl) (by decide) ?_
        refine lv_aload_n hx hb d_MM_letter_92 rfl (lv_at hl 0 rfl) ?_
        refine g_MM_36 S hX hH hZ d_MM_letter_93 ?_
        refine lv_iload_n hx hb d_MM_letter_96 rfl (lv_at hl 1 rfl) ?_
        obtain ⟨hn3, hf0⟩ := o_in hf0
        refine q_iald (j := x1.toNatClampNeg) hx hb hX hH (aa_MM_9 hZ) hn3 rfl d_MM_letter_97 ?_
        obtain ⟨rfl, rfl⟩ := o_p hf0
        exact hQ _ _ _ _ hH d_MM_letter_98
      replace hf0 := o_f hcv0 hf0
      by_cases hcv1 : x2 = (1 : Int32)
      · replace hf0 := o_t hcv1 hf0
        refine lv_tableIn (tgt := 99) hx hb d_MM_letter_50 (by rw [hcv1]; decide) (by rw [hcv1]; decide) (by rw [hcv1]; rfl) (by decide) ?_
        refine lv_aload_n hx hb d_MM_letter_99 rfl (lv_at hl 0 rfl) ?_
        refine g_MM_39 S hX hH hZ d_MM_letter_100 ?_
        refine lv_iload_n hx hb d_MM_letter_103 rfl (lv_at hl 1 rfl) ?_
        obtain ⟨hn4, hf0⟩ := o_in hf0
        refine q_iald (j := x1.toNatClampNeg) hx hb hX hH (aa_MM_10 hZ) hn4 rfl d_MM_letter_104 ?_
        obtain ⟨rfl, rfl⟩ := o_p hf0
        exact hQ _ _ _ _ hH d_MM_letter_105
      replace hf0 := o_f hcv1 hf0
      by_cases hcv2 : x2 = (2 : Int32)
      · replace hf0 := o_t hcv2 hf0
        refine lv_tableIn (tgt := 106) hx hb d_MM_letter_50 (by rw [hcv2]; decide) (by rw [hcv2]; decide) (by rw [hcv2]; rfl) (by decide) ?_
        refine lv_aload_n hx hb d_MM_letter_106 rfl (lv_at hl 0 rfl) ?_
        refine g_MM_42 S hX hH hZ d_MM_letter_107 ?_
        refine lv_iload_n hx hb d_MM_letter_110 rfl (lv_at hl 1 rfl) ?_
        obtain ⟨hn5, hf0⟩ := o_in hf0
        refine q_iald (j := x1.toNatClampNeg) hx hb hX hH (aa_MM_11 hZ) hn5 rfl d_MM_letter_111 ?_
        obtain ⟨rfl, rfl⟩ := o_p hf0
        exact hQ _ _ _ _ hH d_MM_letter_112
      replace hf0 := o_f hcv2 hf0
      by_cases hcv3 : x2 = (3 : Int32)
      · replace hf0 := o_t hcv3 hf0
        refine lv_tableIn (tgt := 113) hx hb d_MM_letter_50 (by rw [hcv3]; decide) (by rw [hcv3]; decide) (by rw [hcv3]; rfl) (by decide) ?_
        refine lv_aload_n hx hb d_MM_letter_113 rfl (lv_at hl 0 rfl) ?_
        refine g_MM_45 S hX hH hZ d_MM_letter_114 ?_
        refine lv_iload_n hx hb d_MM_letter_117 rfl (lv_at hl 1 rfl) ?_
        obtain ⟨hn6, hf0⟩ := o_in hf0
        refine q_iald (j := x1.toNatClampNeg) hx hb hX hH (aa_MM_12 hZ) hn6 rfl d_MM_letter_118 ?_
        obtain ⟨rfl, rfl⟩ := o_p hf0
        exact hQ _ _ _ _ hH d_MM_letter_119
      replace hf0 := o_f hcv3 hf0
      by_cases hcv4 : x2 = (4 : Int32)
      · replace hf0 := o_t hcv4 hf0
        refine lv_tableIn (tgt := 120) hx hb d_MM_letter_50 (by rw [hcv4]; decide) (by rw [hcv4]; decide) (by rw [hcv4]; rfl) (by decide) ?_
        refine lv_aload_n hx hb d_MM_letter_120 rfl (lv_at hl 0 rfl) ?_
        refine g_MM_48 S hX hH hZ d_MM_letter_121 ?_
        refine lv_iload_n hx hb d_MM_letter_124 rfl (lv_at hl 1 rfl) ?_
        obtain ⟨hn7, hf0⟩ := o_in hf0
        refine q_iald (j := x1.toNatClampNeg) hx hb hX hH (aa_MM_13 hZ) hn7 rfl d_MM_letter_125 ?_
        obtain ⟨rfl, rfl⟩ := o_p hf0
        exact hQ _ _ _ _ hH d_MM_letter_126
      replace hf0 := o_f hcv4 hf0
      by_cases hcv5 : x2 = (5 : Int32)
      · replace hf0 := o_t hcv5 hf0
        refine lv_tableIn (tgt := 127) hx hb d_MM_letter_50 (by rw [hcv5]; decide) (by rw [hcv5]; decide) (by rw [hcv5]; rfl) (by decide) ?_
        refine lv_aload_n hx hb d_MM_letter_127 rfl (lv_at hl 0 rfl) ?_
        refine g_MM_51 S hX hH hZ d_MM_letter_128 ?_
        refine lv_iload_n hx hb d_MM_letter_131 rfl (lv_at hl 1 rfl) ?_
        obtain ⟨hn8, hf0⟩ := o_in hf0
        refine q_iald (j := x1.toNatClampNeg) hx hb hX hH (aa_MM_14 hZ) hn8 rfl d_MM_letter_132 ?_
        obtain ⟨rfl, rfl⟩ := o_p hf0
        exact hQ _ _ _ _ hH d_MM_letter_133
      replace hf0 := o_f hcv5 hf0
      by_cases hcv6 : x2 = (6 : Int32)
      · replace hf0 := o_t hcv6 hf0
        refine lv_tableIn (tgt := 134) hx hb d_MM_letter_50 (by rw [hcv6]; decide) (by rw [hcv6]; decide) (by rw [hcv6]; rfl) (by decide) ?_
        refine lv_aload_n hx hb d_MM_letter_134 rfl (lv_at hl 0 rfl) ?_
        refine g_MM_54 S hX hH hZ d_MM_letter_135 ?_
        refine lv_iload_n hx hb d_MM_letter_138 rfl (lv_at hl 1 rfl) ?_
        obtain ⟨hn9, hf0⟩ := o_in hf0
        refine q_iald (j := x1.toNatClampNeg) hx hb hX hH (aa_MM_15 hZ) hn9 rfl d_MM_letter_139 ?_
        obtain ⟨rfl, rfl⟩ := o_p hf0
        exact hQ _ _ _ _ hH d_MM_letter_140
      replace hf0 := o_f hcv6 hf0
      refine lv_tableOut (tgt := 141) hx hb d_MM_letter_50 (sw_out (fun v h1 h2 => by rcases (show v = 0 ∨ v = 1 ∨ v = 2 ∨ v = 3 ∨ v = 4 ∨ v = 5 ∨ v = 6 by omega) with rfl | rfl | rfl | rfl | rfl | rfl | rfl <;> assumption)) (by decide) ?_
      refine lv_iconst (v := (-1 : Int32)) hx hb d_MM_letter_141 (by decide) ?_
      obtain ⟨rfl, rfl⟩ := o_p hf0
      exact hQ _ _ _ _ hH d_MM_letter_142
    · replace hf0 := o_t hc hf0
      refine lv_iconst (v := (-1 : Int32)) hx hb d_MM_letter_47 (by decide) ?_
      obtain ⟨rfl, rfl⟩ := o_p hf0
      exact hQ _ _ _ _ hH d_MM_letter_48
  · replace hf0 := o_t hc hf0
    refine lv_aload_n hx hb d_MM_letter_9 rfl (lv_at hl 0 rfl) ?_
    refine g_MM_9 S hX hH hZ d_MM_letter_10 ?_
    refine lv_iconst (v := (0 : Int32)) hx hb d_MM_letter_13 (by decide) ?_
    refine q_iald (j := 0) hx hb hX hH (aa_MM_1 hZ) (vp_c (by decide)) (by decide) d_MM_letter_14 ?_
    refine lv_if_le (tgt := 29) hx hb d_MM_letter_15 (by decide) (fun hc => ?_) (fun hc => ?_)
    · replace hf0 := o_t hc hf0
      exact J29 _ _ _ _ hf0 hH (lv_sub hl [] rfl)
    · replace hf0 := o_f hc hf0
      refine lv_iload_n hx hb d_MM_letter_18 rfl (lv_at hl 2 rfl) ?_
      refine lv_if_ne (tgt := 29) hx hb d_MM_letter_19 (by decide) (fun hc => ?_) (fun hc => ?_)
      · replace hf0 := o_f hc hf0
        exact J29 _ _ _ _ hf0 hH (lv_sub hl [] rfl)
      · replace hf0 := o_t hc hf0
        refine lv_aload_n hx hb d_MM_letter_22 rfl (lv_at hl 0 rfl) ?_
        refine g_MM_264 S hX hH hZ d_MM_letter_23 ?_
        refine lv_goto (tgt := 30) hx hb d_MM_letter_26 (by decide) ?_
        obtain ⟨rfl, rfl⟩ := o_p hf0
        exact hQ _ _ _ _ hH d_MM_letter_30
theorem c_MM_letter (l : Launch) {Z : WD} (hI : wI Z) (hZ : IsM Z) (M : Mem) (x1 : Int32) (x2 : Int32) {r : Int32} {M' : Mem} (hf : f_MM_letter M x1 x2 = some (r, M')) : Ci l Z y_MM_letter b_MM_letter 3 (some .int) 6 148 [.ref (Z.2.2.1 0), .int x1, .int x2] M M' r := by
  refine Met.ofW (cc := b_MM_letter) (maxL := 3) (ret := (some .int)) (by decide) rfl ?_
  intro p e s m args below meth c s₁ B hml hv
  obtain ⟨rfl, hP, hX⟩ := hv
  have S : CallFix p m c b_MM_letter 3 s ([.ref (Z.2.2.1 0), .int x1, .int x2] : List Value).toArray gtb R_MM := ⟨B.exec, B.bytes, hml, findClass_of_methodNamed B.named, fun w hw => atoms_spec (ws := .code y_MM_letter b_MM_letter 3 (some .int) :: gtb) B.pre w (List.mem_cons_of_mem _ hw)⟩
  have hl := lv_entry ([.ref (Z.2.2.1 0), .int x1, .int x2]) (n := 3) (Nat.le_of_ble_eq_true rfl)
  rw [lg_entry_eq]
  exact wk_MM_letter hI hZ M x1 x2 S hX ⟨Nat.le_refl _, Nat.le_refl _⟩ (fun pc H locs ls hH d => q_ri S.1 S.2.1 B.returns B.notSynchronized hH rfl rfl d) hf ⟨hP, va_S.rf⟩ hl
noncomputable def f_MM_mark_J52 (M : Mem) : Option (Int32 × Mem) := some ((-1 : Int32), M)
noncomputable def f_MM_mark (M : Mem) (x1 : Int32) (x2 : Int32) : Option (Int32 × Mem) := 
    bnd (f_MM_runs M) (fun M2 => 
    if (bI (f_MM_in x1.toInt64 (0 : Int64) (((M2 0 21) - (1 : Int32)).toInt64))) = 0 then f_MM_mark_J52 M2 else 
    gIn x1 260 (if (bI (f_MM_in x2.toInt64 (0 : Int64) (((M2 13 x1.toNatClampNeg) - (1 : Int32)).toInt64))) = 0 then f_MM_mark_J52 M2 else gIn (((8 : Int32) * x1) + x2) 2080 (some (M2 16 (((8 : Int32) * x1) + x2).toNatClampNeg, M2))))
set_option maxHeartbeats 4000000 in
theorem wk_MM_mark {l : Launch} {Z : WD} (hI : wI Z) (hZ : IsM Z) (M : Mem) (x1 : Int32) (x2 : Int32) {r : Int32} {M' : Mem} {p : Program} {e : Env} {R : Room} {s : State} {m : MethodId} {args : Array Value} {below : List Frame} {meth : Method} {c : Code} {H : Heap} {locs : List Loc} {ls : Array Slot} {Q : State → Prop} (S : CallFix p m c b_MM_mark 3 s args gtb R_MM) (hX : wX Z s) (hR : 6 ≤ R.frames ∧ 148 ≤ R.locals) (hQ : ∀ (pc : Nat) (H : Heap) (locs : List Loc) (ls : Array Slot), HW Z M' s H locs → decode b_MM_mark pc = .ok (.ireturn, 1) → W p l e R s m args below meth c H locs 0 0 Q (F0 m pc ls [.int r])) (hf0 : f_MM_mark M x1 x2 = some (r, M')) (hH : HW Z M s H locs) (hl : lv_has ls 3 [(0, .ref (Z.2.2.1 0)), (1, .int x1), (2, .int x2)]) : W p l e R s m args below meth c H locs 0 0 Q (F0 m 0 ls []) := by
  have hx := S.1
  have hb := S.2.1
  have hown := S.2.2.2.1
  have ht := S.2.2.2.2
  unfold f_MM_mark at hf0
  have J52 : ∀ (M : Mem) (H : Heap) (locs : List Loc) (ls : Array Slot), f_MM_mark_J52 M = some (r, M') → HW Z M s H locs → lv_has ls 3 [] → W p l e R s m args below meth c H locs 0 0 Q (F0 m 52 ls []) := by
    intro M H locs ls hf0 hH hl
    unfold f_MM_mark_J52 at hf0
    refine lv_iconst (v := (-1 : Int32)) hx hb d_MM_mark_52 (by decide) ?_
    obtain ⟨rfl, rfl⟩ := o_p hf0
    exact hQ _ _ _ _ hH d_MM_mark_53
  refine lv_aload_n hx hb d_MM_mark_0 rfl (lv_at hl 0 rfl) ?_
  obtain ⟨M2, hc1, hf0⟩ := o_b hf0
  refine q_cVv (As := []) (rest := []) S hX hH (c_MM_runs l hI hZ M hc1) (cw_MM_321 S.2.2.2.2 (Nat.le_trans (Nat.le_of_ble_eq_true rfl) hR.1) (Nat.le_trans (Nat.le_of_ble_eq_true rfl) hR.2)) (rc_MM hX hH hZ) rfl hl.1 rfl (Nat.le_of_ble_eq_true rfl) d_MM_mark_1 ⟨Nat.zero_le _, Nat.zero_le _⟩ (fun H locs hH => ?_)
  refine lv_iload_n hx hb d_MM_mark_4 rfl (lv_at hl 1 rfl) ?_
  refine lv_i2l hx hb d_MM_mark_5 rfl ?_
  refine lv_lconst (v := (0 : Int64)) hx hb d_MM_mark_6 (by decide) ?_
  refine lv_aload_n hx hb d_MM_mark_7 rfl (lv_at hl 0 rfl) ?_
  refine g_MM_264 S hX hH hZ d_MM_mark_8 ?_
  refine lv_iconst (v := (1 : Int32)) hx hb d_MM_mark_11 (by decide) ?_
  refine lv_isub hx hb d_MM_mark_12 ?_
  refine lv_i2l hx hb d_MM_mark_13 rfl ?_
  refine q_cSi (As := [.long x1.toInt64, .long (0 : Int64), .long (((M2 0 21) - (1 : Int32)).toInt64)]) (rest := []) S hX hH (c_MM_in l hI M2 x1.toInt64 (0 : Int64) (((M2 0 21) - (1 : Int32)).toInt64) rfl) (cw_MM_108 S.2.2.2.2 (Nat.le_trans (Nat.le_of_ble_eq_true rfl) hR.1) (Nat.le_trans (Nat.le_of_ble_eq_true rfl) hR.2)) rfl hl.1 rfl (Nat.le_of_ble_eq_true rfl) d_MM_mark_14 ⟨Nat.zero_le _, Nat.zero_le _⟩ (fun H locs hH => ?_)
  refine lv_if_eq (tgt := 52) hx hb d_MM_mark_17 (by decide) (fun hc => ?_) (fun hc => ?_)
  · replace hf0 := o_t hc hf0
    exact J52 _ _ _ _ hf0 hH (lv_sub hl [] rfl)
  · replace hf0 := o_f hc hf0
    refine lv_iload_n hx hb d_MM_mark_20 rfl (lv_at hl 2 rfl) ?_
    refine lv_i2l hx hb d_MM_mark_21 rfl ?_
    refine lv_lconst (v := (0 : Int64)) hx hb d_MM_mark_22 (by decide) ?_
    refine lv_aload_n hx hb d_MM_mark_23 rfl (lv_at hl 0 rfl) ?_
    refine g_MM_48 S hX hH hZ d_MM_mark_24 ?_
    refine lv_iload_n hx hb d_MM_mark_27 rfl (lv_at hl 1 rfl) ?_
    obtain ⟨hn3, hf0⟩ := o_in hf0
    refine q_iald (j := x1.toNatClampNeg) hx hb hX hH (aa_MM_13 hZ) hn3 rfl d_MM_mark_28 ?_
    refine lv_iconst (v := (1 : Int32)) hx hb d_MM_mark_29 (by decide) ?_
    refine lv_isub hx hb d_MM_mark_30 ?_
    refine lv_i2l hx hb d_MM_mark_31 rfl ?_
    refine q_cSi (As := [.long x2.toInt64, .long (0 : Int64), .long (((M2 13 x1.toNatClampNeg) - (1 : Int32)).toInt64)]) (rest := []) S hX hH (c_MM_in l hI M2 x2.toInt64 (0 : Int64) (((M2 13 x1.toNatClampNeg) - (1 : Int32)).toInt64) rfl) (cw_MM_108 S.2.2.2.2 (Nat.le_trans (Nat.le_of_ble_eq_true rfl) hR.1) (Nat.le_trans (Nat.le_of_ble_eq_true rfl) hR.2)) rfl hl.1 rfl (Nat.le_of_ble_eq_true rfl) d_MM_mark_32 ⟨Nat.zero_le _, Nat.zero_le _⟩ (fun H locs hH => ?_)
    refine lv_if_eq (tgt := 52) hx hb d_MM_mark_35 (by decide) (fun hc => ?_) (fun hc => ?_)
    · replace hf0 := o_t hc hf0
      exact J52 _ _ _ _ hf0 hH (lv_sub hl [] rfl)
    · replace hf0 := o_f hc hf0
      refine lv_aload_n hx hb d_MM_mark_38 rfl (lv_at hl 0 rfl) ?_
      refine g_MM_57 S hX hH hZ d_MM_mark_39 ?_
      refine lv_bipush (v := (8 : Int32)) hx hb d_MM_mark_42 (by decide) ?_
      refine lv_iload_n hx hb d_MM_mark_44 rfl (lv_at hl 1 rfl) ?_
      refine lv_imul hx hb d_MM_mark_45 ?_
      refine lv_iload_n hx hb d_MM_mark_46 rfl (lv_at hl 2 rfl) ?_
      refine lv_iadd hx hb d_MM_mark_47 ?_
      obtain ⟨hn4, hf0⟩ := o_in hf0
      refine q_iald (j := (((8 : Int32) * x1) + x2).toNatClampNeg) hx hb hX hH (aa_MM_16 hZ) hn4 rfl d_MM_mark_48 ?_
      refine lv_goto (tgt := 53) hx hb d_MM_mark_49 (by decide) ?_
      obtain ⟨rfl, rfl⟩ := o_p hf0
      exact hQ _ _ _ _ hH d_MM_mark_53
theorem c_MM_mark (l : Launch) {Z : WD} (hI : wI Z) (hZ : IsM Z) (M : Mem) (x1 : Int32) (x2 : Int32) {r : Int32} {M' : Mem} (hf : f_MM_mark M x1 x2 = some (r, M')) : Ci l Z y_MM_mark b_MM_mark 3 (some .int) 6 148 [.ref (Z.2.2.1 0), .int x1, .int x2] M M' r := by
  refine Met.ofW (cc := b_MM_mark) (maxL := 3) (ret := (some .int)) (by decide) rfl ?_
  intro p e s m args below meth c s₁ B hml hv
  obtain ⟨rfl, hP, hX⟩ := hv
  have S : CallFix p m c b_MM_mark 3 s ([.ref (Z.2.2.1 0), .int x1, .int x2] : List Value).toArray gtb R_MM := ⟨B.exec, B.bytes, hml, findClass_of_methodNamed B.named, fun w hw => atoms_spec (ws := .code y_MM_mark b_MM_mark 3 (some .int) :: gtb) B.pre w (List.mem_cons_of_mem _ hw)⟩
  have hl := lv_entry ([.ref (Z.2.2.1 0), .int x1, .int x2]) (n := 3) (Nat.le_of_ble_eq_true rfl)
  rw [lg_entry_eq]
  exact wk_MM_mark hI hZ M x1 x2 S hX ⟨Nat.le_refl _, Nat.le_refl _⟩ (fun pc H locs ls hH d => q_ri S.1 S.2.1 B.returns B.notSynchronized hH rfl rfl d) hf ⟨hP, va_S.rf⟩ hl
noncomputable def f_MM_packed_L36 (M : Mem) (x1 : Int32) (x2 : Int64) (x4 : Int32) : Option ((Int64 × Int32) ⊕ (Int64 × Mem)) := if x4 < 0 then gIn x1 260 (some (.inr (((4 : Int64) * x2) + ((M 12 x1.toNatClampNeg).toInt64), M))) else 
    gIn (((8 : Int32) * x1) + x4) 2080 (some (.inl ((((9 : Int64) * x2) + ((M 16 (((8 : Int32) * x1) + x4).toNatClampNeg).toInt64)) + (1 : Int64), x4 + (-1 : Int32))))
noncomputable def f_MM_packed_W36 (M : Mem) (x1 : Int32) (u : (Int64 × Int32)) : Option (Int64 × Mem) := loop (fun t => f_MM_packed_L36 M x1 t.1 t.2) u
noncomputable def f_MM_packed_J36 (M : Mem) (x1 : Int32) (x2 : Int64) (x4 : Int32) : Option (Int64 × Mem) := bnd (f_MM_packed_W36 M x1 (x2, x4)) (fun e36 => some e36)
noncomputable def f_MM_packed (M : Mem) (x1 : Int32) : Option (Int64 × Mem) := 
    bnd (f_MM_runs M) (fun M4 => 
    if (bI (f_MM_in x1.toInt64 (0 : Int64) (((M4 0 21) - (1 : Int32)).toInt64))) = 0 then some ((-1 : Int64), M4) else gIn x1 260 (f_MM_packed_J36 M4 x1 (0 : Int64) ((M4 13 x1.toNatClampNeg) - (1 : Int32))))
set_option maxHeartbeats 4000000 in
theorem wk_MM_packed {l : Launch} {Z : WD} (hI : wI Z) (hZ : IsM Z) (M : Mem) (x1 : Int32) {r : Int64} {M' : Mem} {p : Program} {e : Env} {R : Room} {s : State} {m : MethodId} {args : Array Value} {below : List Frame} {meth : Method} {c : Code} {H : Heap} {locs : List Loc} {ls : Array Slot} {Q : State → Prop} (S : CallFix p m c b_MM_packed 5 s args gtb R_MM) (hX : wX Z s) (hR : 6 ≤ R.frames ∧ 148 ≤ R.locals) (hQ : ∀ (pc : Nat) (H : Heap) (locs : List Loc) (ls : Array Slot), HW Z M' s H locs → decode b_MM_packed pc = .ok (.lreturn, 1) → W p l e R s m args below meth c H locs 0 0 Q (F0 m pc ls [.long r])) (hf0 : f_MM_packed M x1 = some (r, M')) (hH : HW Z M s H locs) (hl : lv_has ls 5 [(0, .ref (Z.2.2.1 0)), (1, .int x1)]) : W p l e R s m args below meth c H locs 0 0 Q (F0 m 0 ls []) := by
  have hx := S.1
  have hb := S.2.1
  have hown := S.2.2.2.1
  have ht := S.2.2.2.2
  unfold f_MM_packed at hf0
  have J36 : ∀ (M : Mem) (x1 : Int32) (x2 : Int64) (x4 : Int32) (H : Heap) (locs : List Loc) (ls : Array Slot), f_MM_packed_J36 M x1 x2 x4 = some (r, M') → HW Z M s H locs → lv_has ls 5 [(0, .ref (Z.2.2.1 0)), (1, .int x1), (2, .long x2), (4, .int x4)] → W p l e R s m args below meth c H locs 0 0 Q (F0 m 36 ls []) := by
    intro M x1 x2 x4 H locs ls hf0 hH hl
    unfold f_MM_packed_J36 at hf0
    obtain ⟨e36, he36, hf0⟩ := o_b hf0
    unfold f_MM_packed_W36 at he36
    refine loop_W (fun t => ∀ (H : Heap) (locs : List Loc) (ls : Array Slot), HW Z M s H locs → lv_has ls 5 [(0, .ref (Z.2.2.1 0)), (1, .int x1), (2, .long t.1), (4, .int t.2)] → W p l e R s m args below meth c H locs 0 0 Q (F0 m 36 ls [])) ?_ he36 H locs ls hH hl
    rintro ⟨x2, x4⟩ o1 hf1 hG1 hR1 H locs ls hH hl
    replace hH : HW Z M s H locs := hH
    replace hl : lv_has ls 5 [(0, .ref (Z.2.2.1 0)), (1, .int x1), (2, .long x2), (4, .int x4)] := hl
    replace hf1 : f_MM_packed_L36 M x1 x2 x4 = some o1 := hf1
    unfold f_MM_packed_L36 at hf1
    refine lv_iload hx hb d_MM_packed_36 (lv_at hl 3 rfl) ?_
    refine lv_if_lt (tgt := 69) hx hb d_MM_packed_38 (by decide) (fun hc => ?_) (fun hc => ?_)
    · replace hf1 := o_t hc hf1
      refine lv_ldc2 (v := (4 : Int64)) hx hb hown (ht _ w5_161) d_MM_packed_69 ?_
      refine lv_lload_n hx hb d_MM_packed_72 rfl (lv_at hl 2 rfl) ?_
      refine lv_lmul hx hb d_MM_packed_73 ?_
      refine lv_aload_n hx hb d_MM_packed_74 rfl (lv_at hl 0 rfl) ?_
      refine g_MM_45 S hX hH hZ d_MM_packed_75 ?_
      refine lv_iload_n hx hb d_MM_packed_78 rfl (lv_at hl 1 rfl) ?_
      obtain ⟨hn1, hf1⟩ := o_in hf1
      refine q_iald (j := x1.toNatClampNeg) hx hb hX hH (aa_MM_12 hZ) hn1 rfl d_MM_packed_79 ?_
      refine lv_i2l hx hb d_MM_packed_80 rfl ?_
      refine lv_ladd hx hb d_MM_packed_81 ?_
      obtain rfl := hR1 _ (o_v hf1).symm
      obtain ⟨rfl, rfl⟩ := o_p hf0
      exact hQ _ _ _ _ hH d_MM_packed_82
    · replace hf1 := o_f hc hf1
      refine lv_ldc2 (v := (9 : Int64)) hx hb hown (ht _ w6_91) d_MM_packed_41 ?_
      refine lv_lload_n hx hb d_MM_packed_44 rfl (lv_at hl 2 rfl) ?_
      refine lv_lmul hx hb d_MM_packed_45 ?_
      refine lv_aload_n hx hb d_MM_packed_46 rfl (lv_at hl 0 rfl) ?_
      refine g_MM_57 S hX hH hZ d_MM_packed_47 ?_
      refine lv_bipush (v := (8 : Int32)) hx hb d_MM_packed_50 (by decide) ?_
      refine lv_iload_n hx hb d_MM_packed_52 rfl (lv_at hl 1 rfl) ?_
      refine lv_imul hx hb d_MM_packed_53 ?_
      refine lv_iload hx hb d_MM_packed_54 (lv_at hl 3 rfl) ?_
      refine lv_iadd hx hb d_MM_packed_56 ?_
      obtain ⟨hn2, hf1⟩ := o_in hf1
      refine q_iald (j := (((8 : Int32) * x1) + x4).toNatClampNeg) hx hb hX hH (aa_MM_16 hZ) hn2 rfl d_MM_packed_57 ?_
      refine lv_i2l hx hb d_MM_packed_58 rfl ?_
      refine lv_ladd hx hb d_MM_packed_59 ?_
      refine lv_lconst (v := (1 : Int64)) hx hb d_MM_packed_60 (by decide) ?_
      refine lv_ladd hx hb d_MM_packed_61 ?_
      refine lv_lstore_n (lv' := [(2, .long ((((9 : Int64) * x2) + ((M 16 (((8 : Int32) * x1) + x4).toNatClampNeg).toInt64)) + (1 : Int64))), (0, .ref (Z.2.2.1 0)), (1, .int x1), (4, .int x4)]) hx hb d_MM_packed_62 rfl hl (by decide) rfl (fun ls hl => ?_)
      refine lv_iinc (v := x4 + (-1 : Int32)) (lv' := [(4, .int (x4 + (-1 : Int32))), (2, .long ((((9 : Int64) * x2) + ((M 16 (((8 : Int32) * x1) + x4).toNatClampNeg).toInt64)) + (1 : Int64))), (0, .ref (Z.2.2.1 0)), (1, .int x1)]) hx hb d_MM_packed_63 hl (k := 3) rfl rfl (by decide) rfl (fun ls hl => ?_)
      refine lv_goto (tgt := 36) hx hb d_MM_packed_66 (by decide) ?_
      exact hG1 _ (o_v hf1).symm _ _ _ hH (lv_sub hl [2, 3, 1, 0] rfl)
  refine lv_aload_n hx hb d_MM_packed_0 rfl (lv_at hl 0 rfl) ?_
  obtain ⟨M4, hc3, hf0⟩ := o_b hf0
  refine q_cVv (As := []) (rest := []) S hX hH (c_MM_runs l hI hZ M hc3) (cw_MM_321 S.2.2.2.2 (Nat.le_trans (Nat.le_of_ble_eq_true rfl) hR.1) (Nat.le_trans (Nat.le_of_ble_eq_true rfl) hR.2)) (rc_MM hX hH hZ) rfl hl.1 rfl (Nat.le_of_ble_eq_true rfl) d_MM_packed_1 ⟨Nat.zero_le _, Nat.zero_le _⟩ (fun H locs hH => ?_)
  refine lv_iload_n hx hb d_MM_packed_4 rfl (lv_at hl 1 rfl) ?_
  refine lv_i2l hx hb d_MM_packed_5 rfl ?_
  refine lv_lconst (v := (0 : Int64)) hx hb d_MM_packed_6 (by decide) ?_
  refine lv_aload_n hx hb d_MM_packed_7 rfl (lv_at hl 0 rfl) ?_
  refine g_MM_264 S hX hH hZ d_MM_packed_8 ?_
  refine lv_iconst (v := (1 : Int32)) hx hb d_MM_packed_11 (by decide) ?_
  refine lv_isub hx hb d_MM_packed_12 ?_
  refine lv_i2l hx hb d_MM_packed_13 rfl ?_
  refine q_cSi (As := [.long x1.toInt64, .long (0 : Int64), .long (((M4 0 21) - (1 : Int32)).toInt64)]) (rest := []) S hX hH (c_MM_in l hI M4 x1.toInt64 (0 : Int64) (((M4 0 21) - (1 : Int32)).toInt64) rfl) (cw_MM_108 S.2.2.2.2 (Nat.le_trans (Nat.le_of_ble_eq_true rfl) hR.1) (Nat.le_trans (Nat.le_of_ble_eq_true rfl) hR.2)) rfl hl.1 rfl (Nat.le_of_ble_eq_true rfl) d_MM_packed_14 ⟨Nat.zero_le _, Nat.zero_le _⟩ (fun H locs hH => ?_)
  refine lv_if_ne (tgt := 24) hx hb d_MM_packed_17 (by decide) (fun hc => ?_) (fun hc => ?_)
  · replace hf0 := o_f hc hf0
    refine lv_lconst (v := (0 : Int64)) hx hb d_MM_packed_24 (by decide) ?_
    refine lv_lstore_n (lv' := [(2, .long (0 : Int64)), (0, .ref (Z.2.2.1 0)), (1, .int x1)]) hx hb d_MM_packed_25 rfl hl (by decide) rfl (fun ls hl => ?_)
    refine lv_aload_n hx hb d_MM_packed_26 rfl (lv_at hl 1 rfl) ?_
    refine g_MM_48 S hX hH hZ d_MM_packed_27 ?_
    refine lv_iload_n hx hb d_MM_packed_30 rfl (lv_at hl 2 rfl) ?_
    obtain ⟨hn5, hf0⟩ := o_in hf0
    refine q_iald (j := x1.toNatClampNeg) hx hb hX hH (aa_MM_13 hZ) hn5 rfl d_MM_packed_31 ?_
    refine lv_iconst (v := (1 : Int32)) hx hb d_MM_packed_32 (by decide) ?_
    refine lv_isub hx hb d_MM_packed_33 ?_
    refine lv_istore (lv' := [(4, .int ((M4 13 x1.toNatClampNeg) - (1 : Int32))), (2, .long (0 : Int64)), (0, .ref (Z.2.2.1 0)), (1, .int x1)]) hx hb d_MM_packed_34 hl (by decide) rfl (fun ls hl => ?_)
    exact J36 _ _ _ _ _ _ _ hf0 hH (lv_sub hl [2, 3, 1, 0] rfl)
  · replace hf0 := o_t hc hf0
    refine lv_ldc2 (v := (-1 : Int64)) hx hb hown (ht _ w6_90) d_MM_packed_20 ?_
    obtain ⟨rfl, rfl⟩ := o_p hf0
    exact hQ _ _ _ _ hH d_MM_packed_23
theorem c_MM_packed (l : Launch) {Z : WD} (hI : wI Z) (hZ : IsM Z) (M : Mem) (x1 : Int32) {r : Int64} {M' : Mem} (hf : f_MM_packed M x1 = some (r, M')) : Cl l Z y_MM_packed b_MM_packed 5 (some .long) 6 148 [.ref (Z.2.2.1 0), .int x1] M M' r := by
  refine Met.ofW (cc := b_MM_packed) (maxL := 5) (ret := (some .long)) (by decide) rfl ?_
  intro p e s m args below meth c s₁ B hml hv
  obtain ⟨rfl, hP, hX⟩ := hv
  have S : CallFix p m c b_MM_packed 5 s ([.ref (Z.2.2.1 0), .int x1] : List Value).toArray gtb R_MM := ⟨B.exec, B.bytes, hml, findClass_of_methodNamed B.named, fun w hw => atoms_spec (ws := .code y_MM_packed b_MM_packed 5 (some .long) :: gtb) B.pre w (List.mem_cons_of_mem _ hw)⟩
  have hl := lv_entry ([.ref (Z.2.2.1 0), .int x1]) (n := 5) (Nat.le_of_ble_eq_true rfl)
  rw [lg_entry_eq]
  exact wk_MM_packed hI hZ M x1 S hX ⟨Nat.le_refl _, Nat.le_refl _⟩ (fun pc H locs ls hH d => q_rl S.1 S.2.1 B.returns B.notSynchronized hH rfl rfl d) hf ⟨hP, va_S.rf⟩ hl
noncomputable def f_MM_open_J139 (x1 : Int64) (x3 : Int32) (x4 : Int32) (x6 : Int32) : Option (Int32) := if x3 = 0 then some ((x1 - x1 / (4 : Int64) * (4 : Int64)).toInt32) else if x3 = (1 : Int32) then some x4 else some x6
noncomputable def f_MM_open_J92 (x3 : Int32) (x4 : Int32) (x5 : Int32) (x7 : Int64) (s0 : Int32) : Option ((Int32 × Int32 × Int32 × Int64) ⊕ ((Int32 × Int32) ⊕ Int32)) := some (.inl (x4 + (1 : Int32), x5, s0, x7 / (9 : Int64)))
noncomputable def f_MM_open_L25 (x3 : Int32) (x4 : Int32) (x5 : Int32) (x6 : Int32) (x7 : Int64) : Option ((Int32 × Int32 × Int32 × Int64) ⊕ ((Int32 × Int32) ⊕ Int32)) := if (lg_cmp x7 (0 : Int64)) ≤ 0 then some (.inr (.inl (x4, x6))) else 
    if (((x7 - x7 / (9 : Int64) * (9 : Int64)).toInt32) - (1 : Int32)) < 0 then some (.inr (.inr (-1 : Int32))) else 
    if x4 = (8 : Int32) then some (.inr (.inr (-1 : Int32))) else 
    if (bI (f_MM_has x5 (((x7 - x7 / (9 : Int64) * (9 : Int64)).toInt32) - (1 : Int32)))) = 0 then 
    lt1 (x5 ||| ((1 : Int32) <<< ((((x7 - x7 / (9 : Int64) * (9 : Int64)).toInt32) - (1 : Int32)) &&& 31))) (fun y1 => if x3 = ((10 : Int32) + x4) then f_MM_open_J92 x3 x4 y1 x7 (((x7 - x7 / (9 : Int64) * (9 : Int64)).toInt32) - (1 : Int32)) else f_MM_open_J92 x3 x4 y1 x7 x6) else some (.inr (.inr (-1 : Int32)))
noncomputable def f_MM_open_W25 (x3 : Int32) (u : (Int32 × Int32 × Int32 × Int64)) : Option ((Int32 × Int32) ⊕ Int32) := loop (fun t => f_MM_open_L25 x3 t.1 t.2.1 t.2.2.1 t.2.2.2) u
noncomputable def f_MM_open_J25 (x1 : Int64) (x3 : Int32) (x4 : Int32) (x5 : Int32) (x6 : Int32) (x7 : Int64) : Option (Int32) := bnd (f_MM_open_W25 x3 (x4, x5, x6, x7)) (fun e25 => lex2 e25 (fun t25 => if t25.1 = 0 then some (-1 : Int32) else 
    if (bI (f_MM_in x3.toInt64 (0 : Int64) (1 : Int64))) = 0 then 
    if (bI (f_MM_in x3.toInt64 (10 : Int64) (17 : Int64))) = 0 then some (-1 : Int32) else f_MM_open_J139 x1 x3 t25.1 t25.2 else f_MM_open_J139 x1 x3 t25.1 t25.2) (fun r25 => some r25))
noncomputable def f_MM_open (x1 : Int64) (x3 : Int32) : Option Int32 := 
    if 0 ≤ (lg_cmp x1 (0 : Int64)) then f_MM_open_J25 x1 x3 (0 : Int32) (0 : Int32) (-2 : Int32) (x1 / (4 : Int64)) else some (-1 : Int32)
set_option maxHeartbeats 4000000 in
theorem wk_MM_open {l : Launch} {Z : WD} (hI : wI Z) (hZ : IsM Z) (M : Mem) (x1 : Int64) (x3 : Int32) {r : Int32} {p : Program} {e : Env} {R : Room} {s : State} {m : MethodId} {args : Array Value} {below : List Frame} {meth : Method} {c : Code} {H : Heap} {locs : List Loc} {ls : Array Slot} {Q : State → Prop} (S : CallFix p m c b_MM_open 10 s args gtb R_MM) (hX : wX Z s) (hR : 1 ≤ R.frames ∧ 25 ≤ R.locals) (hQ : ∀ (pc : Nat) (H : Heap) (locs : List Loc) (ls : Array Slot), HW Z M s H locs → decode b_MM_open pc = .ok (.ireturn, 1) → W p l e R s m args below meth c H locs 0 0 Q (F0 m pc ls [.int r])) (hf0 : f_MM_open x1 x3 = some r) (hH : HW Z M s H locs) (hl : lv_has ls 10 [(0, .ref (Z.2.2.1 0)), (1, .long x1), (3, .int x3)]) : W p l e R s m args below meth c H locs 0 0 Q (F0 m 0 ls []) := by
  have hx := S.1
  have hb := S.2.1
  have hown := S.2.2.2.1
  have ht := S.2.2.2.2
  unfold f_MM_open at hf0
  have J139 : ∀ (x1 : Int64) (x3 : Int32) (x4 : Int32) (x6 : Int32) (H : Heap) (locs : List Loc) (ls : Array Slot), f_MM_open_J139 x1 x3 x4 x6 = some r → HW Z M s H locs → lv_has ls 10 [(1, .long x1), (3, .int x3), (4, .int x4), (6, .int x6)] → W p l e R s m args below meth c H locs 0 0 Q (F0 m 139 ls []) := by
    intro x1 x3 x4 x6 H locs ls hf0 hH hl
    unfold f_MM_open_J139 at hf0
    refine lv_iload_n hx hb d_MM_open_139 rfl (lv_at hl 1 rfl) ?_
    refine lv_if_ne (tgt := 152) hx hb d_MM_open_140 (by decide) (fun hc => ?_) (fun hc => ?_)
    · replace hf0 := o_f hc hf0
      refine lv_iload_n hx hb d_MM_open_152 rfl (lv_at hl 1 rfl) ?_
      refine lv_iconst (v := (1 : Int32)) hx hb d_MM_open_153 (by decide) ?_
      refine lv_icmp_ne (tgt := 162) hx hb d_MM_open_154 (by decide) (fun hc => ?_) (fun hc => ?_)
      · replace hf0 := o_f hc hf0
        refine lv_iload hx hb d_MM_open_162 (lv_at hl 3 rfl) ?_
        obtain rfl := o_v hf0
        exact hQ _ _ _ _ hH d_MM_open_164
      · replace hf0 := o_t hc hf0
        refine lv_iload hx hb d_MM_open_157 (lv_at hl 2 rfl) ?_
        refine lv_goto (tgt := 164) hx hb d_MM_open_159 (by decide) ?_
        obtain rfl := o_v hf0
        exact hQ _ _ _ _ hH d_MM_open_164
    · replace hf0 := o_t hc hf0
      refine lv_lload_n hx hb d_MM_open_143 rfl (lv_at hl 0 rfl) ?_
      refine lv_ldc2 (v := (4 : Int64)) hx hb hown (ht _ w5_161) d_MM_open_144 ?_
      refine lv_lrem hx hb d_MM_open_147 (by decide) ?_
      refine lv_l2i hx hb d_MM_open_148 rfl ?_
      refine lv_goto (tgt := 164) hx hb d_MM_open_149 (by decide) ?_
      obtain rfl := o_v hf0
      exact hQ _ _ _ _ hH d_MM_open_164
  have J25 : ∀ (x1 : Int64) (x3 : Int32) (x4 : Int32) (x5 : Int32) (x6 : Int32) (x7 : Int64) (H : Heap) (locs : List Loc) (ls : Array Slot), f_MM_open_J25 x1 x3 x4 x5 x6 x7 = some r → HW Z M s H locs → lv_has ls 10 [(1, .long x1), (3, .int x3), (4, .int x4), (5, .int x5), (6, .int x6), (7, .long x7)] → W p l e R s m args below meth c H locs 0 0 Q (F0 m 25 ls []) := by
    intro x1 x3 x4 x5 x6 x7 H locs ls hf0 hH hl
    unfold f_MM_open_J25 at hf0
    obtain ⟨e25, he25, hf0⟩ := o_b hf0
    have KX25 : ∀ (t25 : (Int32 × Int32)), e25 = .inl t25 → ∀ (H : Heap) (locs : List Loc) (ls : Array Slot), HW Z M s H locs → lv_has ls 10 [(1, .long x1), (3, .int x3), (4, .int t25.1), (6, .int t25.2)] → W p l e R s m args below meth c H locs 0 0 Q (F0 m 108 ls []) := by
      intro t25 he0 H locs ls hH hl
      subst he0
      replace hf0 := o_x1 hf0
      refine lv_iload hx hb d_MM_open_108 (lv_at hl 2 rfl) ?_
      refine lv_if_eq (tgt := 137) hx hb d_MM_open_110 (by decide) (fun hc => ?_) (fun hc => ?_)
      · replace hf0 := o_t hc hf0
        refine lv_iconst (v := (-1 : Int32)) hx hb d_MM_open_137 (by decide) ?_
        obtain rfl := o_v hf0
        exact hQ _ _ _ _ hH d_MM_open_138
      · replace hf0 := o_f hc hf0
        refine lv_iload_n hx hb d_MM_open_113 rfl (lv_at hl 1 rfl) ?_
        refine lv_i2l hx hb d_MM_open_114 rfl ?_
        refine lv_lconst (v := (0 : Int64)) hx hb d_MM_open_115 (by decide) ?_
        refine lv_lconst (v := (1 : Int64)) hx hb d_MM_open_116 (by decide) ?_
        refine q_cSi (As := [.long x3.toInt64, .long (0 : Int64), .long (1 : Int64)]) (rest := []) S hX hH (c_MM_in l hI M x3.toInt64 (0 : Int64) (1 : Int64) rfl) (cw_MM_108 S.2.2.2.2 (Nat.le_trans (Nat.le_of_ble_eq_true rfl) hR.1) (Nat.le_trans (Nat.le_of_ble_eq_true rfl) hR.2)) rfl hl.1 rfl (Nat.le_of_ble_eq_true rfl) d_MM_open_117 ⟨Nat.zero_le _, Nat.zero_le _⟩ (fun H locs hH => ?_)
        refine lv_if_ne (tgt := 139) hx hb d_MM_open_120 (by decide) (fun hc => ?_) (fun hc => ?_)
        · replace hf0 := o_f hc hf0
          exact J139 _ _ _ _ _ _ _ hf0 hH (lv_sub hl [0, 1, 2, 3] rfl)
        · replace hf0 := o_t hc hf0
          refine lv_iload_n hx hb d_MM_open_123 rfl (lv_at hl 1 rfl) ?_
          refine lv_i2l hx hb d_MM_open_124 rfl ?_
          refine lv_ldc2 (v := (10 : Int64)) hx hb hown (ht _ w6_96) d_MM_open_125 ?_
          refine lv_ldc2 (v := (17 : Int64)) hx hb hown (ht _ w6_97) d_MM_open_128 ?_
          refine q_cSi (As := [.long x3.toInt64, .long (10 : Int64), .long (17 : Int64)]) (rest := []) S hX hH (c_MM_in l hI M x3.toInt64 (10 : Int64) (17 : Int64) rfl) (cw_MM_108 S.2.2.2.2 (Nat.le_trans (Nat.le_of_ble_eq_true rfl) hR.1) (Nat.le_trans (Nat.le_of_ble_eq_true rfl) hR.2)) rfl hl.1 rfl (Nat.le_of_ble_eq_true rfl) d_MM_open_131 ⟨Nat.zero_le _, Nat.zero_le _⟩ (fun H locs hH => ?_)
          refine lv_if_ne (tgt := 139) hx hb d_MM_open_134 (by decide) (fun hc => ?_) (fun hc => ?_)
          · replace hf0 := o_f hc hf0
            exact J139 _ _ _ _ _ _ _ hf0 hH (lv_sub hl [0, 1, 2, 3] rfl)
          · replace hf0 := o_t hc hf0
            refine lv_iconst (v := (-1 : Int32)) hx hb d_MM_open_137 (by decide) ?_
            obtain rfl := o_v hf0
            exact hQ _ _ _ _ hH d_MM_open_138
    unfold f_MM_open_W25 at he25
    refine loop_W (fun t => ∀ (H : Heap) (locs : List Loc) (ls : Array Slot), HW Z M s H locs → lv_has ls 10 [(1, .long x1), (3, .int x3), (4, .int t.1), (5, .int t.2.1), (6, .int t.2.2.1), (7, .long t.2.2.2)] → W p l e R s m args below meth c H locs 0 0 Q (F0 m 25 ls [])) ?_ he25 H locs ls hH hl
    rintro ⟨x4, x5, x6, x7⟩ o1 hf1 hG1 hR1 H locs ls hH hl
    replace hH : HW Z M s H locs := hH
    replace hl : lv_has ls 10 [(1, .long x1), (3, .int x3), (4, .int x4), (5, .int x5), (6, .int x6), (7, .long x7)] := hl
    replace hf1 : f_MM_open_L25 x3 x4 x5 x6 x7 = some o1 := hf1
    unfold f_MM_open_L25 at hf1
    have J92 : ∀ (x4 : Int32) (x5 : Int32) (x7 : Int64) (s0 : Int32) (H : Heap) (locs : List Loc) (ls : Array Slot), f_MM_open_J92 x3 x4 x5 x7 s0 = some o1 → HW Z M s H locs → lv_has ls 10 [(1, .long x1), (3, .int x3), (4, .int x4), (5, .int x5), (7, .long x7)] → W p l e R s m args below meth c H locs 0 0 Q (F0 m 92 ls [.int s0]) := by
      intro x4 x5 x7 s0 H locs ls hf1 hH hl
      unfold f_MM_open_J92 at hf1
      refine lv_istore (lv' := [(6, .int s0), (1, .long x1), (3, .int x3), (4, .int x4), (5, .int x5), (7, .long x7)]) hx hb d_MM_open_92 hl (by decide) rfl (fun ls hl => ?_)
      refine lv_iinc (v := x4 + (1 : Int32)) (lv' := [(4, .int (x4 + (1 : Int32))), (6, .int s0), (1, .long x1), (3, .int x3), (5, .int x5), (7, .long x7)]) hx hb d_MM_open_94 hl (k := 3) rfl rfl (by decide) rfl (fun ls hl => ?_)
      refine lv_lload hx hb d_MM_open_97 (lv_at hl 5 rfl) ?_
      refine lv_ldc2 (v := (9 : Int64)) hx hb hown (ht _ w6_91) d_MM_open_99 ?_
      refine lv_ldiv hx hb d_MM_open_102 (by decide) ?_
      refine lv_lstore (lv' := [(7, .long (x7 / (9 : Int64))), (4, .int (x4 + (1 : Int32))), (6, .int s0), (1, .long x1), (3, .int x3), (5, .int x5)]) hx hb d_MM_open_103 hl (by decide) rfl (fun ls hl => ?_)
      refine lv_goto (tgt := 25) hx hb d_MM_open_105 (by decide) ?_
      exact hG1 _ (o_v hf1).symm _ _ _ hH (lv_sub hl [3, 4, 1, 5, 2, 0] rfl)
    refine lv_lload hx hb d_MM_open_25 (lv_at hl 5 rfl) ?_
    refine lv_lconst (v := (0 : Int64)) hx hb d_MM_open_27 (by decide) ?_
    refine W.lcmp hx hb d_MM_open_28 ?_
    refine lv_if_le (tgt := 108) hx hb d_MM_open_29 (by decide) (fun hc => ?_) (fun hc => ?_)
    · replace hf1 := o_t hc hf1
      obtain rfl := hR1 _ (o_v hf1).symm
      exact KX25 _ rfl _ _ _ hH (lv_sub hl [0, 1, 2, 4] rfl)
    · replace hf1 := o_f hc hf1
      refine lv_lload hx hb d_MM_open_32 (lv_at hl 5 rfl) ?_
      refine lv_ldc2 (v := (9 : Int64)) hx hb hown (ht _ w6_91) d_MM_open_34 ?_
      refine lv_lrem hx hb d_MM_open_37 (by decide) ?_
      refine lv_l2i hx hb d_MM_open_38 rfl ?_
      refine lv_iconst (v := (1 : Int32)) hx hb d_MM_open_39 (by decide) ?_
      refine lv_isub hx hb d_MM_open_40 ?_
      refine lv_istore (lv' := [(9, .int (((x7 - x7 / (9 : Int64) * (9 : Int64)).toInt32) - (1 : Int32))), (1, .long x1), (3, .int x3), (4, .int x4), (5, .int x5), (6, .int x6), (7, .long x7)]) hx hb d_MM_open_41 hl (by decide) rfl (fun ls hl => ?_)
      refine lv_iload hx hb d_MM_open_43 (lv_at hl 0 rfl) ?_
      refine lv_if_lt (tgt := 65) hx hb d_MM_open_45 (by decide) (fun hc => ?_) (fun hc => ?_)
      · replace hf1 := o_t hc hf1
        refine lv_iconst (v := (-1 : Int32)) hx hb d_MM_open_65 (by decide) ?_
        obtain rfl := hR1 _ (o_v hf1).symm
        replace hf0 := o_x2 hf0
        obtain rfl := o_v hf0
        exact hQ _ _ _ _ hH d_MM_open_66
      · replace hf1 := o_f hc hf1
        refine lv_iload hx hb d_MM_open_48 (lv_at hl 3 rfl) ?_
        refine lv_bipush (v := (8 : Int32)) hx hb d_MM_open_50 (by decide) ?_
        refine lv_icmp_eq (tgt := 65) hx hb d_MM_open_52 (by decide) (fun hc => ?_) (fun hc => ?_)
        · replace hf1 := o_t hc hf1
          refine lv_iconst (v := (-1 : Int32)) hx hb d_MM_open_65 (by decide) ?_
          obtain rfl := hR1 _ (o_v hf1).symm
          replace hf0 := o_x2 hf0
          obtain rfl := o_v hf0
          exact hQ _ _ _ _ hH d_MM_open_66
        · replace hf1 := o_f hc hf1
          refine lv_iload hx hb d_MM_open_55 (lv_at hl 4 rfl) ?_
          refine lv_iload hx hb d_MM_open_57 (lv_at hl 0 rfl) ?_
          refine q_cSi (As := [.int x5, .int (((x7 - x7 / (9 : Int64) * (9 : Int64)).toInt32) - (1 : Int32))]) (rest := []) S hX hH (c_MM_has l hI M x5 (((x7 - x7 / (9 : Int64) * (9 : Int64)).toInt32) - (1 : Int32)) rfl) (cw_MM_201 S.2.2.2.2 (Nat.le_trans (Nat.le_of_ble_eq_true rfl) hR.1) (Nat.le_trans (Nat.le_of_ble_eq_true rfl) hR.2)) rfl hl.1 rfl (Nat.le_of_ble_eq_true rfl) d_MM_open_59 ⟨Nat.zero_le _, Nat.zero_le _⟩ (fun H locs hH => ?_)
          refine lv_if_eq (tgt := 67) hx hb d_MM_open_62 (by decide) (fun hc => ?_) (fun hc => ?_)
          · replace hf1 := o_t hc hf1
            refine lv_iload hx hb d_MM_open_67 (lv_at hl 4 rfl) ?_
            refine lv_iconst (v := (1 : Int32)) hx hb d_MM_open_69 (by decide) ?_
            refine lv_iload hx hb d_MM_open_70 (lv_at hl 0 rfl) ?_
            refine lv_ishl hx hb d_MM_open_72 ?_
            refine lv_ior hx hb d_MM_open_73 ?_
            obtain ⟨y1, hy1, hf1⟩ := o_l hf1
            refine lv_nm hy1 ?_
            refine lv_istore (lv' := [(5, .int y1), (9, .int (((x7 - x7 / (9 : Int64) * (9 : Int64)).toInt32) - (1 : Int32))), (1, .long x1), (3, .int x3), (4, .int x4), (6, .int x6), (7, .long x7)]) hx hb d_MM_open_74 hl (by decide) rfl (fun ls hl => ?_)
            refine lv_iload_n hx hb d_MM_open_76 rfl (lv_at hl 3 rfl) ?_
            refine lv_bipush (v := (10 : Int32)) hx hb d_MM_open_77 (by decide) ?_
            refine lv_iload hx hb d_MM_open_79 (lv_at hl 4 rfl) ?_
            refine lv_iadd hx hb d_MM_open_81 ?_
            refine lv_icmp_ne (tgt := 90) hx hb d_MM_open_82 (by decide) (fun hc => ?_) (fun hc => ?_)
            · replace hf1 := o_f hc hf1
              refine lv_iload hx hb d_MM_open_90 (lv_at hl 5 rfl) ?_
              exact J92 _ _ _ _ _ _ _ hf1 hH (lv_sub hl [2, 3, 4, 0, 6] rfl)
            · replace hf1 := o_t hc hf1
              refine lv_iload hx hb d_MM_open_85 (lv_at hl 1 rfl) ?_
              refine lv_goto (tgt := 92) hx hb d_MM_open_87 (by decide) ?_
              exact J92 _ _ _ _ _ _ _ hf1 hH (lv_sub hl [2, 3, 4, 0, 6] rfl)
          · replace hf1 := o_f hc hf1
            refine lv_iconst (v := (-1 : Int32)) hx hb d_MM_open_65 (by decide) ?_
            obtain rfl := hR1 _ (o_v hf1).symm
            replace hf0 := o_x2 hf0
            obtain rfl := o_v hf0
            exact hQ _ _ _ _ hH d_MM_open_66
  refine lv_lload_n hx hb d_MM_open_0 rfl (lv_at hl 1 rfl) ?_
  refine lv_lconst (v := (0 : Int64)) hx hb d_MM_open_1 (by decide) ?_
  refine W.lcmp hx hb d_MM_open_2 ?_
  refine lv_if_ge (tgt := 8) hx hb d_MM_open_3 (by decide) (fun hc => ?_) (fun hc => ?_)
  · replace hf0 := o_t hc hf0
    refine lv_iconst (v := (0 : Int32)) hx hb d_MM_open_8 (by decide) ?_
    refine lv_istore (lv' := [(4, .int (0 : Int32)), (0, .ref (Z.2.2.1 0)), (1, .long x1), (3, .int x3)]) hx hb d_MM_open_9 hl (by decide) rfl (fun ls hl => ?_)
    refine lv_iconst (v := (0 : Int32)) hx hb d_MM_open_11 (by decide) ?_
    refine lv_istore (lv' := [(5, .int (0 : Int32)), (4, .int (0 : Int32)), (0, .ref (Z.2.2.1 0)), (1, .long x1), (3, .int x3)]) hx hb d_MM_open_12 hl (by decide) rfl (fun ls hl => ?_)
    refine lv_bipush (v := (-2 : Int32)) hx hb d_MM_open_14 (by decide) ?_
    refine lv_istore (lv' := [(6, .int (-2 : Int32)), (5, .int (0 : Int32)), (4, .int (0 : Int32)), (0, .ref (Z.2.2.1 0)), (1, .long x1), (3, .int x3)]) hx hb d_MM_open_16 hl (by decide) rfl (fun ls hl => ?_)
    refine lv_lload_n hx hb d_MM_open_18 rfl (lv_at hl 4 rfl) ?_
    refine lv_ldc2 (v := (4 : Int64)) hx hb hown (ht _ w5_161) d_MM_open_19 ?_
    refine lv_ldiv hx hb d_MM_open_22 (by decide) ?_
    refine lv_lstore (lv' := [(7, .long (x1 / (4 : Int64))), (6, .int (-2 : Int32)), (5, .int (0 : Int32)), (4, .int (0 : Int32)), (0, .ref (Z.2.2.1 0)), (1, .long x1), (3, .int x3)]) hx hb d_MM_open_23 hl (by decide) rfl (fun ls hl => ?_)
    exact J25 _ _ _ _ _ _ _ _ _ hf0 hH (lv_sub hl [5, 6, 3, 2, 1, 0] rfl)
  · replace hf0 := o_f hc hf0
    refine lv_iconst (v := (-1 : Int32)) hx hb d_MM_open_6 (by decide) ?_
    obtain rfl := o_v hf0
    exact hQ _ _ _ _ hH d_MM_open_7
theorem c_MM_open (l : Launch) {Z : WD} (hI : wI Z) (hZ : IsM Z) (M : Mem) (x1 : Int64) (x3 : Int32) {r : Int32} (hf : f_MM_open x1 x3 = some r) : Ci l Z y_MM_open b_MM_open 10 (some .int) 1 25 [.ref (Z.2.2.1 0), .long x1, .int x3] M M r := by
  refine Met.ofW (cc := b_MM_open) (maxL := 10) (ret := (some .int)) (by decide) rfl ?_
  intro p e s m args below meth c s₁ B hml hv
  obtain ⟨rfl, hP, hX⟩ := hv
  have S : CallFix p m c b_MM_open 10 s ([.ref (Z.2.2.1 0), .long x1, .int x3] : List Value).toArray gtb R_MM := ⟨B.exec, B.bytes, hml, findClass_of_methodNamed B.named, fun w hw => atoms_spec (ws := .code y_MM_open b_MM_open 10 (some .int) :: gtb) B.pre w (List.mem_cons_of_mem _ hw)⟩
  have hl := lv_entry ([.ref (Z.2.2.1 0), .long x1, .int x3]) (n := 10) (Nat.le_of_ble_eq_true rfl)
  rw [lg_entry_eq]
  exact wk_MM_open hI hZ M x1 x3 S hX ⟨Nat.le_refl _, Nat.le_refl _⟩ (fun pc H locs ls hH d => q_ri S.1 S.2.1 B.returns B.notSynchronized hH rfl rfl d) hf ⟨hP, va_S.rf⟩ hl
noncomputable def f_MM_sent_J65 (M : Mem) (x1 : Int32) (x3 : Int32) (s0 : Int32) (s1 : Int32) : Option ((Int32 × Int32) ⊕ (Int32 × Mem)) := some (.inl (s1 + (f_MM_truth s0), x3 + (1 : Int32)))
noncomputable def f_MM_sent_J60 (M : Mem) (x1 : Int32) (x3 : Int32) (s0 : Int32) : Option ((Int32 × Int32) ⊕ (Int32 × Mem)) := f_MM_sent_J65 M x1 x3 (1 : Int32) s0
noncomputable def f_MM_sent_L36 (M : Mem) (x1 : Int32) (x2 : Int32) (x3 : Int32) : Option ((Int32 × Int32) ⊕ (Int32 × Mem)) := if (M 0 21) ≤ x3 then some (.inr (x2, M)) else 
    if x1 = (-1 : Int32) then f_MM_sent_J60 M x1 x3 x2 else 
    gIn x3 260 (if (M 9 x3.toNatClampNeg) = x1 then f_MM_sent_J60 M x1 x3 x2 else f_MM_sent_J65 M x1 x3 (0 : Int32) x2)
noncomputable def f_MM_sent_W36 (M : Mem) (x1 : Int32) (u : (Int32 × Int32)) : Option (Int32 × Mem) := loop (fun t => f_MM_sent_L36 M x1 t.1 t.2) u
noncomputable def f_MM_sent_J36 (M : Mem) (x1 : Int32) (x2 : Int32) (x3 : Int32) : Option (Int32 × Mem) := bnd (f_MM_sent_W36 M x1 (x2, x3)) (fun e36 => some e36)
noncomputable def f_MM_sent_J28 (M : Mem) (x1 : Int32) : Option (Int32 × Mem) := bnd (f_MM_runs M) (fun M3 => f_MM_sent_J36 M3 x1 (0 : Int32) (0 : Int32))
noncomputable def f_MM_sent (M : Mem) (x1 : Int32) : Option (Int32 × Mem) := 
    if (M 1 0) = 0 then some ((-1 : Int32), M) else 
    if x1 = (-1 : Int32) then f_MM_sent_J28 M x1 else 
    if (bI (f_MM_in x1.toInt64 (1 : Int64) (8 : Int64))) = 0 then some ((-1 : Int32), M) else f_MM_sent_J28 M x1
set_option maxHeartbeats 4000000 in
theorem wk_MM_sent {l : Launch} {Z : WD} (hI : wI Z) (hZ : IsM Z) (M : Mem) (x1 : Int32) {r : Int32} {M' : Mem} {p : Program} {e : Env} {R : Room} {s : State} {m : MethodId} {args : Array Value} {below : List Frame} {meth : Method} {c : Code} {H : Heap} {locs : List Loc} {ls : Array Slot} {Q : State → Prop} (S : CallFix p m c b_MM_sent 4 s args gtb R_MM) (hX : wX Z s) (hR : 6 ≤ R.frames ∧ 148 ≤ R.locals) (hQ : ∀ (pc : Nat) (H : Heap) (locs : List Loc) (ls : Array Slot), HW Z M' s H locs → decode b_MM_sent pc = .ok (.ireturn, 1) → W p l e R s m args below meth c H locs 0 0 Q (F0 m pc ls [.int r])) (hf0 : f_MM_sent M x1 = some (r, M')) (hH : HW Z M s H locs) (hl : lv_has ls 4 [(0, .ref (Z.2.2.1 0)), (1, .int x1)]) : W p l e R s m args below meth c H locs 0 0 Q (F0 m 0 ls []) := by
  have hx := S.1
  have hb := S.2.1
  have hown := S.2.2.2.1
  have ht := S.2.2.2.2
  unfold f_MM_sent at hf0
  have J36 : ∀ (M : Mem) (x1 : Int32) (x2 : Int32) (x3 : Int32) (H : Heap) (locs : List Loc) (ls : Array Slot), f_MM_sent_J36 M x1 x2 x3 = some (r, M') → HW Z M s H locs → lv_has ls 4 [(0, .ref (Z.2.2.1 0)), (1, .int x1), (2, .int x2), (3, .int x3)] → W p l e R s m args below meth c H locs 0 0 Q (F0 m 36 ls []) := by
    intro M x1 x2 x3 H locs ls hf0 hH hl
    unfold f_MM_sent_J36 at hf0
    obtain ⟨e36, he36, hf0⟩ := o_b hf0
    unfold f_MM_sent_W36 at he36
    refine loop_W (fun t => ∀ (H : Heap) (locs : List Loc) (ls : Array Slot), HW Z M s H locs → lv_has ls 4 [(0, .ref (Z.2.2.1 0)), (1, .int x1), (2, .int t.1), (3, .int t.2)] → W p l e R s m args below meth c H locs 0 0 Q (F0 m 36 ls [])) ?_ he36 H locs ls hH hl
    rintro ⟨x2, x3⟩ o1 hf1 hG1 hR1 H locs ls hH hl
    replace hH : HW Z M s H locs := hH
    replace hl : lv_has ls 4 [(0, .ref (Z.2.2.1 0)), (1, .int x1), (2, .int x2), (3, .int x3)] := hl
    replace hf1 : f_MM_sent_L36 M x1 x2 x3 = some o1 := hf1
    unfold f_MM_sent_L36 at hf1
    have J65 : ∀ (x3 : Int32) (s0 : Int32) (s1 : Int32) (H : Heap) (locs : List Loc) (ls : Array Slot), f_MM_sent_J65 M x1 x3 s0 s1 = some o1 → HW Z M s H locs → lv_has ls 4 [(0, .ref (Z.2.2.1 0)), (1, .int x1), (3, .int x3)] → W p l e R s m args below meth c H locs 0 0 Q (F0 m 65 ls [.int s0, .int s1]) := by
      intro x3 s0 s1 H locs ls hf1 hH hl
      unfold f_MM_sent_J65 at hf1
      refine q_cSi (As := [.int s0]) (rest := [.int s1]) S hX hH (c_MM_truth l hI M s0 rfl) (cw_MM_150 S.2.2.2.2 (Nat.le_trans (Nat.le_of_ble_eq_true rfl) hR.1) (Nat.le_trans (Nat.le_of_ble_eq_true rfl) hR.2)) rfl hl.1 rfl (Nat.le_of_ble_eq_true rfl) d_MM_sent_65 ⟨Nat.zero_le _, Nat.zero_le _⟩ (fun H locs hH => ?_)
      refine lv_iadd hx hb d_MM_sent_68 ?_
      refine lv_istore_n (lv' := [(2, .int (s1 + (f_MM_truth s0))), (0, .ref (Z.2.2.1 0)), (1, .int x1), (3, .int x3)]) hx hb d_MM_sent_69 rfl hl (by decide) rfl (fun ls hl => ?_)
      refine lv_iinc (v := x3 + (1 : Int32)) (lv' := [(3, .int (x3 + (1 : Int32))), (2, .int (s1 + (f_MM_truth s0))), (0, .ref (Z.2.2.1 0)), (1, .int x1)]) hx hb d_MM_sent_70 hl (k := 3) rfl rfl (by decide) rfl (fun ls hl => ?_)
      refine lv_goto (tgt := 36) hx hb d_MM_sent_73 (by decide) ?_
      exact hG1 _ (o_v hf1).symm _ _ _ hH (lv_sub hl [2, 3, 1, 0] rfl)
    have J60 : ∀ (x3 : Int32) (s0 : Int32) (H : Heap) (locs : List Loc) (ls : Array Slot), f_MM_sent_J60 M x1 x3 s0 = some o1 → HW Z M s H locs → lv_has ls 4 [(0, .ref (Z.2.2.1 0)), (1, .int x1), (3, .int x3)] → W p l e R s m args below meth c H locs 0 0 Q (F0 m 60 ls [.int s0]) := by
      intro x3 s0 H locs ls hf1 hH hl
      unfold f_MM_sent_J60 at hf1
      refine lv_iconst (v := (1 : Int32)) hx hb d_MM_sent_60 (by decide) ?_
      refine lv_goto (tgt := 65) hx hb d_MM_sent_61 (by decide) ?_
      exact J65 _ _ _ _ _ _ hf1 hH (lv_sub hl [0, 1, 2] rfl)
    refine lv_iload_n hx hb d_MM_sent_36 rfl (lv_at hl 3 rfl) ?_
    refine lv_aload_n hx hb d_MM_sent_37 rfl (lv_at hl 0 rfl) ?_
    refine g_MM_264 S hX hH hZ d_MM_sent_38 ?_
    refine lv_icmp_ge (tgt := 76) hx hb d_MM_sent_41 (by decide) (fun hc => ?_) (fun hc => ?_)
    · replace hf1 := o_t hc hf1
      refine lv_iload_n hx hb d_MM_sent_76 rfl (lv_at hl 2 rfl) ?_
      obtain rfl := hR1 _ (o_v hf1).symm
      obtain ⟨rfl, rfl⟩ := o_p hf0
      exact hQ _ _ _ _ hH d_MM_sent_77
    · replace hf1 := o_f hc hf1
      refine lv_iload_n hx hb d_MM_sent_44 rfl (lv_at hl 2 rfl) ?_
      refine lv_iload_n hx hb d_MM_sent_45 rfl (lv_at hl 1 rfl) ?_
      refine lv_iconst (v := (-1 : Int32)) hx hb d_MM_sent_46 (by decide) ?_
      refine lv_icmp_eq (tgt := 60) hx hb d_MM_sent_47 (by decide) (fun hc => ?_) (fun hc => ?_)
      · replace hf1 := o_t hc hf1
        exact J60 _ _ _ _ _ hf1 hH (lv_sub hl [0, 1, 3] rfl)
      · replace hf1 := o_f hc hf1
        refine lv_aload_n hx hb d_MM_sent_50 rfl (lv_at hl 0 rfl) ?_
        refine g_MM_36 S hX hH hZ d_MM_sent_51 ?_
        refine lv_iload_n hx hb d_MM_sent_54 rfl (lv_at hl 3 rfl) ?_
        obtain ⟨hn1, hf1⟩ := o_in hf1
        refine q_iald (j := x3.toNatClampNeg) hx hb hX hH (aa_MM_9 hZ) hn1 rfl d_MM_sent_55 ?_
        refine lv_iload_n hx hb d_MM_sent_56 rfl (lv_at hl 1 rfl) ?_
        refine lv_icmp_ne (tgt := 64) hx hb d_MM_sent_57 (by decide) (fun hc => ?_) (fun hc => ?_)
        · replace hf1 := o_f hc hf1
          refine lv_iconst (v := (0 : Int32)) hx hb d_MM_sent_64 (by decide) ?_
          exact J65 _ _ _ _ _ _ hf1 hH (lv_sub hl [0, 1, 3] rfl)
        · replace hf1 := o_t hc hf1
          exact J60 _ _ _ _ _ hf1 hH (lv_sub hl [0, 1, 3] rfl)
  have J28 : ∀ (M : Mem) (x1 : Int32) (H : Heap) (locs : List Loc) (ls : Array Slot), f_MM_sent_J28 M x1 = some (r, M') → HW Z M s H locs → lv_has ls 4 [(0, .ref (Z.2.2.1 0)), (1, .int x1)] → W p l e R s m args below meth c H locs 0 0 Q (F0 m 28 ls []) := by
    intro M x1 H locs ls hf0 hH hl
    unfold f_MM_sent_J28 at hf0
    refine lv_aload_n hx hb d_MM_sent_28 rfl (lv_at hl 0 rfl) ?_
    obtain ⟨M3, hc2, hf0⟩ := o_b hf0
    refine q_cVv (As := []) (rest := []) S hX hH (c_MM_runs l hI hZ M hc2) (cw_MM_321 S.2.2.2.2 (Nat.le_trans (Nat.le_of_ble_eq_true rfl) hR.1) (Nat.le_trans (Nat.le_of_ble_eq_true rfl) hR.2)) (rc_MM hX hH hZ) rfl hl.1 rfl (Nat.le_of_ble_eq_true rfl) d_MM_sent_29 ⟨Nat.zero_le _, Nat.zero_le _⟩ (fun H locs hH => ?_)
    refine lv_iconst (v := (0 : Int32)) hx hb d_MM_sent_32 (by decide) ?_
    refine lv_istore_n (lv' := [(2, .int (0 : Int32)), (0, .ref (Z.2.2.1 0)), (1, .int x1)]) hx hb d_MM_sent_33 rfl hl (by decide) rfl (fun ls hl => ?_)
    refine lv_iconst (v := (0 : Int32)) hx hb d_MM_sent_34 (by decide) ?_
    refine lv_istore_n (lv' := [(3, .int (0 : Int32)), (2, .int (0 : Int32)), (0, .ref (Z.2.2.1 0)), (1, .int x1)]) hx hb d_MM_sent_35 rfl hl (by decide) rfl (fun ls hl => ?_)
    exact J36 _ _ _ _ _ _ _ hf0 hH (lv_sub hl [2, 3, 1, 0] rfl)
  refine lv_aload_n hx hb d_MM_sent_0 rfl (lv_at hl 0 rfl) ?_
  refine g_MM_9 S hX hH hZ d_MM_sent_1 ?_
  refine lv_iconst (v := (0 : Int32)) hx hb d_MM_sent_4 (by decide) ?_
  refine q_iald (j := 0) hx hb hX hH (aa_MM_1 hZ) (vp_c (by decide)) (by decide) d_MM_sent_5 ?_
  refine lv_if_eq (tgt := 26) hx hb d_MM_sent_6 (by decide) (fun hc => ?_) (fun hc => ?_)
  · replace hf0 := o_t hc hf0
    refine lv_iconst (v := (-1 : Int32)) hx hb d_MM_sent_26 (by decide) ?_
    obtain ⟨rfl, rfl⟩ := o_p hf0
    exact hQ _ _ _ _ hH d_MM_sent_27
  · replace hf0 := o_f hc hf0
    refine lv_iload_n hx hb d_MM_sent_9 rfl (lv_at hl 1 rfl) ?_
    refine lv_iconst (v := (-1 : Int32)) hx hb d_MM_sent_10 (by decide) ?_
    refine lv_icmp_eq (tgt := 28) hx hb d_MM_sent_11 (by decide) (fun hc => ?_) (fun hc => ?_)
    · replace hf0 := o_t hc hf0
      exact J28 _ _ _ _ _ hf0 hH (lv_sub hl [0, 1] rfl)
    · replace hf0 := o_f hc hf0
      refine lv_iload_n hx hb d_MM_sent_14 rfl (lv_at hl 1 rfl) ?_
      refine lv_i2l hx hb d_MM_sent_15 rfl ?_
      refine lv_lconst (v := (1 : Int64)) hx hb d_MM_sent_16 (by decide) ?_
      refine lv_ldc2 (v := (8 : Int64)) hx hb hown (ht _ w5_170) d_MM_sent_17 ?_
      refine q_cSi (As := [.long x1.toInt64, .long (1 : Int64), .long (8 : Int64)]) (rest := []) S hX hH (c_MM_in l hI M x1.toInt64 (1 : Int64) (8 : Int64) rfl) (cw_MM_108 S.2.2.2.2 (Nat.le_trans (Nat.le_of_ble_eq_true rfl) hR.1) (Nat.le_trans (Nat.le_of_ble_eq_true rfl) hR.2)) rfl hl.1 rfl (Nat.le_of_ble_eq_true rfl) d_MM_sent_20 ⟨Nat.zero_le _, Nat.zero_le _⟩ (fun H locs hH => ?_)
      refine lv_if_ne (tgt := 28) hx hb d_MM_sent_23 (by decide) (fun hc => ?_) (fun hc => ?_)
      · replace hf0 := o_f hc hf0
        exact J28 _ _ _ _ _ hf0 hH (lv_sub hl [0, 1] rfl)
      · replace hf0 := o_t hc hf0
        refine lv_iconst (v := (-1 : Int32)) hx hb d_MM_sent_26 (by decide) ?_
        obtain ⟨rfl, rfl⟩ := o_p hf0
        exact hQ _ _ _ _ hH d_MM_sent_27
theorem c_MM_sent (l : Launch) {Z : WD} (hI : wI Z) (hZ : IsM Z) (M : Mem) (x1 : Int32) {r : Int32} {M' : Mem} (hf : f_MM_sent M x1 = some (r, M')) : Ci l Z y_MM_sent b_MM_sent 4 (some .int) 6 148 [.ref (Z.2.2.1 0), .int x1] M M' r := by
  refine Met.ofW (cc := b_MM_sent) (maxL := 4) (ret := (some .int)) (by decide) rfl ?_
  intro p e s m args below meth c s₁ B hml hv
  obtain ⟨rfl, hP, hX⟩ := hv
  have S : CallFix p m c b_MM_sent 4 s ([.ref (Z.2.2.1 0), .int x1] : List Value).toArray gtb R_MM := ⟨B.exec, B.bytes, hml, findClass_of_methodNamed B.named, fun w hw => atoms_spec (ws := .code y_MM_sent b_MM_sent 4 (some .int) :: gtb) B.pre w (List.mem_cons_of_mem _ hw)⟩
  have hl := lv_entry ([.ref (Z.2.2.1 0), .int x1]) (n := 4) (Nat.le_of_ble_eq_true rfl)
  rw [lg_entry_eq]
  exact wk_MM_sent hI hZ M x1 S hX ⟨Nat.le_refl _, Nat.le_refl _⟩ (fun pc H locs ls hH d => q_ri S.1 S.2.1 B.returns B.notSynchronized hH rfl rfl d) hf ⟨hP, va_S.rf⟩ hl
noncomputable def f_MM_forged (M : Mem) (x1 : Int32) : Option (Int32 × Mem) := 
    if (bI (f_MM_in x1.toInt64 (0 : Int64) (1 : Int64))) = 0 then some ((-1 : Int32), M) else bnd (f_MM_runs M) (fun M2 => if x1 = 0 then some (M2 0 25, M2) else some (M2 0 26, M2))
set_option maxHeartbeats 4000000 in
theorem wk_MM_forged {l : Launch} {Z : WD} (hI : wI Z) (hZ : IsM Z) (M : Mem) (x1 : Int32) {r : Int32} {M' : Mem} {p : Program} {e : Env} {R : Room} {s : State} {m : MethodId} {args : Array Value} {below : List Frame} {meth : Method} {c : Code} {H : Heap} {locs : List Loc} {ls : Array Slot} {Q : State → Prop} (S : CallFix p m c b_MM_forged 2 s args gtb R_MM) (hX : wX Z s) (hR : 6 ≤ R.frames ∧ 148 ≤ R.locals) (hQ : ∀ (pc : Nat) (H : Heap) (locs : List Loc) (ls : Array Slot), HW Z M' s H locs → decode b_MM_forged pc = .ok (.ireturn, 1) → W p l e R s m args below meth c H locs 0 0 Q (F0 m pc ls [.int r])) (hf0 : f_MM_forged M x1 = some (r, M')) (hH : HW Z M s H locs) (hl : lv_has ls 2 [(0, .ref (Z.2.2.1 0)), (1, .int x1)]) : W p l e R s m args below meth c H locs 0 0 Q (F0 m 0 ls []) := by
  have hx := S.1
  have hb := S.2.1
  have hown := S.2.2.2.1
  have ht := S.2.2.2.2
  unfold f_MM_forged at hf0
  refine lv_iload_n hx hb d_MM_forged_0 rfl (lv_at hl 1 rfl) ?_
  refine lv_i2l hx hb d_MM_forged_1 rfl ?_
  refine lv_lconst (v := (0 : Int64)) hx hb d_MM_forged_2 (by decide) ?_
  refine lv_lconst (v := (1 : Int64)) hx hb d_MM_forged_3 (by decide) ?_
  refine q_cSi (As := [.long x1.toInt64, .long (0 : Int64), .long (1 : Int64)]) (rest := []) S hX hH (c_MM_in l hI M x1.toInt64 (0 : Int64) (1 : Int64) rfl) (cw_MM_108 S.2.2.2.2 (Nat.le_trans (Nat.le_of_ble_eq_true rfl) hR.1) (Nat.le_trans (Nat.le_of_ble_eq_true rfl) hR.2)) rfl hl.1 rfl (Nat.le_of_ble_eq_true rfl) d_MM_forged_4 ⟨Nat.zero_le _, Nat.zero_le _⟩ (fun H locs hH => ?_)
  refine lv_if_ne (tgt := 12) hx hb d_MM_forged_7 (by decide) (fun hc => ?_) (fun hc => ?_)
  · replace hf0 := o_f hc hf0
    refine lv_aload_n hx hb d_MM_forged_12 rfl (lv_at hl 0 rfl) ?_
    obtain ⟨M2, hc1, hf0⟩ := o_b hf0
    refine q_cVv (As := []) (rest := []) S hX hH (c_MM_runs l hI hZ M hc1) (cw_MM_321 S.2.2.2.2 (Nat.le_trans (Nat.le_of_ble_eq_true rfl) hR.1) (Nat.le_trans (Nat.le_of_ble_eq_true rfl) hR.2)) (rc_MM hX hH hZ) rfl hl.1 rfl (Nat.le_of_ble_eq_true rfl) d_MM_forged_13 ⟨Nat.zero_le _, Nat.zero_le _⟩ (fun H locs hH => ?_)
    refine lv_iload_n hx hb d_MM_forged_16 rfl (lv_at hl 1 rfl) ?_
    refine lv_if_ne (tgt := 27) hx hb d_MM_forged_17 (by decide) (fun hc => ?_) (fun hc => ?_)
    · replace hf0 := o_f hc hf0
      refine lv_aload_n hx hb d_MM_forged_27 rfl (lv_at hl 0 rfl) ?_
      refine g_MM_297 S hX hH hZ d_MM_forged_28 ?_
      obtain ⟨rfl, rfl⟩ := o_p hf0
      exact hQ _ _ _ _ hH d_MM_forged_31
    · replace hf0 := o_t hc hf0
      refine lv_aload_n hx hb d_MM_forged_20 rfl (lv_at hl 0 rfl) ?_
      refine g_MM_294 S hX hH hZ d_MM_forged_21 ?_
      refine lv_goto (tgt := 31) hx hb d_MM_forged_24 (by decide) ?_
      obtain ⟨rfl, rfl⟩ := o_p hf0
      exact hQ _ _ _ _ hH d_MM_forged_31
  · replace hf0 := o_t hc hf0
    refine lv_iconst (v := (-1 : Int32)) hx hb d_MM_forged_10 (by decide) ?_
    obtain ⟨rfl, rfl⟩ := o_p hf0
    exact hQ _ _ _ _ hH d_MM_forged_11
theorem c_MM_forged (l : Launch) {Z : WD} (hI : wI Z) (hZ : IsM Z) (M : Mem) (x1 : Int32) {r : Int32} {M' : Mem} (hf : f_MM_forged M x1 = some (r, M')) : Ci l Z y_MM_forged b_MM_forged 2 (some .int) 6 148 [.ref (Z.2.2.1 0), .int x1] M M' r := by
  refine Met.ofW (cc := b_MM_forged) (maxL := 2) (ret := (some .int)) (by decide) rfl ?_
  intro p e s m args below meth c s₁ B hml hv
  obtain ⟨rfl, hP, hX⟩ := hv
  have S : CallFix p m c b_MM_forged 2 s ([.ref (Z.2.2.1 0), .int x1] : List Value).toArray gtb R_MM := ⟨B.exec, B.bytes, hml, findClass_of_methodNamed B.named, fun w hw => atoms_spec (ws := .code y_MM_forged b_MM_forged 2 (some .int) :: gtb) B.pre w (List.mem_cons_of_mem _ hw)⟩
  have hl := lv_entry ([.ref (Z.2.2.1 0), .int x1]) (n := 2) (Nat.le_of_ble_eq_true rfl)
  rw [lg_entry_eq]
  exact wk_MM_forged hI hZ M x1 S hX ⟨Nat.le_refl _, Nat.le_refl _⟩ (fun pc H locs ls hH d => q_ri S.1 S.2.1 B.returns B.notSynchronized hH rfl rfl d) hf ⟨hP, va_S.rf⟩ hl
noncomputable def f_MM_known (M : Mem) (x1 : Int32) (x2 : Int32) : Option (Int32 × Mem) := 
    if (bI (f_MM_isParty M x1)) = 0 then some ((-1 : Int32), M) else 
    if (bI (f_MM_in x2.toInt64 (0 : Int64) (3 : Int64))) = 0 then some ((-1 : Int32), M) else 
    bnd (f_MM_runs M) (fun M2 => 
    gIn (f_MM_cell x1 x2) 32 (if (M2 19 (f_MM_cell x1 x2).toNatClampNeg) = (1000 : Int32) then some ((-2 : Int32), M2) else some (M2 19 (f_MM_cell x1 x2).toNatClampNeg, M2)))
set_option maxHeartbeats 4000000 in
theorem wk_MM_known {l : Launch} {Z : WD} (hI : wI Z) (hZ : IsM Z) (M : Mem) (x1 : Int32) (x2 : Int32) {r : Int32} {M' : Mem} {p : Program} {e : Env} {R : Room} {s : State} {m : MethodId} {args : Array Value} {below : List Frame} {meth : Method} {c : Code} {H : Heap} {locs : List Loc} {ls : Array Slot} {Q : State → Prop} (S : CallFix p m c b_MM_known 3 s args gtb R_MM) (hX : wX Z s) (hR : 6 ≤ R.frames ∧ 148 ≤ R.locals) (hQ : ∀ (pc : Nat) (H : Heap) (locs : List Loc) (ls : Array Slot), HW Z M' s H locs → decode b_MM_known pc = .ok (.ireturn, 1) → W p l e R s m args below meth c H locs 0 0 Q (F0 m pc ls [.int r])) (hf0 : f_MM_known M x1 x2 = some (r, M')) (hH : HW Z M s H locs) (hl : lv_has ls 3 [(0, .ref (Z.2.2.1 0)), (1, .int x1), (2, .int x2)]) : W p l e R s m args below meth c H locs 0 0 Q (F0 m 0 ls []) := by
  have hx := S.1
  have hb := S.2.1
  have hown := S.2.2.2.1
  have ht := S.2.2.2.2
  unfold f_MM_known at hf0
  refine lv_aload_n hx hb d_MM_known_0 rfl (lv_at hl 0 rfl) ?_
  refine lv_iload_n hx hb d_MM_known_1 rfl (lv_at hl 1 rfl) ?_
  refine q_cVi (As := [.int x1]) (rest := []) S hX hH (c_MM_isParty l hI hZ M x1 rfl) (cw_MM_197 S.2.2.2.2 (Nat.le_trans (Nat.le_of_ble_eq_true rfl) hR.1) (Nat.le_trans (Nat.le_of_ble_eq_true rfl) hR.2)) (rc_MM hX hH hZ) rfl hl.1 rfl (Nat.le_of_ble_eq_true rfl) d_MM_known_2 ⟨Nat.zero_le _, Nat.zero_le _⟩ (fun H locs hH => ?_)
  refine lv_if_eq (tgt := 20) hx hb d_MM_known_5 (by decide) (fun hc => ?_) (fun hc => ?_)
  · replace hf0 := o_t hc hf0
    refine lv_iconst (v := (-1 : Int32)) hx hb d_MM_known_20 (by decide) ?_
    obtain ⟨rfl, rfl⟩ := o_p hf0
    exact hQ _ _ _ _ hH d_MM_known_21
  · replace hf0 := o_f hc hf0
    refine lv_iload_n hx hb d_MM_known_8 rfl (lv_at hl 2 rfl) ?_
    refine lv_i2l hx hb d_MM_known_9 rfl ?_
    refine lv_lconst (v := (0 : Int64)) hx hb d_MM_known_10 (by decide) ?_
    refine lv_ldc2 (v := (3 : Int64)) hx hb hown (ht _ w5_171) d_MM_known_11 ?_
    refine q_cSi (As := [.long x2.toInt64, .long (0 : Int64), .long (3 : Int64)]) (rest := []) S hX hH (c_MM_in l hI M x2.toInt64 (0 : Int64) (3 : Int64) rfl) (cw_MM_108 S.2.2.2.2 (Nat.le_trans (Nat.le_of_ble_eq_true rfl) hR.1) (Nat.le_trans (Nat.le_of_ble_eq_true rfl) hR.2)) rfl hl.1 rfl (Nat.le_of_ble_eq_true rfl) d_MM_known_14 ⟨Nat.zero_le _, Nat.zero_le _⟩ (fun H locs hH => ?_)
    refine lv_if_ne (tgt := 22) hx hb d_MM_known_17 (by decide) (fun hc => ?_) (fun hc => ?_)
    · replace hf0 := o_f hc hf0
      refine lv_aload_n hx hb d_MM_known_22 rfl (lv_at hl 0 rfl) ?_
      obtain ⟨M2, hc1, hf0⟩ := o_b hf0
      refine q_cVv (As := []) (rest := []) S hX hH (c_MM_runs l hI hZ M hc1) (cw_MM_321 S.2.2.2.2 (Nat.le_trans (Nat.le_of_ble_eq_true rfl) hR.1) (Nat.le_trans (Nat.le_of_ble_eq_true rfl) hR.2)) (rc_MM hX hH hZ) rfl hl.1 rfl (Nat.le_of_ble_eq_true rfl) d_MM_known_23 ⟨Nat.zero_le _, Nat.zero_le _⟩ (fun H locs hH => ?_)
      refine lv_aload_n hx hb d_MM_known_26 rfl (lv_at hl 0 rfl) ?_
      refine g_MM_66 S hX hH hZ d_MM_known_27 ?_
      refine lv_iload_n hx hb d_MM_known_30 rfl (lv_at hl 1 rfl) ?_
      refine lv_iload_n hx hb d_MM_known_31 rfl (lv_at hl 2 rfl) ?_
      refine q_cSi (As := [.int x1, .int x2]) (rest := [.ref (Z.2.2.1 19)]) S hX hH (c_MM_cell l hI M2 x1 x2 rfl) (cw_MM_276 S.2.2.2.2 (Nat.le_trans (Nat.le_of_ble_eq_true rfl) hR.1) (Nat.le_trans (Nat.le_of_ble_eq_true rfl) hR.2)) rfl hl.1 rfl (Nat.le_of_ble_eq_true rfl) d_MM_known_32 ⟨Nat.zero_le _, Nat.zero_le _⟩ (fun H locs hH => ?_)
      obtain ⟨hn3, hf0⟩ := o_in hf0
      refine q_iald (j := (f_MM_cell x1 x2).toNatClampNeg) hx hb hX hH (aa_MM_19 hZ) hn3 rfl d_MM_known_35 ?_
      refine lv_sipush (v := (1000 : Int32)) hx hb d_MM_known_36 (by decide) ?_
      refine lv_icmp_ne (tgt := 47) hx hb d_MM_known_39 (by decide) (fun hc => ?_) (fun hc => ?_)
      · replace hf0 := o_f hc hf0
        refine lv_aload_n hx hb d_MM_known_47 rfl (lv_at hl 0 rfl) ?_
        refine g_MM_66 S hX hH hZ d_MM_known_48 ?_
        refine lv_iload_n hx hb d_MM_known_51 rfl (lv_at hl 1 rfl) ?_
        refine lv_iload_n hx hb d_MM_known_52 rfl (lv_at hl 2 rfl) ?_
        refine q_cSi (As := [.int x1, .int x2]) (rest := [.ref (Z.2.2.1 19)]) S hX hH (c_MM_cell l hI M2 x1 x2 rfl) (cw_MM_276 S.2.2.2.2 (Nat.le_trans (Nat.le_of_ble_eq_true rfl) hR.1) (Nat.le_trans (Nat.le_of_ble_eq_true rfl) hR.2)) rfl hl.1 rfl (Nat.le_of_ble_eq_true rfl) d_MM_known_53 ⟨Nat.zero_le _, Nat.zero_le _⟩ (fun H locs hH => ?_)
        refine q_iald (j := (f_MM_cell x1 x2).toNatClampNeg) hx hb hX hH (aa_MM_19 hZ) hn3 rfl d_MM_known_56 ?_
        obtain ⟨rfl, rfl⟩ := o_p hf0
        exact hQ _ _ _ _ hH d_MM_known_57
      · replace hf0 := o_t hc hf0
        refine lv_bipush (v := (-2 : Int32)) hx hb d_MM_known_42 (by decide) ?_
        refine lv_goto (tgt := 57) hx hb d_MM_known_44 (by decide) ?_
        obtain ⟨rfl, rfl⟩ := o_p hf0
        exact hQ _ _ _ _ hH d_MM_known_57
    · replace hf0 := o_t hc hf0
      refine lv_iconst (v := (-1 : Int32)) hx hb d_MM_known_20 (by decide) ?_
      obtain ⟨rfl, rfl⟩ := o_p hf0
      exact hQ _ _ _ _ hH d_MM_known_21
theorem c_MM_known (l : Launch) {Z : WD} (hI : wI Z) (hZ : IsM Z) (M : Mem) (x1 : Int32) (x2 : Int32) {r : Int32} {M' : Mem} (hf : f_MM_known M x1 x2 = some (r, M')) : Ci l Z y_MM_known b_MM_known 3 (some .int) 6 148 [.ref (Z.2.2.1 0), .int x1, .int x2] M M' r := by
  refine Met.ofW (cc := b_MM_known) (maxL := 3) (ret := (some .int)) (by decide) rfl ?_
  intro p e s m args below meth c s₁ B hml hv
  obtain ⟨rfl, hP, hX⟩ := hv
  have S : CallFix p m c b_MM_known 3 s ([.ref (Z.2.2.1 0), .int x1, .int x2] : List Value).toArray gtb R_MM := ⟨B.exec, B.bytes, hml, findClass_of_methodNamed B.named, fun w hw => atoms_spec (ws := .code y_MM_known b_MM_known 3 (some .int) :: gtb) B.pre w (List.mem_cons_of_mem _ hw)⟩
  have hl := lv_entry ([.ref (Z.2.2.1 0), .int x1, .int x2]) (n := 3) (Nat.le_of_ble_eq_true rfl)
  rw [lg_entry_eq]
  exact wk_MM_known hI hZ M x1 x2 S hX ⟨Nat.le_refl _, Nat.le_refl _⟩ (fun pc H locs ls hH d => q_ri S.1 S.2.1 B.returns B.notSynchronized hH rfl rfl d) hf ⟨hP, va_S.rf⟩ hl
noncomputable def f_MM_soundSet_L47 (M : Mem) (x2 : Int32) (x1 : Int32) (x3 : Int32) : Option ((Int32 × Int32) ⊕ Int32) := gIn ((7 : Int32) + x2) 302 (if (M 1 ((7 : Int32) + x2).toNatClampNeg) ≤ x3 then some (.inr x1) else 
    gIn (((f_MM_placeOf x2) + ((f_MM_wideOf x2) * x3)) + (1 : Int32)) 302 (gIn (((f_MM_placeOf x2) + ((f_MM_wideOf x2) * x3)) + (2 : Int32)) 302 (lt1 (x1 &&& ((((1 : Int32) <<< ((M 1 (((f_MM_placeOf x2) + ((f_MM_wideOf x2) * x3)) + (1 : Int32)).toNatClampNeg) &&& 31)) ^^^ (-1 : Int32)) &&& (((1 : Int32) <<< ((M 1 (((f_MM_placeOf x2) + ((f_MM_wideOf x2) * x3)) + (2 : Int32)).toNatClampNeg) &&& 31)) ^^^ (-1 : Int32)))) (fun y4 => some (.inl (y4, x3 + (1 : Int32)))))))
noncomputable def f_MM_soundSet_W47 (M : Mem) (x2 : Int32) (u : (Int32 × Int32)) : Option Int32 := loop (fun t => f_MM_soundSet_L47 M x2 t.1 t.2) u
noncomputable def f_MM_soundSet_J47 (M : Mem) (x1 : Int32) (x2 : Int32) (x3 : Int32) : Option ((Int32 × Int32) ⊕ Int32) := bnd (f_MM_soundSet_W47 M x2 (x1, x3)) (fun e47 => some (.inl (e47, x2 + (1 : Int32))))
noncomputable def f_MM_soundSet_L40 (M : Mem) (x1 : Int32) (x2 : Int32) : Option ((Int32 × Int32) ⊕ Int32) := if (3 : Int32) ≤ x2 then some (.inr x1) else f_MM_soundSet_J47 M x1 x2 (0 : Int32)
noncomputable def f_MM_soundSet_W40 (M : Mem) (u : (Int32 × Int32)) : Option Int32 := loop (fun t => f_MM_soundSet_L40 M t.1 t.2) u
noncomputable def f_MM_soundSet_J40 (M : Mem) (x1 : Int32) (x2 : Int32) : Option (Int32) := bnd (f_MM_soundSet_W40 M (x1, x2)) (fun e40 => some e40)
noncomputable def f_MM_soundSet_J30 (M : Mem) (x2 : Int32) (s0 : Int32) (s1 : Int32) : Option ((Int32 × Int32) ⊕ Int32) := some (.inl (s1 ||| s0, x2 + (1 : Int32)))
noncomputable def f_MM_soundSet_L4 (M : Mem) (x1 : Int32) (x2 : Int32) : Option ((Int32 × Int32) ⊕ Int32) := if (M 1 0) ≤ x2 then some (.inr x1) else 
    if (bI (f_MM_isLiar M x2)) = 0 then f_MM_soundSet_J30 M x2 ((1 : Int32) <<< (x2 &&& 31)) x1 else f_MM_soundSet_J30 M x2 (0 : Int32) x1
noncomputable def f_MM_soundSet_W4 (M : Mem) (u : (Int32 × Int32)) : Option Int32 := loop (fun t => f_MM_soundSet_L4 M t.1 t.2) u
noncomputable def f_MM_soundSet_J4 (M : Mem) (x1 : Int32) (x2 : Int32) : Option (Int32) := bnd (f_MM_soundSet_W4 M (x1, x2)) (fun e4 => f_MM_soundSet_J40 M e4 (1 : Int32))
noncomputable def f_MM_soundSet (M : Mem) : Option Int32 := f_MM_soundSet_J4 M (0 : Int32) (0 : Int32)
set_option maxHeartbeats 4000000 in
theorem wk_MM_soundSet {l : Launch} {Z : WD} (hI : wI Z) (hZ : IsM Z) (M : Mem) {r : Int32} {p : Program} {e : Env} {R : Room} {s : State} {m : MethodId} {args : Array Value} {below : List Frame} {meth : Method} {c : Code} {H : Heap} {locs : List Loc} {ls : Array Slot} {Q : State → Prop} (S : CallFix p m c b_MM_soundSet 5 s args gtb R_MM) (hX : wX Z s) (hR : 2 ≤ R.frames ∧ 42 ≤ R.locals) (hQ : ∀ (pc : Nat) (H : Heap) (locs : List Loc) (ls : Array Slot), HW Z M s H locs → decode b_MM_soundSet pc = .ok (.ireturn, 1) → W p l e R s m args below meth c H locs 0 0 Q (F0 m pc ls [.int r])) (hf0 : f_MM_soundSet M = some r) (hH : HW Z M s H locs) (hl : lv_has ls 5 [(0, .ref (Z.2.2.1 0))]) : W p l e R s m args below meth c H locs 0 0 Q (F0 m 0 ls []) := by
  have hx := S.1
  have hb := S.2.1
  have hown := S.2.2.2.1
  have ht := S.2.2.2.2
  unfold f_MM_soundSet at hf0
  have J40 : ∀ (x1 : Int32) (x2 : Int32) (H : Heap) (locs : List Loc) (ls : Array Slot), f_MM_soundSet_J40 M x1 x2 = some r → HW Z M s H locs → lv_has ls 5 [(0, .ref (Z.2.2.1 0)), (1, .int x1), (2, .int x2)] → W p l e R s m args below meth c H locs 0 0 Q (F0 m 40 ls []) := by
    intro x1 x2 H locs ls hf0 hH hl
    unfold f_MM_soundSet_J40 at hf0
    obtain ⟨e40, he40, hf0⟩ := o_b hf0
    unfold f_MM_soundSet_W40 at he40
    refine loop_W (fun t => ∀ (H : Heap) (locs : List Loc) (ls : Array Slot), HW Z M s H locs → lv_has ls 5 [(0, .ref (Z.2.2.1 0)), (1, .int t.1), (2, .int t.2)] → W p l e R s m args below meth c H locs 0 0 Q (F0 m 40 ls [])) ?_ he40 H locs ls hH hl
    rintro ⟨x1, x2⟩ o1 hf1 hG1 hR1 H locs ls hH hl
    replace hH : HW Z M s H locs := hH
    replace hl : lv_has ls 5 [(0, .ref (Z.2.2.1 0)), (1, .int x1), (2, .int x2)] := hl
    replace hf1 : f_MM_soundSet_L40 M x1 x2 = some o1 := hf1
    unfold f_MM_soundSet_L40 at hf1
    have J47 : ∀ (x1 : Int32) (x2 : Int32) (x3 : Int32) (H : Heap) (locs : List Loc) (ls : Array Slot), f_MM_soundSet_J47 M x1 x2 x3 = some o1 → HW Z M s H locs → lv_has ls 5 [(0, .ref (Z.2.2.1 0)), (1, .int x1), (2, .int x2), (3, .int x3)] → W p l e R s m args below meth c H locs 0 0 Q (F0 m 47 ls []) := by
      intro x1 x2 x3 H locs ls hf1 hH hl
      unfold f_MM_soundSet_J47 at hf1
      obtain ⟨e47, he47, hf1⟩ := o_b hf1
      have KX47 : ∀ (H : Heap) (locs : List Loc) (ls : Array Slot), HW Z M s H locs → lv_has ls 5 [(0, .ref (Z.2.2.1 0)), (1, .int e47), (2, .int x2)] → W p l e R s m args below meth c H locs 0 0 Q (F0 m 109 ls []) := by
        intro H locs ls hH hl
        refine lv_iinc (v := x2 + (1 : Int32)) (lv' := [(2, .int (x2 + (1 : Int32))), (0, .ref (Z.2.2.1 0)), (1, .int e47)]) hx hb d_MM_soundSet_109 hl (k := 2) rfl rfl (by decide) rfl (fun ls hl => ?_)
        refine lv_goto (tgt := 40) hx hb d_MM_soundSet_112 (by decide) ?_
        exact hG1 _ (o_v hf1).symm _ _ _ hH (lv_sub hl [1, 2, 0] rfl)
      unfold f_MM_soundSet_W47 at he47
      refine loop_W (fun t => ∀ (H : Heap) (locs : List Loc) (ls : Array Slot), HW Z M s H locs → lv_has ls 5 [(0, .ref (Z.2.2.1 0)), (1, .int t.1), (2, .int x2), (3, .int t.2)] → W p l e R s m args below meth c H locs 0 0 Q (F0 m 47 ls [])) ?_ he47 H locs ls hH hl
      rintro ⟨x1, x3⟩ o2 hf2 hG2 hR2 H locs ls hH hl
      replace hH : HW Z M s H locs := hH
      replace hl : lv_has ls 5 [(0, .ref (Z.2.2.1 0)), (1, .int x1), (2, .int x2), (3, .int x3)] := hl
      replace hf2 : f_MM_soundSet_L47 M x2 x1 x3 = some o2 := hf2
      unfold f_MM_soundSet_L47 at hf2
      refine lv_iload_n hx hb d_MM_soundSet_47 rfl (lv_at hl 3 rfl) ?_
      refine lv_aload_n hx hb d_MM_soundSet_48 rfl (lv_at hl 0 rfl) ?_
      refine g_MM_9 S hX hH hZ d_MM_soundSet_49 ?_
      refine lv_bipush (v := (7 : Int32)) hx hb d_MM_soundSet_52 (by decide) ?_
      refine lv_iload_n hx hb d_MM_soundSet_54 rfl (lv_at hl 2 rfl) ?_
      refine lv_iadd hx hb d_MM_soundSet_55 ?_
      obtain ⟨hn1, hf2⟩ := o_in hf2
      refine q_iald (j := ((7 : Int32) + x2).toNatClampNeg) hx hb hX hH (aa_MM_1 hZ) hn1 rfl d_MM_soundSet_56 ?_
      refine lv_icmp_ge (tgt := 109) hx hb d_MM_soundSet_57 (by decide) (fun hc => ?_) (fun hc => ?_)
      · replace hf2 := o_t hc hf2
        obtain rfl := hR2 _ (o_v hf2).symm
        exact KX47 _ _ _ hH (lv_sub hl [0, 1, 2] rfl)
      · replace hf2 := o_f hc hf2
        refine lv_iload_n hx hb d_MM_soundSet_60 rfl (lv_at hl 2 rfl) ?_
        refine q_cSi (As := [.int x2]) (rest := []) S hX hH (c_MM_placeOf l hI M x2 rfl) (cw_MM_234 S.2.2.2.2 (Nat.le_trans (Nat.le_of_ble_eq_true rfl) hR.1) (Nat.le_trans (Nat.le_of_ble_eq_true rfl) hR.2)) rfl hl.1 rfl (Nat.le_of_ble_eq_true rfl) d_MM_soundSet_61 ⟨Nat.zero_le _, Nat.zero_le _⟩ (fun H locs hH => ?_)
        refine lv_iload_n hx hb d_MM_soundSet_64 rfl (lv_at hl 2 rfl) ?_
        refine q_cSi (As := [.int x2]) (rest := [.int (f_MM_placeOf x2)]) S hX hH (c_MM_wideOf l hI M x2 rfl) (cw_MM_231 S.2.2.2.2 (Nat.le_trans (Nat.le_of_ble_eq_true rfl) hR.1) (Nat.le_trans (Nat.le_of_ble_eq_true rfl) hR.2)) rfl hl.1 rfl (Nat.le_of_ble_eq_true rfl) d_MM_soundSet_65 ⟨Nat.zero_le _, Nat.zero_le _⟩ (fun H locs hH => ?_)
        refine lv_iload_n hx hb d_MM_soundSet_68 rfl (lv_at hl 3 rfl) ?_
        refine lv_imul hx hb d_MM_soundSet_69 ?_
        refine lv_iadd hx hb d_MM_soundSet_70 ?_
        refine lv_istore (lv' := [(4, .int ((f_MM_placeOf x2) + ((f_MM_wideOf x2) * x3))), (0, .ref (Z.2.2.1 0)), (1, .int x1), (2, .int x2), (3, .int x3)]) hx hb d_MM_soundSet_71 hl (by decide) rfl (fun ls hl => ?_)
        refine lv_iload_n hx hb d_MM_soundSet_73 rfl (lv_at hl 2 rfl) ?_
        refine lv_iconst (v := (1 : Int32)) hx hb d_MM_soundSet_74 (by decide) ?_
        refine lv_aload_n hx hb d_MM_soundSet_75 rfl (lv_at hl 1 rfl) ?_
        refine g_MM_9 S hX hH hZ d_MM_soundSet_76 ?_
        refine lv_iload hx hb d_MM_soundSet_79 (lv_at hl 0 rfl) ?_
        refine lv_iconst (v := (1 : Int32)) hx hb d_MM_soundSet_81 (by decide) ?_
        refine lv_iadd hx hb d_MM_soundSet_82 ?_
        obtain ⟨hn2, hf2⟩ := o_in hf2
        refine q_iald (j := (((f_MM_placeOf x2) + ((f_MM_wideOf x2) * x3)) + (1 : Int32)).toNatClampNeg) hx hb hX hH (aa_MM_1 hZ) hn2 rfl d_MM_soundSet_83 ?_
        refine lv_ishl hx hb d_MM_soundSet_84 ?_
        refine lv_iconst (v := (-1 : Int32)) hx hb d_MM_soundSet_85 (by decide) ?_
        refine lv_ixor hx hb d_MM_soundSet_86 ?_
        refine lv_iconst (v := (1 : Int32)) hx hb d_MM_soundSet_87 (by decide) ?_
        refine lv_aload_n hx hb d_MM_soundSet_88 rfl (lv_at hl 1 rfl) ?_
        refine g_MM_9 S hX hH hZ d_MM_soundSet_89 ?_
        refine lv_iload hx hb d_MM_soundSet_92 (lv_at hl 0 rfl) ?_
        refine lv_iconst (v := (2 : Int32)) hx hb d_MM_soundSet_94 (by decide) ?_
        refine lv_iadd hx hb d_MM_soundSet_95 ?_
        obtain ⟨hn3, hf2⟩ := o_in hf2
        refine q_iald (j := (((f_MM_placeOf x2) + ((f_MM_wideOf x2) * x3)) + (2 : Int32)).toNatClampNeg) hx hb hX hH (aa_MM_1 hZ) hn3 rfl d_MM_soundSet_96 ?_
        refine lv_ishl hx hb d_MM_soundSet_97 ?_
        refine lv_iconst (v := (-1 : Int32)) hx hb d_MM_soundSet_98 (by decide) ?_
        refine lv_ixor hx hb d_MM_soundSet_99 ?_
        refine lv_iand hx hb d_MM_soundSet_100 ?_
        refine lv_iand hx hb d_MM_soundSet_101 ?_
        obtain ⟨y4, hy4, hf2⟩ := o_l hf2
        refine lv_nm hy4 ?_
        refine lv_istore_n (lv' := [(1, .int y4), (4, .int ((f_MM_placeOf x2) + ((f_MM_wideOf x2) * x3))), (0, .ref (Z.2.2.1 0)), (2, .int x2), (3, .int x3)]) hx hb d_MM_soundSet_102 rfl hl (by decide) rfl (fun ls hl => ?_)
        refine lv_iinc (v := x3 + (1 : Int32)) (lv' := [(3, .int (x3 + (1 : Int32))), (1, .int y4), (4, .int ((f_MM_placeOf x2) + ((f_MM_wideOf x2) * x3))), (0, .ref (Z.2.2.1 0)), (2, .int x2)]) hx hb d_MM_soundSet_103 hl (k := 4) rfl rfl (by decide) rfl (fun ls hl => ?_)
        refine lv_goto (tgt := 47) hx hb d_MM_soundSet_106 (by decide) ?_
        exact hG2 _ (o_v hf2).symm _ _ _ hH (lv_sub hl [3, 1, 4, 0] rfl)
    refine lv_iload_n hx hb d_MM_soundSet_40 rfl (lv_at hl 2 rfl) ?_
    refine lv_iconst (v := (3 : Int32)) hx hb d_MM_soundSet_41 (by decide) ?_
    refine lv_icmp_ge (tgt := 115) hx hb d_MM_soundSet_42 (by decide) (fun hc => ?_) (fun hc => ?_)
    · replace hf1 := o_t hc hf1
      refine lv_iload_n hx hb d_MM_soundSet_115 rfl (lv_at hl 1 rfl) ?_
      obtain rfl := hR1 _ (o_v hf1).symm
      obtain rfl := o_v hf0
      exact hQ _ _ _ _ hH d_MM_soundSet_116
    · replace hf1 := o_f hc hf1
      refine lv_iconst (v := (0 : Int32)) hx hb d_MM_soundSet_45 (by decide) ?_
      refine lv_istore_n (lv' := [(3, .int (0 : Int32)), (0, .ref (Z.2.2.1 0)), (1, .int x1), (2, .int x2)]) hx hb d_MM_soundSet_46 rfl hl (by decide) rfl (fun ls hl => ?_)
      exact J47 _ _ _ _ _ _ hf1 hH (lv_sub hl [1, 2, 3, 0] rfl)
  have J4 : ∀ (x1 : Int32) (x2 : Int32) (H : Heap) (locs : List Loc) (ls : Array Slot), f_MM_soundSet_J4 M x1 x2 = some r → HW Z M s H locs → lv_has ls 5 [(0, .ref (Z.2.2.1 0)), (1, .int x1), (2, .int x2)] → W p l e R s m args below meth c H locs 0 0 Q (F0 m 4 ls []) := by
    intro x1 x2 H locs ls hf0 hH hl
    unfold f_MM_soundSet_J4 at hf0
    obtain ⟨e4, he4, hf0⟩ := o_b hf0
    have KX4 : ∀ (H : Heap) (locs : List Loc) (ls : Array Slot), HW Z M s H locs → lv_has ls 5 [(0, .ref (Z.2.2.1 0)), (1, .int e4)] → W p l e R s m args below meth c H locs 0 0 Q (F0 m 38 ls []) := by
      intro H locs ls hH hl
      refine lv_iconst (v := (1 : Int32)) hx hb d_MM_soundSet_38 (by decide) ?_
      refine lv_istore_n (lv' := [(2, .int (1 : Int32)), (0, .ref (Z.2.2.1 0)), (1, .int e4)]) hx hb d_MM_soundSet_39 rfl hl (by decide) rfl (fun ls hl => ?_)
      exact J40 _ _ _ _ _ hf0 hH (lv_sub hl [1, 2, 0] rfl)
    unfold f_MM_soundSet_W4 at he4
    refine loop_W (fun t => ∀ (H : Heap) (locs : List Loc) (ls : Array Slot), HW Z M s H locs → lv_has ls 5 [(0, .ref (Z.2.2.1 0)), (1, .int t.1), (2, .int t.2)] → W p l e R s m args below meth c H locs 0 0 Q (F0 m 4 ls [])) ?_ he4 H locs ls hH hl
    rintro ⟨x1, x2⟩ o1 hf1 hG1 hR1 H locs ls hH hl
    replace hH : HW Z M s H locs := hH
    replace hl : lv_has ls 5 [(0, .ref (Z.2.2.1 0)), (1, .int x1), (2, .int x2)] := hl
    replace hf1 : f_MM_soundSet_L4 M x1 x2 = some o1 := hf1
    unfold f_MM_soundSet_L4 at hf1
    have J30 : ∀ (x2 : Int32) (s0 : Int32) (s1 : Int32) (H : Heap) (locs : List Loc) (ls : Array Slot), f_MM_soundSet_J30 M x2 s0 s1 = some o1 → HW Z M s H locs → lv_has ls 5 [(0, .ref (Z.2.2.1 0)), (2, .int x2)] → W p l e R s m args below meth c H locs 0 0 Q (F0 m 30 ls [.int s0, .int s1]) := by
      intro x2 s0 s1 H locs ls hf1 hH hl
      unfold f_MM_soundSet_J30 at hf1
      refine lv_ior hx hb d_MM_soundSet_30 ?_
      refine lv_istore_n (lv' := [(1, .int (s1 ||| s0)), (0, .ref (Z.2.2.1 0)), (2, .int x2)]) hx hb d_MM_soundSet_31 rfl hl (by decide) rfl (fun ls hl => ?_)
      refine lv_iinc (v := x2 + (1 : Int32)) (lv' := [(2, .int (x2 + (1 : Int32))), (1, .int (s1 ||| s0)), (0, .ref (Z.2.2.1 0))]) hx hb d_MM_soundSet_32 hl (k := 2) rfl rfl (by decide) rfl (fun ls hl => ?_)
      refine lv_goto (tgt := 4) hx hb d_MM_soundSet_35 (by decide) ?_
      exact hG1 _ (o_v hf1).symm _ _ _ hH (lv_sub hl [2, 1, 0] rfl)
    refine lv_iload_n hx hb d_MM_soundSet_4 rfl (lv_at hl 2 rfl) ?_
    refine lv_aload_n hx hb d_MM_soundSet_5 rfl (lv_at hl 0 rfl) ?_
    refine g_MM_9 S hX hH hZ d_MM_soundSet_6 ?_
    refine lv_iconst (v := (0 : Int32)) hx hb d_MM_soundSet_9 (by decide) ?_
    refine q_iald (j := 0) hx hb hX hH (aa_MM_1 hZ) (vp_c (by decide)) (by decide) d_MM_soundSet_10 ?_
    refine lv_icmp_ge (tgt := 38) hx hb d_MM_soundSet_11 (by decide) (fun hc => ?_) (fun hc => ?_)
    · replace hf1 := o_t hc hf1
      obtain rfl := hR1 _ (o_v hf1).symm
      exact KX4 _ _ _ hH (lv_sub hl [0, 1] rfl)
    · replace hf1 := o_f hc hf1
      refine lv_iload_n hx hb d_MM_soundSet_14 rfl (lv_at hl 1 rfl) ?_
      refine lv_aload_n hx hb d_MM_soundSet_15 rfl (lv_at hl 0 rfl) ?_
      refine lv_iload_n hx hb d_MM_soundSet_16 rfl (lv_at hl 2 rfl) ?_
      refine q_cVi (As := [.int x2]) (rest := [.int x1]) S hX hH (c_MM_isLiar l hI hZ M x2 rfl) (cw_MM_205 S.2.2.2.2 (Nat.le_trans (Nat.le_of_ble_eq_true rfl) hR.1) (Nat.le_trans (Nat.le_of_ble_eq_true rfl) hR.2)) (rc_MM hX hH hZ) rfl hl.1 rfl (Nat.le_of_ble_eq_true rfl) d_MM_soundSet_17 ⟨Nat.zero_le _, Nat.zero_le _⟩ (fun H locs hH => ?_)
      refine lv_if_eq (tgt := 27) hx hb d_MM_soundSet_20 (by decide) (fun hc => ?_) (fun hc => ?_)
      · replace hf1 := o_t hc hf1
        refine lv_iconst (v := (1 : Int32)) hx hb d_MM_soundSet_27 (by decide) ?_
        refine lv_iload_n hx hb d_MM_soundSet_28 rfl (lv_at hl 2 rfl) ?_
        refine lv_ishl hx hb d_MM_soundSet_29 ?_
        exact J30 _ _ _ _ _ _ hf1 hH (lv_sub hl [0, 2] rfl)
      · replace hf1 := o_f hc hf1
        refine lv_iconst (v := (0 : Int32)) hx hb d_MM_soundSet_23 (by decide) ?_
        refine lv_goto (tgt := 30) hx hb d_MM_soundSet_24 (by decide) ?_
        exact J30 _ _ _ _ _ _ hf1 hH (lv_sub hl [0, 2] rfl)
  refine lv_iconst (v := (0 : Int32)) hx hb d_MM_soundSet_0 (by decide) ?_
  refine lv_istore_n (lv' := [(1, .int (0 : Int32)), (0, .ref (Z.2.2.1 0))]) hx hb d_MM_soundSet_1 rfl hl (by decide) rfl (fun ls hl => ?_)
  refine lv_iconst (v := (0 : Int32)) hx hb d_MM_soundSet_2 (by decide) ?_
  refine lv_istore_n (lv' := [(2, .int (0 : Int32)), (1, .int (0 : Int32)), (0, .ref (Z.2.2.1 0))]) hx hb d_MM_soundSet_3 rfl hl (by decide) rfl (fun ls hl => ?_)
  exact J4 _ _ _ _ _ hf0 hH (lv_sub hl [2, 1, 0] rfl)
theorem c_MM_soundSet (l : Launch) {Z : WD} (hI : wI Z) (hZ : IsM Z) (M : Mem) {r : Int32} (hf : f_MM_soundSet M = some r) : Ci l Z y_MM_soundSet b_MM_soundSet 5 (some .int) 2 42 [.ref (Z.2.2.1 0)] M M r := by
  refine Met.ofW (cc := b_MM_soundSet) (maxL := 5) (ret := (some .int)) (by decide) rfl ?_
  intro p e s m args below meth c s₁ B hml hv
  obtain ⟨rfl, hP, hX⟩ := hv
  have S : CallFix p m c b_MM_soundSet 5 s ([.ref (Z.2.2.1 0)] : List Value).toArray gtb R_MM := ⟨B.exec, B.bytes, hml, findClass_of_methodNamed B.named, fun w hw => atoms_spec (ws := .code y_MM_soundSet b_MM_soundSet 5 (some .int) :: gtb) B.pre w (List.mem_cons_of_mem _ hw)⟩
  have hl := lv_entry ([.ref (Z.2.2.1 0)]) (n := 5) (Nat.le_of_ble_eq_true rfl)
  rw [lg_entry_eq]
  exact wk_MM_soundSet hI hZ M S hX ⟨Nat.le_refl _, Nat.le_refl _⟩ (fun pc H locs ls hH d => q_ri S.1 S.2.1 B.returns B.notSynchronized hH rfl rfl d) hf ⟨hP, va_S.rf⟩ hl
noncomputable def f_MM_decideAlike_J41 (M : Mem) (x1 : Int32) (x3 : Int32) : Option ((Int32 × Int32) ⊕ Bool) := bnd (f_MM_decisionOf M x3) (fun y2 => some (.inl (y2, x3 + (1 : Int32))))
noncomputable def f_MM_decideAlike_L4 (M : Mem) (x1 : Int32) (x2 : Int32) (x3 : Int32) : Option ((Int32 × Int32) ⊕ Bool) := if (M 1 0) ≤ x3 then some (.inr true) else 
    if (bI (f_MM_has x1 x3)) = 0 then some (.inl (x2, x3 + (1 : Int32))) else 
    if x2 = (-1 : Int32) then f_MM_decideAlike_J41 M x1 x3 else 
    bnd (f_MM_decisionOf M x3) (fun y4 => if y4 = x2 then f_MM_decideAlike_J41 M x1 x3 else some (.inr false))
noncomputable def f_MM_decideAlike_W4 (M : Mem) (x1 : Int32) (u : (Int32 × Int32)) : Option Bool := loop (fun t => f_MM_decideAlike_L4 M x1 t.1 t.2) u
noncomputable def f_MM_decideAlike_J4 (M : Mem) (x1 : Int32) (x2 : Int32) (x3 : Int32) : Option (Bool) := bnd (f_MM_decideAlike_W4 M x1 (x2, x3)) (fun e4 => some e4)
noncomputable def f_MM_decideAlike (M : Mem) (x1 : Int32) : Option Bool := f_MM_decideAlike_J4 M x1 (-1 : Int32) (0 : Int32)
set_option maxHeartbeats 4000000 in
theorem wk_MM_decideAlike {l : Launch} {Z : WD} (hI : wI Z) (hZ : IsM Z) (M : Mem) (x1 : Int32) {r : Bool} {p : Program} {e : Env} {R : Room} {s : State} {m : MethodId} {args : Array Value} {below : List Frame} {meth : Method} {c : Code} {H : Heap} {locs : List Loc} {ls : Array Slot} {Q : State → Prop} (S : CallFix p m c b_MM_decideAlike 4 s args gtb R_MM) (hX : wX Z s) (hR : 3 ≤ R.frames ∧ 67 ≤ R.locals) (hQ : ∀ (pc : Nat) (H : Heap) (locs : List Loc) (ls : Array Slot), HW Z M s H locs → decode b_MM_decideAlike pc = .ok (.ireturn, 1) → W p l e R s m args below meth c H locs 0 0 Q (F0 m pc ls [.int (bI r)])) (hf0 : f_MM_decideAlike M x1 = some r) (hH : HW Z M s H locs) (hl : lv_has ls 4 [(0, .ref (Z.2.2.1 0)), (1, .int x1)]) : W p l e R s m args below meth c H locs 0 0 Q (F0 m 0 ls []) := by
  have hx := S.1
  have hb := S.2.1
  have hown := S.2.2.2.1
  have ht := S.2.2.2.2
  unfold f_MM_decideAlike at hf0
  have J4 : ∀ (x1 : Int32) (x2 : Int32) (x3 : Int32) (H : Heap) (locs : List Loc) (ls : Array Slot), f_MM_decideAlike_J4 M x1 x2 x3 = some r → HW Z M s H locs → lv_has ls 4 [(0, .ref (Z.2.2.1 0)), (1, .int x1), (2, .int x2), (3, .int x3)] → W p l e R s m args below meth c H locs 0 0 Q (F0 m 4 ls []) := by
    intro x1 x2 x3 H locs ls hf0 hH hl
    unfold f_MM_decideAlike_J4 at hf0
    obtain ⟨e4, he4, hf0⟩ := o_b hf0
    unfold f_MM_decideAlike_W4 at he4
    refine loop_W (fun t => ∀ (H : Heap) (locs : List Loc) (ls : Array Slot), HW Z M s H locs → lv_has ls 4 [(0, .ref (Z.2.2.1 0)), (1, .int x1), (2, .int t.1), (3, .int t.2)] → W p l e R s m args below meth c H locs 0 0 Q (F0 m 4 ls [])) ?_ he4 H locs ls hH hl
    rintro ⟨x2, x3⟩ o1 hf1 hG1 hR1 H locs ls hH hl
    replace hH : HW Z M s H locs := hH
    replace hl : lv_has ls 4 [(0, .ref (Z.2.2.1 0)), (1, .int x1), (2, .int x2), (3, .int x3)] := hl
    replace hf1 : f_MM_decideAlike_L4 M x1 x2 x3 = some o1 := hf1
    unfold f_MM_decideAlike_L4 at hf1
    have J41 : ∀ (x3 : Int32) (H : Heap) (locs : List Loc) (ls : Array Slot), f_MM_decideAlike_J41 M x1 x3 = some o1 → HW Z M s H locs → lv_has ls 4 [(0, .ref (Z.2.2.1 0)), (1, .int x1), (3, .int x3)] → W p l e R s m args below meth c H locs 0 0 Q (F0 m 41 ls []) := by
      intro x3 H locs ls hf1 hH hl
      unfold f_MM_decideAlike_J41 at hf1
      refine lv_aload_n hx hb d_MM_decideAlike_41 rfl (lv_at hl 0 rfl) ?_
      refine lv_iload_n hx hb d_MM_decideAlike_42 rfl (lv_at hl 2 rfl) ?_
      obtain ⟨y2, hc1, hf1⟩ := o_b hf1
      refine q_cVi (As := [.int x3]) (rest := []) S hX hH (c_MM_decisionOf l hI hZ M x3 hc1) (cw_MM_318 S.2.2.2.2 (Nat.le_trans (Nat.le_of_ble_eq_true rfl) hR.1) (Nat.le_trans (Nat.le_of_ble_eq_true rfl) hR.2)) (rc_MM hX hH hZ) rfl hl.1 rfl (Nat.le_of_ble_eq_true rfl) d_MM_decideAlike_43 ⟨Nat.zero_le _, Nat.zero_le _⟩ (fun H locs hH => ?_)
      refine lv_istore_n (lv' := [(2, .int y2), (0, .ref (Z.2.2.1 0)), (1, .int x1), (3, .int x3)]) hx hb d_MM_decideAlike_46 rfl hl (by decide) rfl (fun ls hl => ?_)
      refine lv_iinc (v := x3 + (1 : Int32)) (lv' := [(3, .int (x3 + (1 : Int32))), (2, .int y2), (0, .ref (Z.2.2.1 0)), (1, .int x1)]) hx hb d_MM_decideAlike_47 hl (k := 3) rfl rfl (by decide) rfl (fun ls hl => ?_)
      refine lv_goto (tgt := 4) hx hb d_MM_decideAlike_50 (by decide) ?_
      exact hG1 _ (o_v hf1).symm _ _ _ hH (lv_sub hl [2, 3, 1, 0] rfl)
    refine lv_iload_n hx hb d_MM_decideAlike_4 rfl (lv_at hl 3 rfl) ?_
    refine lv_aload_n hx hb d_MM_decideAlike_5 rfl (lv_at hl 0 rfl) ?_
    refine g_MM_9 S hX hH hZ d_MM_decideAlike_6 ?_
    refine lv_iconst (v := (0 : Int32)) hx hb d_MM_decideAlike_9 (by decide) ?_
    refine q_iald (j := 0) hx hb hX hH (aa_MM_1 hZ) (vp_c (by decide)) (by decide) d_MM_decideAlike_10 ?_
    refine lv_icmp_ge (tgt := 53) hx hb d_MM_decideAlike_11 (by decide) (fun hc => ?_) (fun hc => ?_)
    · replace hf1 := o_t hc hf1
      refine lv_iconst (v := (1 : Int32)) hx hb d_MM_decideAlike_53 (by decide) ?_
      obtain rfl := hR1 _ (o_v hf1).symm
      obtain rfl := o_v hf0
      exact hQ _ _ _ _ hH d_MM_decideAlike_54
    · replace hf1 := o_f hc hf1
      refine lv_iload_n hx hb d_MM_decideAlike_14 rfl (lv_at hl 1 rfl) ?_
      refine lv_iload_n hx hb d_MM_decideAlike_15 rfl (lv_at hl 3 rfl) ?_
      refine q_cSi (As := [.int x1, .int x3]) (rest := []) S hX hH (c_MM_has l hI M x1 x3 rfl) (cw_MM_201 S.2.2.2.2 (Nat.le_trans (Nat.le_of_ble_eq_true rfl) hR.1) (Nat.le_trans (Nat.le_of_ble_eq_true rfl) hR.2)) rfl hl.1 rfl (Nat.le_of_ble_eq_true rfl) d_MM_decideAlike_16 ⟨Nat.zero_le _, Nat.zero_le _⟩ (fun H locs hH => ?_)
      refine lv_if_ne (tgt := 25) hx hb d_MM_decideAlike_19 (by decide) (fun hc => ?_) (fun hc => ?_)
      · replace hf1 := o_f hc hf1
        refine lv_iload_n hx hb d_MM_decideAlike_25 rfl (lv_at hl 2 rfl) ?_
        refine lv_iconst (v := (-1 : Int32)) hx hb d_MM_decideAlike_26 (by decide) ?_
        refine lv_icmp_eq (tgt := 41) hx hb d_MM_decideAlike_27 (by decide) (fun hc => ?_) (fun hc => ?_)
        · replace hf1 := o_t hc hf1
          exact J41 _ _ _ _ hf1 hH (lv_sub hl [0, 1, 3] rfl)
        · replace hf1 := o_f hc hf1
          refine lv_aload_n hx hb d_MM_decideAlike_30 rfl (lv_at hl 0 rfl) ?_
          refine lv_iload_n hx hb d_MM_decideAlike_31 rfl (lv_at hl 3 rfl) ?_
          obtain ⟨y4, hc3, hf1⟩ := o_b hf1
          refine q_cVi (As := [.int x3]) (rest := []) S hX hH (c_MM_decisionOf l hI hZ M x3 hc3) (cw_MM_318 S.2.2.2.2 (Nat.le_trans (Nat.le_of_ble_eq_true rfl) hR.1) (Nat.le_trans (Nat.le_of_ble_eq_true rfl) hR.2)) (rc_MM hX hH hZ) rfl hl.1 rfl (Nat.le_of_ble_eq_true rfl) d_MM_decideAlike_32 ⟨Nat.zero_le _, Nat.zero_le _⟩ (fun H locs hH => ?_)
          refine lv_iload_n hx hb d_MM_decideAlike_35 rfl (lv_at hl 2 rfl) ?_
          refine lv_icmp_eq (tgt := 41) hx hb d_MM_decideAlike_36 (by decide) (fun hc => ?_) (fun hc => ?_)
          · replace hf1 := o_t hc hf1
            exact J41 _ _ _ _ hf1 hH (lv_sub hl [0, 1, 3] rfl)
          · replace hf1 := o_f hc hf1
            refine lv_iconst (v := (0 : Int32)) hx hb d_MM_decideAlike_39 (by decide) ?_
            obtain rfl := hR1 _ (o_v hf1).symm
            obtain rfl := o_v hf0
            exact hQ _ _ _ _ hH d_MM_decideAlike_40
      · replace hf1 := o_t hc hf1
        refine lv_goto (tgt := 47) hx hb d_MM_decideAlike_22 (by decide) ?_
        refine lv_iinc (v := x3 + (1 : Int32)) (lv' := [(3, .int (x3 + (1 : Int32))), (0, .ref (Z.2.2.1 0)), (1, .int x1), (2, .int x2)]) hx hb d_MM_decideAlike_47 hl (k := 3) rfl rfl (by decide) rfl (fun ls hl => ?_)
        refine lv_goto (tgt := 4) hx hb d_MM_decideAlike_50 (by decide) ?_
        exact hG1 _ (o_v hf1).symm _ _ _ hH (lv_sub hl [1, 2, 3, 0] rfl)
  refine lv_iconst (v := (-1 : Int32)) hx hb d_MM_decideAlike_0 (by decide) ?_
  refine lv_istore_n (lv' := [(2, .int (-1 : Int32)), (0, .ref (Z.2.2.1 0)), (1, .int x1)]) hx hb d_MM_decideAlike_1 rfl hl (by decide) rfl (fun ls hl => ?_)
  refine lv_iconst (v := (0 : Int32)) hx hb d_MM_decideAlike_2 (by decide) ?_
  refine lv_istore_n (lv' := [(3, .int (0 : Int32)), (2, .int (-1 : Int32)), (0, .ref (Z.2.2.1 0)), (1, .int x1)]) hx hb d_MM_decideAlike_3 rfl hl (by decide) rfl (fun ls hl => ?_)
  exact J4 _ _ _ _ _ _ hf0 hH (lv_sub hl [2, 3, 1, 0] rfl)
theorem c_MM_decideAlike (l : Launch) {Z : WD} (hI : wI Z) (hZ : IsM Z) (M : Mem) (x1 : Int32) {r : Bool} (hf : f_MM_decideAlike M x1 = some r) : Ci l Z y_MM_decideAlike b_MM_decideAlike 4 (some .boolean) 3 67 [.ref (Z.2.2.1 0), .int x1] M M (bI r) := by
  refine Met.ofW (cc := b_MM_decideAlike) (maxL := 4) (ret := (some .boolean)) (by decide) rfl ?_
  intro p e s m args below meth c s₁ B hml hv
  obtain ⟨rfl, hP, hX⟩ := hv
  have S : CallFix p m c b_MM_decideAlike 4 s ([.ref (Z.2.2.1 0), .int x1] : List Value).toArray gtb R_MM := ⟨B.exec, B.bytes, hml, findClass_of_methodNamed B.named, fun w hw => atoms_spec (ws := .code y_MM_decideAlike b_MM_decideAlike 4 (some .boolean) :: gtb) B.pre w (List.mem_cons_of_mem _ hw)⟩
  have hl := lv_entry ([.ref (Z.2.2.1 0), .int x1]) (n := 4) (Nat.le_of_ble_eq_true rfl)
  rw [lg_entry_eq]
  exact wk_MM_decideAlike hI hZ M x1 S hX ⟨Nat.le_refl _, Nat.le_refl _⟩ (fun pc H locs ls hH d => q_rz S.1 S.2.1 B.returns B.notSynchronized hH rfl rfl d) hf ⟨hP, va_S.rf⟩ hl
theorem cw_MM_332 {R : Room} {s : State} {args : Array Value} (ht : ∀ w ∈ gtb, w.before args s = true) (h1 : 2 + 1 ≤ R.frames) (h2 : 8 + (5 + 11) + 42 ≤ R.locals) : CallW R s args R_MM R_MM 332 y_MM_soundSet b_MM_soundSet 5 (some .int) (.code y_MM_soundSet b_MM_soundSet 5 (some .int) :: gtb) { frames := 2, cells := 0, slots := 0, locals := 42 } 0 0 0 := cwV 0 ht (gV w6_114 w6_116 ws_MM_soundSet w1_10 w6_117) rfl rfl rfl ⟨rfl, by decide, by decide, by decide +kernel⟩ ⟨h1, h2⟩
theorem cw_MM_335 {R : Room} {s : State} {args : Array Value} (ht : ∀ w ∈ gtb, w.before args s = true) (h1 : 3 + 1 ≤ R.frames) (h2 : 8 + (4 + 11) + 67 ≤ R.locals) : CallW R s args R_MM R_MM 335 y_MM_decideAlike b_MM_decideAlike 4 (some .boolean) (.code y_MM_decideAlike b_MM_decideAlike 4 (some .boolean) :: gtb) { frames := 3, cells := 0, slots := 0, locals := 67 } 0 0 1 := cwV 1 ht (gV w6_118 w6_120 ws_MM_decideAlike w1_10 w6_121) rfl rfl rfl ⟨rfl, by decide, by decide, by decide +kernel⟩ ⟨h1, h2⟩
noncomputable def f_MM_alike (M : Mem) : Option (Int32 × Mem) := 
    bnd (f_MM_runs M) (fun M2 => 
    bnd (f_MM_soundSet M2) (fun y4 => bnd (f_MM_decideAlike M2 y4) (fun y6 => some (f_MM_truth (bI y6), M2))))
set_option maxHeartbeats 4000000 in
theorem wk_MM_alike {l : Launch} {Z : WD} (hI : wI Z) (hZ : IsM Z) (M : Mem) {r : Int32} {M' : Mem} {p : Program} {e : Env} {R : Room} {s : State} {m : MethodId} {args : Array Value} {below : List Frame} {meth : Method} {c : Code} {H : Heap} {locs : List Loc} {ls : Array Slot} {Q : State → Prop} (S : CallFix p m c b_MM_alike 1 s args gtb R_MM) (hX : wX Z s) (hR : 6 ≤ R.frames ∧ 148 ≤ R.locals) (hQ : ∀ (pc : Nat) (H : Heap) (locs : List Loc) (ls : Array Slot), HW Z M' s H locs → decode b_MM_alike pc = .ok (.ireturn, 1) → W p l e R s m args below meth c H locs 0 0 Q (F0 m pc ls [.int r])) (hf0 : f_MM_alike M = some (r, M')) (hH : HW Z M s H locs) (hl : lv_has ls 1 [(0, .ref (Z.2.2.1 0))]) : W p l e R s m args below meth c H locs 0 0 Q (F0 m 0 ls []) := by
  have hx := S.1
  have hb := S.2.1
  have hown := S.2.2.2.1
  have ht := S.2.2.2.2
  unfold f_MM_alike at hf0
  refine lv_aload_n hx hb d_MM_alike_0 rfl (lv_at hl 0 rfl) ?_
  obtain ⟨M2, hc1, hf0⟩ := o_b hf0
  refine q_cVv (As := []) (rest := []) S hX hH (c_MM_runs l hI hZ M hc1) (cw_MM_321 S.2.2.2.2 (Nat.le_trans (Nat.le_of_ble_eq_true rfl) hR.1) (Nat.le_trans (Nat.le_of_ble_eq_true rfl) hR.2)) (rc_MM hX hH hZ) rfl hl.1 rfl (Nat.le_of_ble_eq_true rfl) d_MM_alike_1 ⟨Nat.zero_le _, Nat.zero_le _⟩ (fun H locs hH => ?_)
  refine lv_aload_n hx hb d_MM_alike_4 rfl (lv_at hl 0 rfl) ?_
  refine lv_aload_n hx hb d_MM_alike_5 rfl (lv_at hl 0 rfl) ?_
  obtain ⟨y4, hc3, hf0⟩ := o_b hf0
  refine q_cVi (As := []) (rest := [.ref (Z.2.2.1 0)]) S hX hH (c_MM_soundSet l hI hZ M2 hc3) (cw_MM_332 S.2.2.2.2 (Nat.le_trans (Nat.le_of_ble_eq_true rfl) hR.1) (Nat.le_trans (Nat.le_of_ble_eq_true rfl) hR.2)) (rc_MM hX hH hZ) rfl hl.1 rfl (Nat.le_of_ble_eq_true rfl) d_MM_alike_6 ⟨Nat.zero_le _, Nat.zero_le _⟩ (fun H locs hH => ?_)
  obtain ⟨y6, hc5, hf0⟩ := o_b hf0
  refine q_cVi (As := [.int y4]) (rest := []) S hX hH (c_MM_decideAlike l hI hZ M2 y4 hc5) (cw_MM_335 S.2.2.2.2 (Nat.le_trans (Nat.le_of_ble_eq_true rfl) hR.1) (Nat.le_trans (Nat.le_of_ble_eq_true rfl) hR.2)) (rc_MM hX hH hZ) rfl hl.1 rfl (Nat.le_of_ble_eq_true rfl) d_MM_alike_9 ⟨Nat.zero_le _, Nat.zero_le _⟩ (fun H locs hH => ?_)
  refine q_cSi (As := [.int (bI y6)]) (rest := []) S hX hH (c_MM_truth l hI M2 (bI y6) rfl) (cw_MM_150 S.2.2.2.2 (Nat.le_trans (Nat.le_of_ble_eq_true rfl) hR.1) (Nat.le_trans (Nat.le_of_ble_eq_true rfl) hR.2)) rfl hl.1 rfl (Nat.le_of_ble_eq_true rfl) d_MM_alike_12 ⟨Nat.zero_le _, Nat.zero_le _⟩ (fun H locs hH => ?_)
  obtain ⟨rfl, rfl⟩ := o_p hf0
  exact hQ _ _ _ _ hH d_MM_alike_15
theorem c_MM_alike (l : Launch) {Z : WD} (hI : wI Z) (hZ : IsM Z) (M : Mem) {r : Int32} {M' : Mem} (hf : f_MM_alike M = some (r, M')) : Ci l Z y_MM_alike b_MM_alike 1 (some .int) 6 148 [.ref (Z.2.2.1 0)] M M' r := by
  refine Met.ofW (cc := b_MM_alike) (maxL := 1) (ret := (some .int)) (by decide) rfl ?_
  intro p e s m args below meth c s₁ B hml hv
  obtain ⟨rfl, hP, hX⟩ := hv
  have S : CallFix p m c b_MM_alike 1 s ([.ref (Z.2.2.1 0)] : List Value).toArray gtb R_MM := ⟨B.exec, B.bytes, hml, findClass_of_methodNamed B.named, fun w hw => atoms_spec (ws := .code y_MM_alike b_MM_alike 1 (some .int) :: gtb) B.pre w (List.mem_cons_of_mem _ hw)⟩
  have hl := lv_entry ([.ref (Z.2.2.1 0)]) (n := 1) (Nat.le_of_ble_eq_true rfl)
  rw [lg_entry_eq]
  exact wk_MM_alike hI hZ M S hX ⟨Nat.le_refl _, Nat.le_refl _⟩ (fun pc H locs ls hH d => q_ri S.1 S.2.1 B.returns B.notSynchronized hH rfl rfl d) hf ⟨hP, va_S.rf⟩ hl
noncomputable def f_MM_valid_L35 (M : Mem) (x1 : Int32) (x2 : Int32) : Option (Int32 ⊕ (Int32 × Mem)) := if (M 1 0) ≤ x2 then some (.inr ((1 : Int32), M)) else 
    if (bI (f_MM_has x1 x2)) = 0 then some (.inl (x2 + (1 : Int32))) else 
    bnd (f_MM_decisionOf M x2) (fun y2 => if y2 = (M 1 2) then some (.inl (x2 + (1 : Int32))) else some (.inr ((0 : Int32), M)))
noncomputable def f_MM_valid_W35 (M : Mem) (x1 : Int32) (u : Int32) : Option (Int32 × Mem) := loop (fun t => f_MM_valid_L35 M x1 t) u
noncomputable def f_MM_valid_J35 (M : Mem) (x1 : Int32) (x2 : Int32) : Option (Int32 × Mem) := bnd (f_MM_valid_W35 M x1 x2) (fun e35 => some e35)
noncomputable def f_MM_valid (M : Mem) : Option (Int32 × Mem) := 
    bnd (f_MM_runs M) (fun M4 => 
    bnd (f_MM_soundSet M4) (fun y6 => 
    if (M4 1 0) = 0 then some ((1 : Int32), M4) else if (bI (f_MM_has y6 (M4 1 1))) = 0 then some ((1 : Int32), M4) else f_MM_valid_J35 M4 y6 (0 : Int32)))
set_option maxHeartbeats 4000000 in
theorem wk_MM_valid {l : Launch} {Z : WD} (hI : wI Z) (hZ : IsM Z) (M : Mem) {r : Int32} {M' : Mem} {p : Program} {e : Env} {R : Room} {s : State} {m : MethodId} {args : Array Value} {below : List Frame} {meth : Method} {c : Code} {H : Heap} {locs : List Loc} {ls : Array Slot} {Q : State → Prop} (S : CallFix p m c b_MM_valid 3 s args gtb R_MM) (hX : wX Z s) (hR : 6 ≤ R.frames ∧ 148 ≤ R.locals) (hQ : ∀ (pc : Nat) (H : Heap) (locs : List Loc) (ls : Array Slot), HW Z M' s H locs → decode b_MM_valid pc = .ok (.ireturn, 1) → W p l e R s m args below meth c H locs 0 0 Q (F0 m pc ls [.int r])) (hf0 : f_MM_valid M = some (r, M')) (hH : HW Z M s H locs) (hl : lv_has ls 3 [(0, .ref (Z.2.2.1 0))]) : W p l e R s m args below meth c H locs 0 0 Q (F0 m 0 ls []) := by
  have hx := S.1
  have hb := S.2.1
  have hown := S.2.2.2.1
  have ht := S.2.2.2.2
  unfold f_MM_valid at hf0
  have J35 : ∀ (M : Mem) (x1 : Int32) (x2 : Int32) (H : Heap) (locs : List Loc) (ls : Array Slot), f_MM_valid_J35 M x1 x2 = some (r, M') → HW Z M s H locs → lv_has ls 3 [(0, .ref (Z.2.2.1 0)), (1, .int x1), (2, .int x2)] → W p l e R s m args below meth c H locs 0 0 Q (F0 m 35 ls []) := by
    intro M x1 x2 H locs ls hf0 hH hl
    unfold f_MM_valid_J35 at hf0
    obtain ⟨e35, he35, hf0⟩ := o_b hf0
    unfold f_MM_valid_W35 at he35
    refine loop_W (fun t => ∀ (H : Heap) (locs : List Loc) (ls : Array Slot), HW Z M s H locs → lv_has ls 3 [(0, .ref (Z.2.2.1 0)), (1, .int x1), (2, .int t)] → W p l e R s m args below meth c H locs 0 0 Q (F0 m 35 ls [])) ?_ he35 H locs ls hH hl
    rintro x2 o1 hf1 hG1 hR1 H locs ls hH hl
    replace hH : HW Z M s H locs := hH
    replace hl : lv_has ls 3 [(0, .ref (Z.2.2.1 0)), (1, .int x1), (2, .int x2)] := hl
    replace hf1 : f_MM_valid_L35 M x1 x2 = some o1 := hf1
    unfold f_MM_valid_L35 at hf1
    refine lv_iload_n hx hb d_MM_valid_35 rfl (lv_at hl 2 rfl) ?_
    refine lv_aload_n hx hb d_MM_valid_36 rfl (lv_at hl 0 rfl) ?_
    refine g_MM_9 S hX hH hZ d_MM_valid_37 ?_
    refine lv_iconst (v := (0 : Int32)) hx hb d_MM_valid_40 (by decide) ?_
    refine q_iald (j := 0) hx hb hX hH (aa_MM_1 hZ) (vp_c (by decide)) (by decide) d_MM_valid_41 ?_
    refine lv_icmp_ge (tgt := 75) hx hb d_MM_valid_42 (by decide) (fun hc => ?_) (fun hc => ?_)
    · replace hf1 := o_t hc hf1
      refine lv_iconst (v := (1 : Int32)) hx hb d_MM_valid_75 (by decide) ?_
      obtain rfl := hR1 _ (o_v hf1).symm
      obtain ⟨rfl, rfl⟩ := o_p hf0
      exact hQ _ _ _ _ hH d_MM_valid_76
    · replace hf1 := o_f hc hf1
      refine lv_iload_n hx hb d_MM_valid_45 rfl (lv_at hl 1 rfl) ?_
      refine lv_iload_n hx hb d_MM_valid_46 rfl (lv_at hl 2 rfl) ?_
      refine q_cSi (As := [.int x1, .int x2]) (rest := []) S hX hH (c_MM_has l hI M x1 x2 rfl) (cw_MM_201 S.2.2.2.2 (Nat.le_trans (Nat.le_of_ble_eq_true rfl) hR.1) (Nat.le_trans (Nat.le_of_ble_eq_true rfl) hR.2)) rfl hl.1 rfl (Nat.le_of_ble_eq_true rfl) d_MM_valid_47 ⟨Nat.zero_le _, Nat.zero_le _⟩ (fun H locs hH => ?_)
      refine lv_if_eq (tgt := 69) hx hb d_MM_valid_50 (by decide) (fun hc => ?_) (fun hc => ?_)
      · replace hf1 := o_t hc hf1
        refine lv_iinc (v := x2 + (1 : Int32)) (lv' := [(2, .int (x2 + (1 : Int32))), (0, .ref (Z.2.2.1 0)), (1, .int x1)]) hx hb d_MM_valid_69 hl (k := 2) rfl rfl (by decide) rfl (fun ls hl => ?_)
        refine lv_goto (tgt := 35) hx hb d_MM_valid_72 (by decide) ?_
        exact hG1 _ (o_v hf1).symm _ _ _ hH (lv_sub hl [1, 2, 0] rfl)
      · replace hf1 := o_f hc hf1
        refine lv_aload_n hx hb d_MM_valid_53 rfl (lv_at hl 0 rfl) ?_
        refine lv_iload_n hx hb d_MM_valid_54 rfl (lv_at hl 2 rfl) ?_
        obtain ⟨y2, hc1, hf1⟩ := o_b hf1
        refine q_cVi (As := [.int x2]) (rest := []) S hX hH (c_MM_decisionOf l hI hZ M x2 hc1) (cw_MM_318 S.2.2.2.2 (Nat.le_trans (Nat.le_of_ble_eq_true rfl) hR.1) (Nat.le_trans (Nat.le_of_ble_eq_true rfl) hR.2)) (rc_MM hX hH hZ) rfl hl.1 rfl (Nat.le_of_ble_eq_true rfl) d_MM_valid_55 ⟨Nat.zero_le _, Nat.zero_le _⟩ (fun H locs hH => ?_)
        refine lv_aload_n hx hb d_MM_valid_58 rfl (lv_at hl 0 rfl) ?_
        refine g_MM_9 S hX hH hZ d_MM_valid_59 ?_
        refine lv_iconst (v := (2 : Int32)) hx hb d_MM_valid_62 (by decide) ?_
        refine q_iald (j := 2) hx hb hX hH (aa_MM_1 hZ) (vp_c (by decide)) (by decide) d_MM_valid_63 ?_
        refine lv_icmp_eq (tgt := 69) hx hb d_MM_valid_64 (by decide) (fun hc => ?_) (fun hc => ?_)
        · replace hf1 := o_t hc hf1
          refine lv_iinc (v := x2 + (1 : Int32)) (lv' := [(2, .int (x2 + (1 : Int32))), (0, .ref (Z.2.2.1 0)), (1, .int x1)]) hx hb d_MM_valid_69 hl (k := 2) rfl rfl (by decide) rfl (fun ls hl => ?_)
          refine lv_goto (tgt := 35) hx hb d_MM_valid_72 (by decide) ?_
          exact hG1 _ (o_v hf1).symm _ _ _ hH (lv_sub hl [1, 2, 0] rfl)
        · replace hf1 := o_f hc hf1
          refine lv_iconst (v := (0 : Int32)) hx hb d_MM_valid_67 (by decide) ?_
          obtain rfl := hR1 _ (o_v hf1).symm
          obtain ⟨rfl, rfl⟩ := o_p hf0
          exact hQ _ _ _ _ hH d_MM_valid_68
  refine lv_aload_n hx hb d_MM_valid_0 rfl (lv_at hl 0 rfl) ?_
  obtain ⟨M4, hc3, hf0⟩ := o_b hf0
  refine q_cVv (As := []) (rest := []) S hX hH (c_MM_runs l hI hZ M hc3) (cw_MM_321 S.2.2.2.2 (Nat.le_trans (Nat.le_of_ble_eq_true rfl) hR.1) (Nat.le_trans (Nat.le_of_ble_eq_true rfl) hR.2)) (rc_MM hX hH hZ) rfl hl.1 rfl (Nat.le_of_ble_eq_true rfl) d_MM_valid_1 ⟨Nat.zero_le _, Nat.zero_le _⟩ (fun H locs hH => ?_)
  refine lv_aload_n hx hb d_MM_valid_4 rfl (lv_at hl 0 rfl) ?_
  obtain ⟨y6, hc5, hf0⟩ := o_b hf0
  refine q_cVi (As := []) (rest := []) S hX hH (c_MM_soundSet l hI hZ M4 hc5) (cw_MM_332 S.2.2.2.2 (Nat.le_trans (Nat.le_of_ble_eq_true rfl) hR.1) (Nat.le_trans (Nat.le_of_ble_eq_true rfl) hR.2)) (rc_MM hX hH hZ) rfl hl.1 rfl (Nat.le_of_ble_eq_true rfl) d_MM_valid_5 ⟨Nat.zero_le _, Nat.zero_le _⟩ (fun H locs hH => ?_)
  refine lv_istore_n (lv' := [(1, .int y6), (0, .ref (Z.2.2.1 0))]) hx hb d_MM_valid_8 rfl hl (by decide) rfl (fun ls hl => ?_)
  refine lv_aload_n hx hb d_MM_valid_9 rfl (lv_at hl 1 rfl) ?_
  refine g_MM_9 S hX hH hZ d_MM_valid_10 ?_
  refine lv_iconst (v := (0 : Int32)) hx hb d_MM_valid_13 (by decide) ?_
  refine q_iald (j := 0) hx hb hX hH (aa_MM_1 hZ) (vp_c (by decide)) (by decide) d_MM_valid_14 ?_
  refine lv_if_eq (tgt := 31) hx hb d_MM_valid_15 (by decide) (fun hc => ?_) (fun hc => ?_)
  · replace hf0 := o_t hc hf0
    refine lv_iconst (v := (1 : Int32)) hx hb d_MM_valid_31 (by decide) ?_
    obtain ⟨rfl, rfl⟩ := o_p hf0
    exact hQ _ _ _ _ hH d_MM_valid_32
  · replace hf0 := o_f hc hf0
    refine lv_iload_n hx hb d_MM_valid_18 rfl (lv_at hl 0 rfl) ?_
    refine lv_aload_n hx hb d_MM_valid_19 rfl (lv_at hl 1 rfl) ?_
    refine g_MM_9 S hX hH hZ d_MM_valid_20 ?_
    refine lv_iconst (v := (1 : Int32)) hx hb d_MM_valid_23 (by decide) ?_
    refine q_iald (j := 1) hx hb hX hH (aa_MM_1 hZ) (vp_c (by decide)) (by decide) d_MM_valid_24 ?_
    refine q_cSi (As := [.int y6, .int (M4 1 1)]) (rest := []) S hX hH (c_MM_has l hI M4 y6 (M4 1 1) rfl) (cw_MM_201 S.2.2.2.2 (Nat.le_trans (Nat.le_of_ble_eq_true rfl) hR.1) (Nat.le_trans (Nat.le_of_ble_eq_true rfl) hR.2)) rfl hl.1 rfl (Nat.le_of_ble_eq_true rfl) d_MM_valid_25 ⟨Nat.zero_le _, Nat.zero_le _⟩ (fun H locs hH => ?_)
    refine lv_if_ne (tgt := 33) hx hb d_MM_valid_28 (by decide) (fun hc => ?_) (fun hc => ?_)
    · replace hf0 := o_f hc hf0
      refine lv_iconst (v := (0 : Int32)) hx hb d_MM_valid_33 (by decide) ?_
      refine lv_istore_n (lv' := [(2, .int (0 : Int32)), (1, .int y6), (0, .ref (Z.2.2.1 0))]) hx hb d_MM_valid_34 rfl hl (by decide) rfl (fun ls hl => ?_)
      exact J35 _ _ _ _ _ _ hf0 hH (lv_sub hl [2, 1, 0] rfl)
    · replace hf0 := o_t hc hf0
      refine lv_iconst (v := (1 : Int32)) hx hb d_MM_valid_31 (by decide) ?_
      obtain ⟨rfl, rfl⟩ := o_p hf0
      exact hQ _ _ _ _ hH d_MM_valid_32
theorem c_MM_valid (l : Launch) {Z : WD} (hI : wI Z) (hZ : IsM Z) (M : Mem) {r : Int32} {M' : Mem} (hf : f_MM_valid M = some (r, M')) : Ci l Z y_MM_valid b_MM_valid 3 (some .int) 6 148 [.ref (Z.2.2.1 0)] M M' r := by
  refine Met.ofW (cc := b_MM_valid) (maxL := 3) (ret := (some .int)) (by decide) rfl ?_
  intro p e s m args below meth c s₁ B hml hv
  obtain ⟨rfl, hP, hX⟩ := hv
  have S : CallFix p m c b_MM_valid 3 s ([.ref (Z.2.2.1 0)] : List Value).toArray gtb R_MM := ⟨B.exec, B.bytes, hml, findClass_of_methodNamed B.named, fun w hw => atoms_spec (ws := .code y_MM_valid b_MM_valid 3 (some .int) :: gtb) B.pre w (List.mem_cons_of_mem _ hw)⟩
  have hl := lv_entry ([.ref (Z.2.2.1 0)]) (n := 3) (Nat.le_of_ble_eq_true rfl)
  rw [lg_entry_eq]
  exact wk_MM_valid hI hZ M S hX ⟨Nat.le_refl _, Nat.le_refl _⟩ (fun pc H locs ls hH d => q_ri S.1 S.2.1 B.returns B.notSynchronized hH rfl rfl d) hf ⟨hP, va_S.rf⟩ hl
noncomputable def f_MM_sound (M : Mem) : Option Int32 := bnd (f_MM_soundSet M) (fun y2 => some y2)
set_option maxHeartbeats 4000000 in
theorem wk_MM_sound {l : Launch} {Z : WD} (hI : wI Z) (hZ : IsM Z) (M : Mem) {r : Int32} {p : Program} {e : Env} {R : Room} {s : State} {m : MethodId} {args : Array Value} {below : List Frame} {meth : Method} {c : Code} {H : Heap} {locs : List Loc} {ls : Array Slot} {Q : State → Prop} (S : CallFix p m c b_MM_sound 1 s args gtb R_MM) (hX : wX Z s) (hR : 3 ≤ R.frames ∧ 66 ≤ R.locals) (hQ : ∀ (pc : Nat) (H : Heap) (locs : List Loc) (ls : Array Slot), HW Z M s H locs → decode b_MM_sound pc = .ok (.ireturn, 1) → W p l e R s m args below meth c H locs 0 0 Q (F0 m pc ls [.int r])) (hf0 : f_MM_sound M = some r) (hH : HW Z M s H locs) (hl : lv_has ls 1 [(0, .ref (Z.2.2.1 0))]) : W p l e R s m args below meth c H locs 0 0 Q (F0 m 0 ls []) := by
  have hx := S.1
  have hb := S.2.1
  have hown := S.2.2.2.1
  have ht := S.2.2.2.2
  unfold f_MM_sound at hf0
  refine lv_aload_n hx hb d_MM_sound_0 rfl (lv_at hl 0 rfl) ?_
  obtain ⟨y2, hc1, hf0⟩ := o_b hf0
  refine q_cVi (As := []) (rest := []) S hX hH (c_MM_soundSet l hI hZ M hc1) (cw_MM_332 S.2.2.2.2 (Nat.le_trans (Nat.le_of_ble_eq_true rfl) hR.1) (Nat.le_trans (Nat.le_of_ble_eq_true rfl) hR.2)) (rc_MM hX hH hZ) rfl hl.1 rfl (Nat.le_of_ble_eq_true rfl) d_MM_sound_1 ⟨Nat.zero_le _, Nat.zero_le _⟩ (fun H locs hH => ?_)
  obtain rfl := o_v hf0
  exact hQ _ _ _ _ hH d_MM_sound_4
theorem c_MM_sound (l : Launch) {Z : WD} (hI : wI Z) (hZ : IsM Z) (M : Mem) {r : Int32} (hf : f_MM_sound M = some r) : Ci l Z y_MM_sound b_MM_sound 1 (some .int) 3 66 [.ref (Z.2.2.1 0)] M M r := by
  refine Met.ofW (cc := b_MM_sound) (maxL := 1) (ret := (some .int)) (by decide) rfl ?_
  intro p e s m args below meth c s₁ B hml hv
  obtain ⟨rfl, hP, hX⟩ := hv
  have S : CallFix p m c b_MM_sound 1 s ([.ref (Z.2.2.1 0)] : List Value).toArray gtb R_MM := ⟨B.exec, B.bytes, hml, findClass_of_methodNamed B.named, fun w hw => atoms_spec (ws := .code y_MM_sound b_MM_sound 1 (some .int) :: gtb) B.pre w (List.mem_cons_of_mem _ hw)⟩
  have hl := lv_entry ([.ref (Z.2.2.1 0)]) (n := 1) (Nat.le_of_ble_eq_true rfl)
  rw [lg_entry_eq]
  exact wk_MM_sound hI hZ M S hX ⟨Nat.le_refl _, Nat.le_refl _⟩ (fun pc H locs ls hH d => q_ri S.1 S.2.1 B.returns B.notSynchronized hH rfl rfl d) hf ⟨hP, va_S.rf⟩ hl
