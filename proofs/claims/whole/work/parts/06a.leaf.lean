noncomputable def f_Arr_fill_L5 (a0 n0 : Nat) (x1 : Int32) (x3 : Int32) (x2 : Int32) (M : Mem) : Option ((Int32 × Mem) ⊕ Mem) := if x3 ≤ x2 then some (.inr M) else gIn x2 n0 (lt1 (upM M a0 x2.toNatClampNeg x1) (fun M2 => some (.inl (x2 + (1 : Int32), M2))))
noncomputable def f_Arr_fill_W5 (a0 n0 : Nat) (x1 : Int32) (x3 : Int32) (u : (Int32 × Mem)) : Option Mem := loop (fun t => f_Arr_fill_L5 a0 n0 x1 x3 t.1 t.2) u
noncomputable def f_Arr_fill_J5 (a0 n0 : Nat) (M : Mem) (x1 : Int32) (x2 : Int32) (x3 : Int32) : Option (Mem) := bnd (f_Arr_fill_W5 a0 n0 x1 x3 (x2, M)) (fun e5 => some e5)
noncomputable def f_Arr_fill (a0 n0 : Nat) (M : Mem) (x1 : Int32) : Option Mem := f_Arr_fill_J5 a0 n0 M x1 (0 : Int32) (nI n0)
set_option maxHeartbeats 4000000 in
theorem wk_Arr_fill {l : Launch} {Z : WD} (hI : wI Z) (a0 n0 : Nat) (M : Mem) (x1 : Int32) (ha0 : AA .int Z a0 n0) {M' : Mem} {p : Program} {e : Env} {R : Room} {s : State} {m : MethodId} {args : Array Value} {below : List Frame} {meth : Method} {c : Code} {H : Heap} {locs : List Loc} {ls : Array Slot} {Q : State → Prop} (S : CallFix p m c b_Arr_fill 4 s args gtb R_Arr) (hX : wX Z s) (hR : 0 ≤ R.frames ∧ 0 ≤ R.locals) (hQ : ∀ (pc : Nat) (H : Heap) (locs : List Loc) (ls : Array Slot), HW Z M' s H locs → decode b_Arr_fill pc = .ok (.return_, 1) → W p l e R s m args below meth c H locs 0 0 Q (F0 m pc ls [])) (hf0 : f_Arr_fill a0 n0 M x1 = some M') (hH : HW Z M s H locs) (hl : lv_has ls 4 [(0, .ref (Z.2.2.1 a0)), (1, .int x1)]) : W p l e R s m args below meth c H locs 0 0 Q (F0 m 0 ls []) := by
  have hx := S.1
  have hb := S.2.1
  have hown := S.2.2.2.1
  have ht := S.2.2.2.2
  unfold f_Arr_fill at hf0
  have J5 : ∀ (M : Mem) (x1 : Int32) (x2 : Int32) (x3 : Int32) (H : Heap) (locs : List Loc) (ls : Array Slot), f_Arr_fill_J5 a0 n0 M x1 x2 x3 = some M' → HW Z M s H locs → lv_has ls 4 [(0, .ref (Z.2.2.1 a0)), (1, .int x1), (2, .int x2), (3, .int x3)] → W p l e R s m args below meth c H locs 0 0 Q (F0 m 5 ls []) := by
    intro M x1 x2 x3 H locs ls hf0 hH hl
    unfold f_Arr_fill_J5 at hf0
    obtain ⟨e5, he5, hf0⟩ := o_b hf0
    unfold f_Arr_fill_W5 at he5
    refine loop_W (fun t => ∀ (H : Heap) (locs : List Loc) (ls : Array Slot), HW Z t.2 s H locs → lv_has ls 4 [(0, .ref (Z.2.2.1 a0)), (1, .int x1), (2, .int t.1), (3, .int x3)] → W p l e R s m args below meth c H locs 0 0 Q (F0 m 5 ls [])) ?_ he5 H locs ls hH hl
    rintro ⟨x2, M⟩ o1 hf1 hG1 hR1 H locs ls hH hl
    replace hH : HW Z M s H locs := hH
    replace hl : lv_has ls 4 [(0, .ref (Z.2.2.1 a0)), (1, .int x1), (2, .int x2), (3, .int x3)] := hl
    replace hf1 : f_Arr_fill_L5 a0 n0 x1 x3 x2 M = some o1 := hf1
    unfold f_Arr_fill_L5 at hf1
    refine lv_iload_n hx hb d_Arr_fill_5 rfl (lv_at hl 2 rfl) ?_
    refine lv_iload_n hx hb d_Arr_fill_6 rfl (lv_at hl 3 rfl) ?_
    refine lv_icmp_ge (tgt := 20) hx hb d_Arr_fill_7 (by decide) (fun hc => ?_) (fun hc => ?_)
    · replace hf1 := o_t hc hf1
      obtain rfl := hR1 _ (o_v hf1).symm
      obtain rfl := o_v hf0
      exact hQ _ _ _ _ hH d_Arr_fill_20
    · replace hf1 := o_f hc hf1
      refine lv_aload_n hx hb d_Arr_fill_10 rfl (lv_at hl 0 rfl) ?_
      refine lv_iload_n hx hb d_Arr_fill_11 rfl (lv_at hl 2 rfl) ?_
      refine lv_iload_n hx hb d_Arr_fill_12 rfl (lv_at hl 1 rfl) ?_
      obtain ⟨hn1, hf1⟩ := o_in hf1
      obtain ⟨M2, hM2, hf1⟩ := o_l hf1
      refine q_iast (j := x2.toNatClampNeg) hx hb hX hI hH ha0 hn1 rfl d_Arr_fill_13 (fun H locs hH => ?_)
      rw [hM2] at hH
      refine lv_iinc (v := x2 + (1 : Int32)) (lv' := [(2, .int (x2 + (1 : Int32))), (0, .ref (Z.2.2.1 a0)), (1, .int x1), (3, .int x3)]) hx hb d_Arr_fill_14 hl (k := 2) rfl rfl (by decide) rfl (fun ls hl => ?_)
      refine lv_goto (tgt := 5) hx hb d_Arr_fill_17 (by decide) ?_
      exact hG1 _ (o_v hf1).symm _ _ _ hH (lv_sub hl [1, 2, 0, 3] rfl)
  refine lv_iconst (v := (0 : Int32)) hx hb d_Arr_fill_0 (by decide) ?_
  refine lv_istore_n (lv' := [(2, .int (0 : Int32)), (0, .ref (Z.2.2.1 a0)), (1, .int x1)]) hx hb d_Arr_fill_1 rfl hl (by decide) rfl (fun ls hl => ?_)
  refine lv_aload_n hx hb d_Arr_fill_2 rfl (lv_at hl 1 rfl) ?_
  refine q_alen hx hb hX hH ha0 d_Arr_fill_3 ?_
  refine lv_istore_n (lv' := [(3, .int (nI n0)), (2, .int (0 : Int32)), (0, .ref (Z.2.2.1 a0)), (1, .int x1)]) hx hb d_Arr_fill_4 rfl hl (by decide) rfl (fun ls hl => ?_)
  exact J5 _ _ _ _ _ _ _ hf0 hH (lv_sub hl [2, 3, 1, 0] rfl)
theorem c_Arr_fill (l : Launch) {Z : WD} (hI : wI Z) (a0 n0 : Nat) (M : Mem) (x1 : Int32) (ha0 : AA .int Z a0 n0) {M' : Mem} (hf : f_Arr_fill a0 n0 M x1 = some M') : Cv l Z y_Arr_fill b_Arr_fill 4 none 0 0 [.ref (Z.2.2.1 a0), .int x1] M M' := by
  refine Met.ofW (cc := b_Arr_fill) (maxL := 4) (ret := none) (by decide) rfl ?_
  intro p e s m args below meth c s₁ B hml hv
  obtain ⟨rfl, hP, hX⟩ := hv
  have S : CallFix p m c b_Arr_fill 4 s ([.ref (Z.2.2.1 a0), .int x1] : List Value).toArray gtb R_Arr := ⟨B.exec, B.bytes, hml, findClass_of_methodNamed B.named, fun w hw => atoms_spec (ws := .code y_Arr_fill b_Arr_fill 4 none :: gtb) B.pre w (List.mem_cons_of_mem _ hw)⟩
  have hl := lv_entry ([.ref (Z.2.2.1 a0), .int x1]) (n := 4) (Nat.le_of_ble_eq_true rfl)
  rw [lg_entry_eq]
  exact wk_Arr_fill hI a0 n0 M x1 ha0 S hX ⟨Nat.le_refl _, Nat.le_refl _⟩ (fun pc H locs ls hH d => q_rv S.1 S.2.1 B.returns B.notSynchronized hH rfl d) hf ⟨hP, va_S.rf⟩ hl
noncomputable def f_MC_cellOf (x0 : Int32) (x1 : Int32) : Int32 := (x0 * (4 : Int32)) + x1
set_option maxHeartbeats 4000000 in
theorem wk_MC_cellOf {l : Launch} {Z : WD} (hI : wI Z) (M : Mem) (x0 : Int32) (x1 : Int32) {r : Int32} {p : Program} {e : Env} {R : Room} {s : State} {m : MethodId} {args : Array Value} {below : List Frame} {meth : Method} {c : Code} {H : Heap} {locs : List Loc} {ls : Array Slot} {Q : State → Prop} (S : CallFix p m c b_MC_cellOf 2 s args gtb R_MC) (hX : wX Z s) (hR : 0 ≤ R.frames ∧ 0 ≤ R.locals) (hQ : ∀ (pc : Nat) (H : Heap) (locs : List Loc) (ls : Array Slot), HW Z M s H locs → decode b_MC_cellOf pc = .ok (.ireturn, 1) → W p l e R s m args below meth c H locs 0 0 Q (F0 m pc ls [.int r])) (hf0 : f_MC_cellOf x0 x1 = r) (hH : HW Z M s H locs) (hl : lv_has ls 2 [(0, .int x0), (1, .int x1)]) : W p l e R s m args below meth c H locs 0 0 Q (F0 m 0 ls []) := by
  have hx := S.1
  have hb := S.2.1
  have hown := S.2.2.2.1
  have ht := S.2.2.2.2
  unfold f_MC_cellOf at hf0
  refine lv_iload_n hx hb d_MC_cellOf_0 rfl (lv_at hl 0 rfl) ?_
  refine lv_iconst (v := (4 : Int32)) hx hb d_MC_cellOf_1 (by decide) ?_
  refine lv_imul hx hb d_MC_cellOf_2 ?_
  refine lv_iload_n hx hb d_MC_cellOf_3 rfl (lv_at hl 1 rfl) ?_
  refine lv_iadd hx hb d_MC_cellOf_4 ?_
  subst hf0
  exact hQ _ _ _ _ hH d_MC_cellOf_5
theorem c_MC_cellOf (l : Launch) {Z : WD} (hI : wI Z) (M : Mem) (x0 : Int32) (x1 : Int32) {r : Int32} (hf : f_MC_cellOf x0 x1 = r) : Ci l Z y_MC_cellOf b_MC_cellOf 2 (some .int) 0 0 [.int x0, .int x1] M M r := by
  refine Met.ofW (cc := b_MC_cellOf) (maxL := 2) (ret := (some .int)) (by decide) rfl ?_
  intro p e s m args below meth c s₁ B hml hv
  obtain ⟨rfl, hP, hX⟩ := hv
  have S : CallFix p m c b_MC_cellOf 2 s ([.int x0, .int x1] : List Value).toArray gtb R_MC := ⟨B.exec, B.bytes, hml, findClass_of_methodNamed B.named, fun w hw => atoms_spec (ws := .code y_MC_cellOf b_MC_cellOf 2 (some .int) :: gtb) B.pre w (List.mem_cons_of_mem _ hw)⟩
  have hl := lv_entry ([.int x0, .int x1]) (n := 2) (Nat.le_of_ble_eq_true rfl)
  rw [lg_entry_eq]
  exact wk_MC_cellOf hI M x0 x1 S hX ⟨Nat.le_refl _, Nat.le_refl _⟩ (fun pc H locs ls hH d => q_ri S.1 S.2.1 B.returns B.notSynchronized hH rfl rfl d) hf ⟨hP, va_S.rf⟩ hl
noncomputable def f_Chain_size (x0 : Int32) : Int32 := x0 &&& (15 : Int32)
set_option maxHeartbeats 4000000 in
theorem wk_Chain_size {l : Launch} {Z : WD} (hI : wI Z) (M : Mem) (x0 : Int32) {r : Int32} {p : Program} {e : Env} {R : Room} {s : State} {m : MethodId} {args : Array Value} {below : List Frame} {meth : Method} {c : Code} {H : Heap} {locs : List Loc} {ls : Array Slot} {Q : State → Prop} (S : CallFix p m c b_Chain_size 1 s args gtb R_Chain) (hX : wX Z s) (hR : 0 ≤ R.frames ∧ 0 ≤ R.locals) (hQ : ∀ (pc : Nat) (H : Heap) (locs : List Loc) (ls : Array Slot), HW Z M s H locs → decode b_Chain_size pc = .ok (.ireturn, 1) → W p l e R s m args below meth c H locs 0 0 Q (F0 m pc ls [.int r])) (hf0 : f_Chain_size x0 = r) (hH : HW Z M s H locs) (hl : lv_has ls 1 [(0, .int x0)]) : W p l e R s m args below meth c H locs 0 0 Q (F0 m 0 ls []) := by
  have hx := S.1
  have hb := S.2.1
  have hown := S.2.2.2.1
  have ht := S.2.2.2.2
  unfold f_Chain_size at hf0
  refine lv_iload_n hx hb d_Chain_size_0 rfl (lv_at hl 0 rfl) ?_
  refine lv_bipush (v := (15 : Int32)) hx hb d_Chain_size_1 (by decide) ?_
  refine lv_iand hx hb d_Chain_size_3 ?_
  subst hf0
  exact hQ _ _ _ _ hH d_Chain_size_4
theorem c_Chain_size (l : Launch) {Z : WD} (hI : wI Z) (M : Mem) (x0 : Int32) {r : Int32} (hf : f_Chain_size x0 = r) : Ci l Z y_Chain_size b_Chain_size 1 (some .int) 0 0 [.int x0] M M r := by
  refine Met.ofW (cc := b_Chain_size) (maxL := 1) (ret := (some .int)) (by decide) rfl ?_
  intro p e s m args below meth c s₁ B hml hv
  obtain ⟨rfl, hP, hX⟩ := hv
  have S : CallFix p m c b_Chain_size 1 s ([.int x0] : List Value).toArray gtb R_Chain := ⟨B.exec, B.bytes, hml, findClass_of_methodNamed B.named, fun w hw => atoms_spec (ws := .code y_Chain_size b_Chain_size 1 (some .int) :: gtb) B.pre w (List.mem_cons_of_mem _ hw)⟩
  have hl := lv_entry ([.int x0]) (n := 1) (Nat.le_of_ble_eq_true rfl)
  rw [lg_entry_eq]
  exact wk_Chain_size hI M x0 S hX ⟨Nat.le_refl _, Nat.le_refl _⟩ (fun pc H locs ls hH d => q_ri S.1 S.2.1 B.returns B.notSynchronized hH rfl rfl d) hf ⟨hP, va_S.rf⟩ hl
theorem cw_Chain_9 {R : Room} {s : State} {args : Array Value} (ht : ∀ w ∈ gtb, w.before args s = true) (h1 : 0 + 1 ≤ R.frames) (h2 : 8 + (1 + 11) + 0 ≤ R.locals) : CallB R s args R_Chain 9 y_Chain_size b_Chain_size 1 (some .int) (.code y_Chain_size b_Chain_size 1 (some .int) :: gtb) { frames := 0, cells := 0, slots := 0, locals := 0 } 0 0 1 ∧ (Cond.static y_Chain_size).before args s = true := va_cwS 1 ht (gS w2_7 w2_8 w1_6 w2_9) rfl rfl rfl ⟨by decide, by decide, by decide +kernel⟩ ⟨h1, h2⟩
noncomputable def f_Chain_with (x0 : Int32) (x1 : Int32) : Int32 := 
    if (8 : Int32) ≤ (f_Chain_size x0) then x0 else (x0 ||| (x1 <<< (((4 : Int32) + ((3 : Int32) * (f_Chain_size x0))) &&& 31))) + (1 : Int32)
set_option maxHeartbeats 4000000 in
theorem wk_Chain_with {l : Launch} {Z : WD} (hI : wI Z) (M : Mem) (x0 : Int32) (x1 : Int32) {r : Int32} {p : Program} {e : Env} {R : Room} {s : State} {m : MethodId} {args : Array Value} {below : List Frame} {meth : Method} {c : Code} {H : Heap} {locs : List Loc} {ls : Array Slot} {Q : State → Prop} (S : CallFix p m c b_Chain_with 3 s args gtb R_Chain) (hX : wX Z s) (hR : 1 ≤ R.frames ∧ 20 ≤ R.locals) (hQ : ∀ (pc : Nat) (H : Heap) (locs : List Loc) (ls : Array Slot), HW Z M s H locs → decode b_Chain_with pc = .ok (.ireturn, 1) → W p l e R s m args below meth c H locs 0 0 Q (F0 m pc ls [.int r])) (hf0 : f_Chain_with x0 x1 = r) (hH : HW Z M s H locs) (hl : lv_has ls 3 [(0, .int x0), (1, .int x1)]) : W p l e R s m args below meth c H locs 0 0 Q (F0 m 0 ls []) := by
  have hx := S.1
  have hb := S.2.1
  have hown := S.2.2.2.1
  have ht := S.2.2.2.2
  unfold f_Chain_with at hf0
  refine lv_iload_n hx hb d_Chain_with_0 rfl (lv_at hl 0 rfl) ?_
  refine q_cSi (As := [.int x0]) (rest := []) S hX hH (c_Chain_size l hI M x0 rfl) (cw_Chain_9 S.2.2.2.2 (Nat.le_trans (Nat.le_of_ble_eq_true rfl) hR.1) (Nat.le_trans (Nat.le_of_ble_eq_true rfl) hR.2)) rfl hl.1 rfl (Nat.le_of_ble_eq_true rfl) d_Chain_with_1 ⟨Nat.zero_le _, Nat.zero_le _⟩ (fun H locs hH => ?_)
  refine lv_istore_n (lv' := [(2, .int (f_Chain_size x0)), (0, .int x0), (1, .int x1)]) hx hb d_Chain_with_4 rfl hl (by decide) rfl (fun ls hl => ?_)
  refine lv_iload_n hx hb d_Chain_with_5 rfl (lv_at hl 0 rfl) ?_
  refine lv_bipush (v := (8 : Int32)) hx hb d_Chain_with_6 (by decide) ?_
  refine lv_icmp_ge (tgt := 25) hx hb d_Chain_with_8 (by decide) (fun hc => ?_) (fun hc => ?_)
  · replace hf0 := o_t hc hf0
    refine lv_iload_n hx hb d_Chain_with_25 rfl (lv_at hl 1 rfl) ?_
    subst hf0
    exact hQ _ _ _ _ hH d_Chain_with_26
  · replace hf0 := o_f hc hf0
    refine lv_iload_n hx hb d_Chain_with_11 rfl (lv_at hl 1 rfl) ?_
    refine lv_iload_n hx hb d_Chain_with_12 rfl (lv_at hl 2 rfl) ?_
    refine lv_iconst (v := (4 : Int32)) hx hb d_Chain_with_13 (by decide) ?_
    refine lv_iconst (v := (3 : Int32)) hx hb d_Chain_with_14 (by decide) ?_
    refine lv_iload_n hx hb d_Chain_with_15 rfl (lv_at hl 0 rfl) ?_
    refine lv_imul hx hb d_Chain_with_16 ?_
    refine lv_iadd hx hb d_Chain_with_17 ?_
    refine lv_ishl hx hb d_Chain_with_18 ?_
    refine lv_ior hx hb d_Chain_with_19 ?_
    refine lv_iconst (v := (1 : Int32)) hx hb d_Chain_with_20 (by decide) ?_
    refine lv_iadd hx hb d_Chain_with_21 ?_
    refine lv_goto (tgt := 26) hx hb d_Chain_with_22 (by decide) ?_
    subst hf0
    exact hQ _ _ _ _ hH d_Chain_with_26
theorem c_Chain_with (l : Launch) {Z : WD} (hI : wI Z) (M : Mem) (x0 : Int32) (x1 : Int32) {r : Int32} (hf : f_Chain_with x0 x1 = r) : Ci l Z y_Chain_with b_Chain_with 3 (some .int) 1 20 [.int x0, .int x1] M M r := by
  refine Met.ofW (cc := b_Chain_with) (maxL := 3) (ret := (some .int)) (by decide) rfl ?_
  intro p e s m args below meth c s₁ B hml hv
  obtain ⟨rfl, hP, hX⟩ := hv
  have S : CallFix p m c b_Chain_with 3 s ([.int x0, .int x1] : List Value).toArray gtb R_Chain := ⟨B.exec, B.bytes, hml, findClass_of_methodNamed B.named, fun w hw => atoms_spec (ws := .code y_Chain_with b_Chain_with 3 (some .int) :: gtb) B.pre w (List.mem_cons_of_mem _ hw)⟩
  have hl := lv_entry ([.int x0, .int x1]) (n := 3) (Nat.le_of_ble_eq_true rfl)
  rw [lg_entry_eq]
  exact wk_Chain_with hI M x0 x1 S hX ⟨Nat.le_refl _, Nat.le_refl _⟩ (fun pc H locs ls hH d => q_ri S.1 S.2.1 B.returns B.notSynchronized hH rfl rfl d) hf ⟨hP, va_S.rf⟩ hl
noncomputable def f_Route_of (x0 : Int32) (x1 : Int32) (x2 : Int32) : Int32 := (((64 : Int32) * x0) + ((8 : Int32) * x1)) + x2
set_option maxHeartbeats 4000000 in
theorem wk_Route_of {l : Launch} {Z : WD} (hI : wI Z) (M : Mem) (x0 : Int32) (x1 : Int32) (x2 : Int32) {r : Int32} {p : Program} {e : Env} {R : Room} {s : State} {m : MethodId} {args : Array Value} {below : List Frame} {meth : Method} {c : Code} {H : Heap} {locs : List Loc} {ls : Array Slot} {Q : State → Prop} (S : CallFix p m c b_Route_of 3 s args gtb R_Route) (hX : wX Z s) (hR : 0 ≤ R.frames ∧ 0 ≤ R.locals) (hQ : ∀ (pc : Nat) (H : Heap) (locs : List Loc) (ls : Array Slot), HW Z M s H locs → decode b_Route_of pc = .ok (.ireturn, 1) → W p l e R s m args below meth c H locs 0 0 Q (F0 m pc ls [.int r])) (hf0 : f_Route_of x0 x1 x2 = r) (hH : HW Z M s H locs) (hl : lv_has ls 3 [(0, .int x0), (1, .int x1), (2, .int x2)]) : W p l e R s m args below meth c H locs 0 0 Q (F0 m 0 ls []) := by
  have hx := S.1
  have hb := S.2.1
  have hown := S.2.2.2.1
  have ht := S.2.2.2.2
  unfold f_Route_of at hf0
  refine lv_bipush (v := (64 : Int32)) hx hb d_Route_of_0 (by decide) ?_
  refine lv_iload_n hx hb d_Route_of_2 rfl (lv_at hl 0 rfl) ?_
  refine lv_imul hx hb d_Route_of_3 ?_
  refine lv_bipush (v := (8 : Int32)) hx hb d_Route_of_4 (by decide) ?_
  refine lv_iload_n hx hb d_Route_of_6 rfl (lv_at hl 1 rfl) ?_
  refine lv_imul hx hb d_Route_of_7 ?_
  refine lv_iadd hx hb d_Route_of_8 ?_
  refine lv_iload_n hx hb d_Route_of_9 rfl (lv_at hl 2 rfl) ?_
  refine lv_iadd hx hb d_Route_of_10 ?_
  subst hf0
  exact hQ _ _ _ _ hH d_Route_of_11
theorem c_Route_of (l : Launch) {Z : WD} (hI : wI Z) (M : Mem) (x0 : Int32) (x1 : Int32) (x2 : Int32) {r : Int32} (hf : f_Route_of x0 x1 x2 = r) : Ci l Z y_Route_of b_Route_of 3 (some .int) 0 0 [.int x0, .int x1, .int x2] M M r := by
  refine Met.ofW (cc := b_Route_of) (maxL := 3) (ret := (some .int)) (by decide) rfl ?_
  intro p e s m args below meth c s₁ B hml hv
  obtain ⟨rfl, hP, hX⟩ := hv
  have S : CallFix p m c b_Route_of 3 s ([.int x0, .int x1, .int x2] : List Value).toArray gtb R_Route := ⟨B.exec, B.bytes, hml, findClass_of_methodNamed B.named, fun w hw => atoms_spec (ws := .code y_Route_of b_Route_of 3 (some .int) :: gtb) B.pre w (List.mem_cons_of_mem _ hw)⟩
  have hl := lv_entry ([.int x0, .int x1, .int x2]) (n := 3) (Nat.le_of_ble_eq_true rfl)
  rw [lg_entry_eq]
  exact wk_Route_of hI M x0 x1 x2 S hX ⟨Nat.le_refl _, Nat.le_refl _⟩ (fun pc H locs ls hH d => q_ri S.1 S.2.1 B.returns B.notSynchronized hH rfl rfl d) hf ⟨hP, va_S.rf⟩ hl
noncomputable def f_Route_roundOf (x0 : Int32) : Int32 := x0 >>> ((6 : Int32) &&& 31)
set_option maxHeartbeats 4000000 in
theorem wk_Route_roundOf {l : Launch} {Z : WD} (hI : wI Z) (M : Mem) (x0 : Int32) {r : Int32} {p : Program} {e : Env} {R : Room} {s : State} {m : MethodId} {args : Array Value} {below : List Frame} {meth : Method} {c : Code} {H : Heap} {locs : List Loc} {ls : Array Slot} {Q : State → Prop} (S : CallFix p m c b_Route_roundOf 1 s args gtb R_Route) (hX : wX Z s) (hR : 0 ≤ R.frames ∧ 0 ≤ R.locals) (hQ : ∀ (pc : Nat) (H : Heap) (locs : List Loc) (ls : Array Slot), HW Z M s H locs → decode b_Route_roundOf pc = .ok (.ireturn, 1) → W p l e R s m args below meth c H locs 0 0 Q (F0 m pc ls [.int r])) (hf0 : f_Route_roundOf x0 = r) (hH : HW Z M s H locs) (hl : lv_has ls 1 [(0, .int x0)]) : W p l e R s m args below meth c H locs 0 0 Q (F0 m 0 ls []) := by
  have hx := S.1
  have hb := S.2.1
  have hown := S.2.2.2.1
  have ht := S.2.2.2.2
  unfold f_Route_roundOf at hf0
  refine lv_iload_n hx hb d_Route_roundOf_0 rfl (lv_at hl 0 rfl) ?_
  refine lv_bipush (v := (6 : Int32)) hx hb d_Route_roundOf_1 (by decide) ?_
  refine lv_ishr hx hb d_Route_roundOf_3 ?_
  subst hf0
  exact hQ _ _ _ _ hH d_Route_roundOf_4
theorem c_Route_roundOf (l : Launch) {Z : WD} (hI : wI Z) (M : Mem) (x0 : Int32) {r : Int32} (hf : f_Route_roundOf x0 = r) : Ci l Z y_Route_roundOf b_Route_roundOf 1 (some .int) 0 0 [.int x0] M M r := by
  refine Met.ofW (cc := b_Route_roundOf) (maxL := 1) (ret := (some .int)) (by decide) rfl ?_
  intro p e s m args below meth c s₁ B hml hv
  obtain ⟨rfl, hP, hX⟩ := hv
  have S : CallFix p m c b_Route_roundOf 1 s ([.int x0] : List Value).toArray gtb R_Route := ⟨B.exec, B.bytes, hml, findClass_of_methodNamed B.named, fun w hw => atoms_spec (ws := .code y_Route_roundOf b_Route_roundOf 1 (some .int) :: gtb) B.pre w (List.mem_cons_of_mem _ hw)⟩
  have hl := lv_entry ([.int x0]) (n := 1) (Nat.le_of_ble_eq_true rfl)
  rw [lg_entry_eq]
  exact wk_Route_roundOf hI M x0 S hX ⟨Nat.le_refl _, Nat.le_refl _⟩ (fun pc H locs ls hH d => q_ri S.1 S.2.1 B.returns B.notSynchronized hH rfl rfl d) hf ⟨hP, va_S.rf⟩ hl
noncomputable def f_Route_fromOf (x0 : Int32) : Int32 := (x0 >>> ((3 : Int32) &&& 31)) &&& (7 : Int32)
set_option maxHeartbeats 4000000 in
theorem wk_Route_fromOf {l : Launch} {Z : WD} (hI : wI Z) (M : Mem) (x0 : Int32) {r : Int32} {p : Program} {e : Env} {R : Room} {s : State} {m : MethodId} {args : Array Value} {below : List Frame} {meth : Method} {c : Code} {H : Heap} {locs : List Loc} {ls : Array Slot} {Q : State → Prop} (S : CallFix p m c b_Route_fromOf 1 s args gtb R_Route) (hX : wX Z s) (hR : 0 ≤ R.frames ∧ 0 ≤ R.locals) (hQ : ∀ (pc : Nat) (H : Heap) (locs : List Loc) (ls : Array Slot), HW Z M s H locs → decode b_Route_fromOf pc = .ok (.ireturn, 1) → W p l e R s m args below meth c H locs 0 0 Q (F0 m pc ls [.int r])) (hf0 : f_Route_fromOf x0 = r) (hH : HW Z M s H locs) (hl : lv_has ls 1 [(0, .int x0)]) : W p l e R s m args below meth c H locs 0 0 Q (F0 m 0 ls []) := by
  have hx := S.1
  have hb := S.2.1
  have hown := S.2.2.2.1
  have ht := S.2.2.2.2
  unfold f_Route_fromOf at hf0
  refine lv_iload_n hx hb d_Route_fromOf_0 rfl (lv_at hl 0 rfl) ?_
  refine lv_iconst (v := (3 : Int32)) hx hb d_Route_fromOf_1 (by decide) ?_
  refine lv_ishr hx hb d_Route_fromOf_2 ?_
  refine lv_bipush (v := (7 : Int32)) hx hb d_Route_fromOf_3 (by decide) ?_
  refine lv_iand hx hb d_Route_fromOf_5 ?_
  subst hf0
  exact hQ _ _ _ _ hH d_Route_fromOf_6
theorem c_Route_fromOf (l : Launch) {Z : WD} (hI : wI Z) (M : Mem) (x0 : Int32) {r : Int32} (hf : f_Route_fromOf x0 = r) : Ci l Z y_Route_fromOf b_Route_fromOf 1 (some .int) 0 0 [.int x0] M M r := by
  refine Met.ofW (cc := b_Route_fromOf) (maxL := 1) (ret := (some .int)) (by decide) rfl ?_
  intro p e s m args below meth c s₁ B hml hv
  obtain ⟨rfl, hP, hX⟩ := hv
  have S : CallFix p m c b_Route_fromOf 1 s ([.int x0] : List Value).toArray gtb R_Route := ⟨B.exec, B.bytes, hml, findClass_of_methodNamed B.named, fun w hw => atoms_spec (ws := .code y_Route_fromOf b_Route_fromOf 1 (some .int) :: gtb) B.pre w (List.mem_cons_of_mem _ hw)⟩
  have hl := lv_entry ([.int x0]) (n := 1) (Nat.le_of_ble_eq_true rfl)
  rw [lg_entry_eq]
  exact wk_Route_fromOf hI M x0 S hX ⟨Nat.le_refl _, Nat.le_refl _⟩ (fun pc H locs ls hH d => q_ri S.1 S.2.1 B.returns B.notSynchronized hH rfl rfl d) hf ⟨hP, va_S.rf⟩ hl
noncomputable def f_Chain_markAt (x0 : Int32) (x1 : Int32) : Int32 := (x0 >>> (((4 : Int32) + ((3 : Int32) * x1)) &&& 31)) &&& (7 : Int32)
set_option maxHeartbeats 4000000 in
theorem wk_Chain_markAt {l : Launch} {Z : WD} (hI : wI Z) (M : Mem) (x0 : Int32) (x1 : Int32) {r : Int32} {p : Program} {e : Env} {R : Room} {s : State} {m : MethodId} {args : Array Value} {below : List Frame} {meth : Method} {c : Code} {H : Heap} {locs : List Loc} {ls : Array Slot} {Q : State → Prop} (S : CallFix p m c b_Chain_markAt 2 s args gtb R_Chain) (hX : wX Z s) (hR : 0 ≤ R.frames ∧ 0 ≤ R.locals) (hQ : ∀ (pc : Nat) (H : Heap) (locs : List Loc) (ls : Array Slot), HW Z M s H locs → decode b_Chain_markAt pc = .ok (.ireturn, 1) → W p l e R s m args below meth c H locs 0 0 Q (F0 m pc ls [.int r])) (hf0 : f_Chain_markAt x0 x1 = r) (hH : HW Z M s H locs) (hl : lv_has ls 2 [(0, .int x0), (1, .int x1)]) : W p l e R s m args below meth c H locs 0 0 Q (F0 m 0 ls []) := by
  have hx := S.1
  have hb := S.2.1
  have hown := S.2.2.2.1
  have ht := S.2.2.2.2
  unfold f_Chain_markAt at hf0
  refine lv_iload_n hx hb d_Chain_markAt_0 rfl (lv_at hl 0 rfl) ?_
  refine lv_iconst (v := (4 : Int32)) hx hb d_Chain_markAt_1 (by decide) ?_
  refine lv_iconst (v := (3 : Int32)) hx hb d_Chain_markAt_2 (by decide) ?_
  refine lv_iload_n hx hb d_Chain_markAt_3 rfl (lv_at hl 1 rfl) ?_
  refine lv_imul hx hb d_Chain_markAt_4 ?_
  refine lv_iadd hx hb d_Chain_markAt_5 ?_
  refine lv_ishr hx hb d_Chain_markAt_6 ?_
  refine lv_bipush (v := (7 : Int32)) hx hb d_Chain_markAt_7 (by decide) ?_
  refine lv_iand hx hb d_Chain_markAt_9 ?_
  subst hf0
  exact hQ _ _ _ _ hH d_Chain_markAt_10
theorem c_Chain_markAt (l : Launch) {Z : WD} (hI : wI Z) (M : Mem) (x0 : Int32) (x1 : Int32) {r : Int32} (hf : f_Chain_markAt x0 x1 = r) : Ci l Z y_Chain_markAt b_Chain_markAt 2 (some .int) 0 0 [.int x0, .int x1] M M r := by
  refine Met.ofW (cc := b_Chain_markAt) (maxL := 2) (ret := (some .int)) (by decide) rfl ?_
  intro p e s m args below meth c s₁ B hml hv
  obtain ⟨rfl, hP, hX⟩ := hv
  have S : CallFix p m c b_Chain_markAt 2 s ([.int x0, .int x1] : List Value).toArray gtb R_Chain := ⟨B.exec, B.bytes, hml, findClass_of_methodNamed B.named, fun w hw => atoms_spec (ws := .code y_Chain_markAt b_Chain_markAt 2 (some .int) :: gtb) B.pre w (List.mem_cons_of_mem _ hw)⟩
  have hl := lv_entry ([.int x0, .int x1]) (n := 2) (Nat.le_of_ble_eq_true rfl)
  rw [lg_entry_eq]
  exact wk_Chain_markAt hI M x0 x1 S hX ⟨Nat.le_refl _, Nat.le_refl _⟩ (fun pc H locs ls hH d => q_ri S.1 S.2.1 B.returns B.notSynchronized hH rfl rfl d) hf ⟨hP, va_S.rf⟩ hl
noncomputable def f_Route_toOf (x0 : Int32) : Int32 := x0 &&& (7 : Int32)
set_option maxHeartbeats 4000000 in
theorem wk_Route_toOf {l : Launch} {Z : WD} (hI : wI Z) (M : Mem) (x0 : Int32) {r : Int32} {p : Program} {e : Env} {R : Room} {s : State} {m : MethodId} {args : Array Value} {below : List Frame} {meth : Method} {c : Code} {H : Heap} {locs : List Loc} {ls : Array Slot} {Q : State → Prop} (S : CallFix p m c b_Route_toOf 1 s args gtb R_Route) (hX : wX Z s) (hR : 0 ≤ R.frames ∧ 0 ≤ R.locals) (hQ : ∀ (pc : Nat) (H : Heap) (locs : List Loc) (ls : Array Slot), HW Z M s H locs → decode b_Route_toOf pc = .ok (.ireturn, 1) → W p l e R s m args below meth c H locs 0 0 Q (F0 m pc ls [.int r])) (hf0 : f_Route_toOf x0 = r) (hH : HW Z M s H locs) (hl : lv_has ls 1 [(0, .int x0)]) : W p l e R s m args below meth c H locs 0 0 Q (F0 m 0 ls []) := by
  have hx := S.1
  have hb := S.2.1
  have hown := S.2.2.2.1
  have ht := S.2.2.2.2
  unfold f_Route_toOf at hf0
  refine lv_iload_n hx hb d_Route_toOf_0 rfl (lv_at hl 0 rfl) ?_
  refine lv_bipush (v := (7 : Int32)) hx hb d_Route_toOf_1 (by decide) ?_
  refine lv_iand hx hb d_Route_toOf_3 ?_
  subst hf0
  exact hQ _ _ _ _ hH d_Route_toOf_4
theorem c_Route_toOf (l : Launch) {Z : WD} (hI : wI Z) (M : Mem) (x0 : Int32) {r : Int32} (hf : f_Route_toOf x0 = r) : Ci l Z y_Route_toOf b_Route_toOf 1 (some .int) 0 0 [.int x0] M M r := by
  refine Met.ofW (cc := b_Route_toOf) (maxL := 1) (ret := (some .int)) (by decide) rfl ?_
  intro p e s m args below meth c s₁ B hml hv
  obtain ⟨rfl, hP, hX⟩ := hv
  have S : CallFix p m c b_Route_toOf 1 s ([.int x0] : List Value).toArray gtb R_Route := ⟨B.exec, B.bytes, hml, findClass_of_methodNamed B.named, fun w hw => atoms_spec (ws := .code y_Route_toOf b_Route_toOf 1 (some .int) :: gtb) B.pre w (List.mem_cons_of_mem _ hw)⟩
  have hl := lv_entry ([.int x0]) (n := 1) (Nat.le_of_ble_eq_true rfl)
  rw [lg_entry_eq]
  exact wk_Route_toOf hI M x0 S hX ⟨Nat.le_refl _, Nat.le_refl _⟩ (fun pc H locs ls hH d => q_ri S.1 S.2.1 B.returns B.notSynchronized hH rfl rfl d) hf ⟨hP, va_S.rf⟩ hl
theorem cw_Chain_15 {R : Room} {s : State} {args : Array Value} (ht : ∀ w ∈ gtb, w.before args s = true) (h1 : 0 + 1 ≤ R.frames) (h2 : 8 + (2 + 11) + 0 ≤ R.locals) : CallB R s args R_Chain 15 y_Chain_markAt b_Chain_markAt 2 (some .int) (.code y_Chain_markAt b_Chain_markAt 2 (some .int) :: gtb) { frames := 0, cells := 0, slots := 0, locals := 0 } 0 0 2 ∧ (Cond.static y_Chain_markAt).before args s = true := va_cwS 2 ht (gS w2_239 w2_41 w1_6 w2_42) rfl rfl rfl ⟨by decide, by decide, by decide +kernel⟩ ⟨h1, h2⟩
noncomputable def f_Chain_bearers_L4 (x0 : Int32) (x1 : Int32) (x2 : Int32) : Option ((Int32 × Int32) ⊕ Int32) := if (f_Chain_size x0) ≤ x2 then some (.inr x1) else some (.inl (x1 ||| ((1 : Int32) <<< ((f_Chain_markAt x0 x2) &&& 31)), x2 + (1 : Int32)))
noncomputable def f_Chain_bearers_W4 (x0 : Int32) (u : (Int32 × Int32)) : Option Int32 := loop (fun t => f_Chain_bearers_L4 x0 t.1 t.2) u
noncomputable def f_Chain_bearers_J4 (x0 : Int32) (x1 : Int32) (x2 : Int32) : Option (Int32) := bnd (f_Chain_bearers_W4 x0 (x1, x2)) (fun e4 => some e4)
noncomputable def f_Chain_bearers (x0 : Int32) : Option Int32 := f_Chain_bearers_J4 x0 (0 : Int32) (0 : Int32)
set_option maxHeartbeats 4000000 in
theorem wk_Chain_bearers {l : Launch} {Z : WD} (hI : wI Z) (M : Mem) (x0 : Int32) {r : Int32} {p : Program} {e : Env} {R : Room} {s : State} {m : MethodId} {args : Array Value} {below : List Frame} {meth : Method} {c : Code} {H : Heap} {locs : List Loc} {ls : Array Slot} {Q : State → Prop} (S : CallFix p m c b_Chain_bearers 3 s args gtb R_Chain) (hX : wX Z s) (hR : 1 ≤ R.frames ∧ 21 ≤ R.locals) (hQ : ∀ (pc : Nat) (H : Heap) (locs : List Loc) (ls : Array Slot), HW Z M s H locs → decode b_Chain_bearers pc = .ok (.ireturn, 1) → W p l e R s m args below meth c H locs 0 0 Q (F0 m pc ls [.int r])) (hf0 : f_Chain_bearers x0 = some r) (hH : HW Z M s H locs) (hl : lv_has ls 3 [(0, .int x0)]) : W p l e R s m args below meth c H locs 0 0 Q (F0 m 0 ls []) := by
  have hx := S.1
  have hb := S.2.1
  have hown := S.2.2.2.1
  have ht := S.2.2.2.2
  unfold f_Chain_bearers at hf0
  have J4 : ∀ (x0 : Int32) (x1 : Int32) (x2 : Int32) (H : Heap) (locs : List Loc) (ls : Array Slot), f_Chain_bearers_J4 x0 x1 x2 = some r → HW Z M s H locs → lv_has ls 3 [(0, .int x0), (1, .int x1), (2, .int x2)] → W p l e R s m args below meth c H locs 0 0 Q (F0 m 4 ls []) := by
    intro x0 x1 x2 H locs ls hf0 hH hl
    unfold f_Chain_bearers_J4 at hf0
    obtain ⟨e4, he4, hf0⟩ := o_b hf0
    unfold f_Chain_bearers_W4 at he4
    refine loop_W (fun t => ∀ (H : Heap) (locs : List Loc) (ls : Array Slot), HW Z M s H locs → lv_has ls 3 [(0, .int x0), (1, .int t.1), (2, .int t.2)] → W p l e R s m args below meth c H locs 0 0 Q (F0 m 4 ls [])) ?_ he4 H locs ls hH hl
    rintro ⟨x1, x2⟩ o1 hf1 hG1 hR1 H locs ls hH hl
    replace hH : HW Z M s H locs := hH
    replace hl : lv_has ls 3 [(0, .int x0), (1, .int x1), (2, .int x2)] := hl
    replace hf1 : f_Chain_bearers_L4 x0 x1 x2 = some o1 := hf1
    unfold f_Chain_bearers_L4 at hf1
    refine lv_iload_n hx hb d_Chain_bearers_4 rfl (lv_at hl 2 rfl) ?_
    refine lv_iload_n hx hb d_Chain_bearers_5 rfl (lv_at hl 0 rfl) ?_
    refine q_cSi (As := [.int x0]) (rest := [.int x2]) S hX hH (c_Chain_size l hI M x0 rfl) (cw_Chain_9 S.2.2.2.2 (Nat.le_trans (Nat.le_of_ble_eq_true rfl) hR.1) (Nat.le_trans (Nat.le_of_ble_eq_true rfl) hR.2)) rfl hl.1 rfl (Nat.le_of_ble_eq_true rfl) d_Chain_bearers_6 ⟨Nat.zero_le _, Nat.zero_le _⟩ (fun H locs hH => ?_)
    refine lv_icmp_ge (tgt := 28) hx hb d_Chain_bearers_9 (by decide) (fun hc => ?_) (fun hc => ?_)
    · replace hf1 := o_t hc hf1
      refine lv_iload_n hx hb d_Chain_bearers_28 rfl (lv_at hl 1 rfl) ?_
      obtain rfl := hR1 _ (o_v hf1).symm
      obtain rfl := o_v hf0
      exact hQ _ _ _ _ hH d_Chain_bearers_29
    · replace hf1 := o_f hc hf1
      refine lv_iload_n hx hb d_Chain_bearers_12 rfl (lv_at hl 1 rfl) ?_
      refine lv_iconst (v := (1 : Int32)) hx hb d_Chain_bearers_13 (by decide) ?_
      refine lv_iload_n hx hb d_Chain_bearers_14 rfl (lv_at hl 0 rfl) ?_
      refine lv_iload_n hx hb d_Chain_bearers_15 rfl (lv_at hl 2 rfl) ?_
      refine q_cSi (As := [.int x0, .int x2]) (rest := [.int (1 : Int32), .int x1]) S hX hH (c_Chain_markAt l hI M x0 x2 rfl) (cw_Chain_15 S.2.2.2.2 (Nat.le_trans (Nat.le_of_ble_eq_true rfl) hR.1) (Nat.le_trans (Nat.le_of_ble_eq_true rfl) hR.2)) rfl hl.1 rfl (Nat.le_of_ble_eq_true rfl) d_Chain_bearers_16 ⟨Nat.zero_le _, Nat.zero_le _⟩ (fun H locs hH => ?_)
      refine lv_ishl hx hb d_Chain_bearers_19 ?_
      refine lv_ior hx hb d_Chain_bearers_20 ?_
      refine lv_istore_n (lv' := [(1, .int (x1 ||| ((1 : Int32) <<< ((f_Chain_markAt x0 x2) &&& 31)))), (0, .int x0), (2, .int x2)]) hx hb d_Chain_bearers_21 rfl hl (by decide) rfl (fun ls hl => ?_)
      refine lv_iinc (v := x2 + (1 : Int32)) (lv' := [(2, .int (x2 + (1 : Int32))), (1, .int (x1 ||| ((1 : Int32) <<< ((f_Chain_markAt x0 x2) &&& 31)))), (0, .int x0)]) hx hb d_Chain_bearers_22 hl (k := 2) rfl rfl (by decide) rfl (fun ls hl => ?_)
      refine lv_goto (tgt := 4) hx hb d_Chain_bearers_25 (by decide) ?_
      exact hG1 _ (o_v hf1).symm _ _ _ hH (lv_sub hl [2, 1, 0] rfl)
  refine lv_iconst (v := (0 : Int32)) hx hb d_Chain_bearers_0 (by decide) ?_
  refine lv_istore_n (lv' := [(1, .int (0 : Int32)), (0, .int x0)]) hx hb d_Chain_bearers_1 rfl hl (by decide) rfl (fun ls hl => ?_)
  refine lv_iconst (v := (0 : Int32)) hx hb d_Chain_bearers_2 (by decide) ?_
  refine lv_istore_n (lv' := [(2, .int (0 : Int32)), (1, .int (0 : Int32)), (0, .int x0)]) hx hb d_Chain_bearers_3 rfl hl (by decide) rfl (fun ls hl => ?_)
  exact J4 _ _ _ _ _ _ hf0 hH (lv_sub hl [2, 1, 0] rfl)
theorem c_Chain_bearers (l : Launch) {Z : WD} (hI : wI Z) (M : Mem) (x0 : Int32) {r : Int32} (hf : f_Chain_bearers x0 = some r) : Ci l Z y_Chain_bearers b_Chain_bearers 3 (some .int) 1 21 [.int x0] M M r := by
  refine Met.ofW (cc := b_Chain_bearers) (maxL := 3) (ret := (some .int)) (by decide) rfl ?_
  intro p e s m args below meth c s₁ B hml hv
  obtain ⟨rfl, hP, hX⟩ := hv
  have S : CallFix p m c b_Chain_bearers 3 s ([.int x0] : List Value).toArray gtb R_Chain := ⟨B.exec, B.bytes, hml, findClass_of_methodNamed B.named, fun w hw => atoms_spec (ws := .code y_Chain_bearers b_Chain_bearers 3 (some .int) :: gtb) B.pre w (List.mem_cons_of_mem _ hw)⟩
  have hl := lv_entry ([.int x0]) (n := 3) (Nat.le_of_ble_eq_true rfl)
  rw [lg_entry_eq]
  exact wk_Chain_bearers hI M x0 S hX ⟨Nat.le_refl _, Nat.le_refl _⟩ (fun pc H locs ls hH d => q_ri S.1 S.2.1 B.returns B.notSynchronized hH rfl rfl d) hf ⟨hP, va_S.rf⟩ hl
theorem cw_Chain_19 {R : Room} {s : State} {args : Array Value} (ht : ∀ w ∈ gtb, w.before args s = true) (h1 : 1 + 1 ≤ R.frames) (h2 : 8 + (3 + 11) + 21 ≤ R.locals) : CallB R s args R_Chain 19 y_Chain_bearers b_Chain_bearers 3 (some .int) (.code y_Chain_bearers b_Chain_bearers 3 (some .int) :: gtb) { frames := 1, cells := 0, slots := 0, locals := 21 } 0 0 1 ∧ (Cond.static y_Chain_bearers).before args s = true := va_cwS 1 ht (gS w2_236 w2_237 w1_6 w2_238) rfl rfl rfl ⟨by decide, by decide, by decide +kernel⟩ ⟨h1, h2⟩
noncomputable def f_Chain_bears (x0 : Int32) (x1 : Int32) : Option Bool := 
    bnd (f_Chain_bearers x0) (fun y2 => if ((y2 >>> (x1 &&& 31)) &&& (1 : Int32)) = 0 then some false else some true)
set_option maxHeartbeats 4000000 in
theorem wk_Chain_bears {l : Launch} {Z : WD} (hI : wI Z) (M : Mem) (x0 : Int32) (x1 : Int32) {r : Bool} {p : Program} {e : Env} {R : Room} {s : State} {m : MethodId} {args : Array Value} {below : List Frame} {meth : Method} {c : Code} {H : Heap} {locs : List Loc} {ls : Array Slot} {Q : State → Prop} (S : CallFix p m c b_Chain_bears 2 s args gtb R_Chain) (hX : wX Z s) (hR : 2 ≤ R.frames ∧ 43 ≤ R.locals) (hQ : ∀ (pc : Nat) (H : Heap) (locs : List Loc) (ls : Array Slot), HW Z M s H locs → decode b_Chain_bears pc = .ok (.ireturn, 1) → W p l e R s m args below meth c H locs 0 0 Q (F0 m pc ls [.int (bI r)])) (hf0 : f_Chain_bears x0 x1 = some r) (hH : HW Z M s H locs) (hl : lv_has ls 2 [(0, .int x0), (1, .int x1)]) : W p l e R s m args below meth c H locs 0 0 Q (F0 m 0 ls []) := by
  have hx := S.1
  have hb := S.2.1
  have hown := S.2.2.2.1
  have ht := S.2.2.2.2
  unfold f_Chain_bears at hf0
  refine lv_iload_n hx hb d_Chain_bears_0 rfl (lv_at hl 0 rfl) ?_
  obtain ⟨y2, hc1, hf0⟩ := o_b hf0
  refine q_cSi (As := [.int x0]) (rest := []) S hX hH (c_Chain_bearers l hI M x0 hc1) (cw_Chain_19 S.2.2.2.2 (Nat.le_trans (Nat.le_of_ble_eq_true rfl) hR.1) (Nat.le_trans (Nat.le_of_ble_eq_true rfl) hR.2)) rfl hl.1 rfl (Nat.le_of_ble_eq_true rfl) d_Chain_bears_1 ⟨Nat.zero_le _, Nat.zero_le _⟩ (fun H locs hH => ?_)
  refine lv_iload_n hx hb d_Chain_bears_4 rfl (lv_at hl 1 rfl) ?_
  refine lv_ishr hx hb d_Chain_bears_5 ?_
  refine lv_iconst (v := (1 : Int32)) hx hb d_Chain_bears_6 (by decide) ?_
  refine lv_iand hx hb d_Chain_bears_7 ?_
  refine lv_if_eq (tgt := 15) hx hb d_Chain_bears_8 (by decide) (fun hc => ?_) (fun hc => ?_)
  · replace hf0 := o_t hc hf0
    refine lv_iconst (v := (0 : Int32)) hx hb d_Chain_bears_15 (by decide) ?_
    obtain rfl := o_v hf0
    exact hQ _ _ _ _ hH d_Chain_bears_16
  · replace hf0 := o_f hc hf0
    refine lv_iconst (v := (1 : Int32)) hx hb d_Chain_bears_11 (by decide) ?_
    refine lv_goto (tgt := 16) hx hb d_Chain_bears_12 (by decide) ?_
    obtain rfl := o_v hf0
    exact hQ _ _ _ _ hH d_Chain_bears_16
theorem c_Chain_bears (l : Launch) {Z : WD} (hI : wI Z) (M : Mem) (x0 : Int32) (x1 : Int32) {r : Bool} (hf : f_Chain_bears x0 x1 = some r) : Ci l Z y_Chain_bears b_Chain_bears 2 (some .boolean) 2 43 [.int x0, .int x1] M M (bI r) := by
  refine Met.ofW (cc := b_Chain_bears) (maxL := 2) (ret := (some .boolean)) (by decide) rfl ?_
  intro p e s m args below meth c s₁ B hml hv
  obtain ⟨rfl, hP, hX⟩ := hv
  have S : CallFix p m c b_Chain_bears 2 s ([.int x0, .int x1] : List Value).toArray gtb R_Chain := ⟨B.exec, B.bytes, hml, findClass_of_methodNamed B.named, fun w hw => atoms_spec (ws := .code y_Chain_bears b_Chain_bears 2 (some .boolean) :: gtb) B.pre w (List.mem_cons_of_mem _ hw)⟩
  have hl := lv_entry ([.int x0, .int x1]) (n := 2) (Nat.le_of_ble_eq_true rfl)
  rw [lg_entry_eq]
  exact wk_Chain_bears hI M x0 x1 S hX ⟨Nat.le_refl _, Nat.le_refl _⟩ (fun pc H locs ls hH d => q_rz S.1 S.2.1 B.returns B.notSynchronized hH rfl rfl d) hf ⟨hP, va_S.rf⟩ hl
theorem cw_Chain_30 {R : Room} {s : State} {args : Array Value} (ht : ∀ w ∈ gtb, w.before args s = true) (h1 : 2 + 1 ≤ R.frames) (h2 : 8 + (2 + 11) + 43 ≤ R.locals) : CallB R s args R_Chain 30 y_Chain_bears b_Chain_bears 2 (some .boolean) (.code y_Chain_bears b_Chain_bears 2 (some .boolean) :: gtb) { frames := 2, cells := 0, slots := 0, locals := 43 } 0 0 2 ∧ (Cond.static y_Chain_bears).before args s = true := va_cwS 2 ht (gS w3_76 w2_234 w1_6 w2_235) rfl rfl rfl ⟨by decide, by decide, by decide +kernel⟩ ⟨h1, h2⟩
theorem cw_Chain_26 {R : Room} {s : State} {args : Array Value} (ht : ∀ w ∈ gtb, w.before args s = true) (h1 : 1 + 1 ≤ R.frames) (h2 : 8 + (3 + 11) + 20 ≤ R.locals) : CallB R s args R_Chain 26 y_Chain_with b_Chain_with 3 (some .int) (.code y_Chain_with b_Chain_with 3 (some .int) :: gtb) { frames := 1, cells := 0, slots := 0, locals := 20 } 0 0 2 ∧ (Cond.static y_Chain_with).before args s = true := va_cwS 2 ht (gS w3_77 w2_5 w1_6 w2_6) rfl rfl rfl ⟨by decide, by decide, by decide +kernel⟩ ⟨h1, h2⟩
noncomputable def f_Chain_ofDigits_J83 (x0 : Int32) (x1 : Int32) (x2 : Int32) : Option ((Int32 × Int32) ⊕ Int32) := some (.inl (x1, x2 / (10 : Int32)))
noncomputable def f_Chain_ofDigits_J45 (x0 : Int32) (x1 : Int32) (x2 : Int32) (x3 : Int32) (s0 : Int32) : Option ((Int32 × Int32) ⊕ Int32) := if s0 = 0 then 
    if x3 < (1 : Int32) then some (.inr (-1 : Int32)) else 
    if (8 : Int32) < x3 then some (.inr (-1 : Int32)) else 
    bnd (f_Chain_bears x1 (x3 - (1 : Int32))) (fun y2 => 
    if (bI y2) = 0 then f_Chain_ofDigits_J83 x0 (f_Chain_with x1 (x3 - (1 : Int32))) x2 else some (.inr (-1 : Int32))) else f_Chain_ofDigits_J83 x0 x1 x2
noncomputable def f_Chain_ofDigits_J44 (x0 : Int32) (x1 : Int32) (x2 : Int32) (x3 : Int32) : Option ((Int32 × Int32) ⊕ Int32) := f_Chain_ofDigits_J45 x0 x1 x2 x3 (0 : Int32)
noncomputable def f_Chain_ofDigits_L20 (x0 : Int32) (x1 : Int32) (x2 : Int32) : Option ((Int32 × Int32) ⊕ Int32) := if x2 < (1 : Int32) then some (.inr x1) else 
    if x2 = 0 then none else if ((x0 / x2) - (x0 / x2) / (10 : Int32) * (10 : Int32)) = 0 then 
    if x1 = 0 then f_Chain_ofDigits_J45 x0 x1 x2 ((x0 / x2) - (x0 / x2) / (10 : Int32) * (10 : Int32)) (1 : Int32) else f_Chain_ofDigits_J44 x0 x1 x2 ((x0 / x2) - (x0 / x2) / (10 : Int32) * (10 : Int32)) else f_Chain_ofDigits_J44 x0 x1 x2 ((x0 / x2) - (x0 / x2) / (10 : Int32) * (10 : Int32))
noncomputable def f_Chain_ofDigits_W20 (x0 : Int32) (u : (Int32 × Int32)) : Option Int32 := loop (fun t => f_Chain_ofDigits_L20 x0 t.1 t.2) u
noncomputable def f_Chain_ofDigits_J20 (x0 : Int32) (x1 : Int32) (x2 : Int32) : Option (Int32) := bnd (f_Chain_ofDigits_W20 x0 (x1, x2)) (fun e20 => some e20)
noncomputable def f_Chain_ofDigits (x0 : Int32) : Option Int32 := 
    if x0 ≤ 0 then some (-1 : Int32) else 
    if (x0 / (10 : Int32)) < (10000000 : Int32) then f_Chain_ofDigits_J20 x0 (0 : Int32) (10000000 : Int32) else some (-1 : Int32)
set_option maxHeartbeats 4000000 in
theorem wk_Chain_ofDigits {l : Launch} {Z : WD} (hI : wI Z) (M : Mem) (x0 : Int32) {r : Int32} {p : Program} {e : Env} {R : Room} {s : State} {m : MethodId} {args : Array Value} {below : List Frame} {meth : Method} {c : Code} {H : Heap} {locs : List Loc} {ls : Array Slot} {Q : State → Prop} (S : CallFix p m c b_Chain_ofDigits 5 s args gtb R_Chain) (hX : wX Z s) (hR : 3 ≤ R.frames ∧ 64 ≤ R.locals) (hQ : ∀ (pc : Nat) (H : Heap) (locs : List Loc) (ls : Array Slot), HW Z M s H locs → decode b_Chain_ofDigits pc = .ok (.ireturn, 1) → W p l e R s m args below meth c H locs 0 0 Q (F0 m pc ls [.int r])) (hf0 : f_Chain_ofDigits x0 = some r) (hH : HW Z M s H locs) (hl : lv_has ls 5 [(0, .int x0)]) : W p l e R s m args below meth c H locs 0 0 Q (F0 m 0 ls []) := by
  have hx := S.1
  have hb := S.2.1
  have hown := S.2.2.2.1
  have ht := S.2.2.2.2
  unfold f_Chain_ofDigits at hf0
  have J20 : ∀ (x0 : Int32) (x1 : Int32) (x2 : Int32) (H : Heap) (locs : List Loc) (ls : Array Slot), f_Chain_ofDigits_J20 x0 x1 x2 = some r → HW Z M s H locs → lv_has ls 5 [(0, .int x0), (1, .int x1), (2, .int x2)] → W p l e R s m args below meth c H locs 0 0 Q (F0 m 20 ls []) := by
    intro x0 x1 x2 H locs ls hf0 hH hl
    unfold f_Chain_ofDigits_J20 at hf0
    obtain ⟨e20, he20, hf0⟩ := o_b hf0
    unfold f_Chain_ofDigits_W20 at he20
    refine loop_W (fun t => ∀ (H : Heap) (locs : List Loc) (ls : Array Slot), HW Z M s H locs → lv_has ls 5 [(0, .int x0), (1, .int t.1), (2, .int t.2)] → W p l e R s m args below meth c H locs 0 0 Q (F0 m 20 ls [])) ?_ he20 H locs ls hH hl
    rintro ⟨x1, x2⟩ o1 hf1 hG1 hR1 H locs ls hH hl
    replace hH : HW Z M s H locs := hH
    replace hl : lv_has ls 5 [(0, .int x0), (1, .int x1), (2, .int x2)] := hl
    replace hf1 : f_Chain_ofDigits_L20 x0 x1 x2 = some o1 := hf1
    unfold f_Chain_ofDigits_L20 at hf1
    have J83 : ∀ (x1 : Int32) (x2 : Int32) (H : Heap) (locs : List Loc) (ls : Array Slot), f_Chain_ofDigits_J83 x0 x1 x2 = some o1 → HW Z M s H locs → lv_has ls 5 [(0, .int x0), (1, .int x1), (2, .int x2)] → W p l e R s m args below meth c H locs 0 0 Q (F0 m 83 ls []) := by
      intro x1 x2 H locs ls hf1 hH hl
      unfold f_Chain_ofDigits_J83 at hf1
      refine lv_iload_n hx hb d_Chain_ofDigits_83 rfl (lv_at hl 2 rfl) ?_
      refine lv_bipush (v := (10 : Int32)) hx hb d_Chain_ofDigits_84 (by decide) ?_
      refine lv_idiv hx hb d_Chain_ofDigits_86 (by decide) ?_
      refine lv_istore_n (lv' := [(2, .int (x2 / (10 : Int32))), (0, .int x0), (1, .int x1)]) hx hb d_Chain_ofDigits_87 rfl hl (by decide) rfl (fun ls hl => ?_)
      refine lv_goto (tgt := 20) hx hb d_Chain_ofDigits_88 (by decide) ?_
      exact hG1 _ (o_v hf1).symm _ _ _ hH (lv_sub hl [1, 2, 0] rfl)
    have J45 : ∀ (x1 : Int32) (x2 : Int32) (x3 : Int32) (s0 : Int32) (H : Heap) (locs : List Loc) (ls : Array Slot), f_Chain_ofDigits_J45 x0 x1 x2 x3 s0 = some o1 → HW Z M s H locs → lv_has ls 5 [(0, .int x0), (1, .int x1), (2, .int x2), (3, .int x3)] → W p l e R s m args below meth c H locs 0 0 Q (F0 m 45 ls [.int s0]) := by
      intro x1 x2 x3 s0 H locs ls hf1 hH hl
      unfold f_Chain_ofDigits_J45 at hf1
      refine lv_istore (lv' := [(4, .int s0), (0, .int x0), (1, .int x1), (2, .int x2), (3, .int x3)]) hx hb d_Chain_ofDigits_45 hl (by decide) rfl (fun ls hl => ?_)
      refine lv_iload hx hb d_Chain_ofDigits_47 (lv_at hl 0 rfl) ?_
      refine lv_if_ne (tgt := 83) hx hb d_Chain_ofDigits_49 (by decide) (fun hc => ?_) (fun hc => ?_)
      · replace hf1 := o_f hc hf1
        exact J83 _ _ _ _ _ hf1 hH (lv_sub hl [1, 2, 3] rfl)
      · replace hf1 := o_t hc hf1
        refine lv_iload_n hx hb d_Chain_ofDigits_52 rfl (lv_at hl 4 rfl) ?_
        refine lv_iconst (v := (1 : Int32)) hx hb d_Chain_ofDigits_53 (by decide) ?_
        refine lv_icmp_lt (tgt := 73) hx hb d_Chain_ofDigits_54 (by decide) (fun hc => ?_) (fun hc => ?_)
        · replace hf1 := o_t hc hf1
          refine lv_iconst (v := (-1 : Int32)) hx hb d_Chain_ofDigits_73 (by decide) ?_
          obtain rfl := hR1 _ (o_v hf1).symm
          obtain rfl := o_v hf0
          exact hQ _ _ _ _ hH d_Chain_ofDigits_74
        · replace hf1 := o_f hc hf1
          refine lv_iload_n hx hb d_Chain_ofDigits_57 rfl (lv_at hl 4 rfl) ?_
          refine lv_bipush (v := (8 : Int32)) hx hb d_Chain_ofDigits_58 (by decide) ?_
          refine lv_icmp_gt (tgt := 73) hx hb d_Chain_ofDigits_60 (by decide) (fun hc => ?_) (fun hc => ?_)
          · replace hf1 := o_t hc hf1
            refine lv_iconst (v := (-1 : Int32)) hx hb d_Chain_ofDigits_73 (by decide) ?_
            obtain rfl := hR1 _ (o_v hf1).symm
            obtain rfl := o_v hf0
            exact hQ _ _ _ _ hH d_Chain_ofDigits_74
          · replace hf1 := o_f hc hf1
            refine lv_iload_n hx hb d_Chain_ofDigits_63 rfl (lv_at hl 2 rfl) ?_
            refine lv_iload_n hx hb d_Chain_ofDigits_64 rfl (lv_at hl 4 rfl) ?_
            refine lv_iconst (v := (1 : Int32)) hx hb d_Chain_ofDigits_65 (by decide) ?_
            refine lv_isub hx hb d_Chain_ofDigits_66 ?_
            obtain ⟨y2, hc1, hf1⟩ := o_b hf1
            refine q_cSi (As := [.int x1, .int (x3 - (1 : Int32))]) (rest := []) S hX hH (c_Chain_bears l hI M x1 (x3 - (1 : Int32)) hc1) (cw_Chain_30 S.2.2.2.2 (Nat.le_trans (Nat.le_of_ble_eq_true rfl) hR.1) (Nat.le_trans (Nat.le_of_ble_eq_true rfl) hR.2)) rfl hl.1 rfl (Nat.le_of_ble_eq_true rfl) d_Chain_ofDigits_67 ⟨Nat.zero_le _, Nat.zero_le _⟩ (fun H locs hH => ?_)
            refine lv_if_eq (tgt := 75) hx hb d_Chain_ofDigits_70 (by decide) (fun hc => ?_) (fun hc => ?_)
            · replace hf1 := o_t hc hf1
              refine lv_iload_n hx hb d_Chain_ofDigits_75 rfl (lv_at hl 2 rfl) ?_
              refine lv_iload_n hx hb d_Chain_ofDigits_76 rfl (lv_at hl 4 rfl) ?_
              refine lv_iconst (v := (1 : Int32)) hx hb d_Chain_ofDigits_77 (by decide) ?_
              refine lv_isub hx hb d_Chain_ofDigits_78 ?_
              refine q_cSi (As := [.int x1, .int (x3 - (1 : Int32))]) (rest := []) S hX hH (c_Chain_with l hI M x1 (x3 - (1 : Int32)) rfl) (cw_Chain_26 S.2.2.2.2 (Nat.le_trans (Nat.le_of_ble_eq_true rfl) hR.1) (Nat.le_trans (Nat.le_of_ble_eq_true rfl) hR.2)) rfl hl.1 rfl (Nat.le_of_ble_eq_true rfl) d_Chain_ofDigits_79 ⟨Nat.zero_le _, Nat.zero_le _⟩ (fun H locs hH => ?_)
              refine lv_istore_n (lv' := [(1, .int (f_Chain_with x1 (x3 - (1 : Int32)))), (4, .int s0), (0, .int x0), (2, .int x2), (3, .int x3)]) hx hb d_Chain_ofDigits_82 rfl hl (by decide) rfl (fun ls hl => ?_)
              exact J83 _ _ _ _ _ hf1 hH (lv_sub hl [2, 0, 3] rfl)
            · replace hf1 := o_f hc hf1
              refine lv_iconst (v := (-1 : Int32)) hx hb d_Chain_ofDigits_73 (by decide) ?_
              obtain rfl := hR1 _ (o_v hf1).symm
              obtain rfl := o_v hf0
              exact hQ _ _ _ _ hH d_Chain_ofDigits_74
    have J44 : ∀ (x1 : Int32) (x2 : Int32) (x3 : Int32) (H : Heap) (locs : List Loc) (ls : Array Slot), f_Chain_ofDigits_J44 x0 x1 x2 x3 = some o1 → HW Z M s H locs → lv_has ls 5 [(0, .int x0), (1, .int x1), (2, .int x2), (3, .int x3)] → W p l e R s m args below meth c H locs 0 0 Q (F0 m 44 ls []) := by
      intro x1 x2 x3 H locs ls hf1 hH hl
      unfold f_Chain_ofDigits_J44 at hf1
      refine lv_iconst (v := (0 : Int32)) hx hb d_Chain_ofDigits_44 (by decide) ?_
      exact J45 _ _ _ _ _ _ _ hf1 hH (lv_sub hl [0, 1, 2, 3] rfl)
    refine lv_iload_n hx hb d_Chain_ofDigits_20 rfl (lv_at hl 2 rfl) ?_
    refine lv_iconst (v := (1 : Int32)) hx hb d_Chain_ofDigits_21 (by decide) ?_
    refine lv_icmp_lt (tgt := 91) hx hb d_Chain_ofDigits_22 (by decide) (fun hc => ?_) (fun hc => ?_)
    · replace hf1 := o_t hc hf1
      refine lv_iload_n hx hb d_Chain_ofDigits_91 rfl (lv_at hl 1 rfl) ?_
      obtain rfl := hR1 _ (o_v hf1).symm
      obtain rfl := o_v hf0
      exact hQ _ _ _ _ hH d_Chain_ofDigits_92
    · replace hf1 := o_f hc hf1
      refine lv_iload_n hx hb d_Chain_ofDigits_25 rfl (lv_at hl 0 rfl) ?_
      refine lv_iload_n hx hb d_Chain_ofDigits_26 rfl (lv_at hl 2 rfl) ?_
      obtain ⟨hz3, hf1⟩ := o_nz hf1
      refine lv_idiv hx hb d_Chain_ofDigits_27 hz3 ?_
      refine lv_bipush (v := (10 : Int32)) hx hb d_Chain_ofDigits_28 (by decide) ?_
      refine lv_irem hx hb d_Chain_ofDigits_30 (by decide) ?_
      refine lv_istore_n (lv' := [(3, .int ((x0 / x2) - (x0 / x2) / (10 : Int32) * (10 : Int32))), (0, .int x0), (1, .int x1), (2, .int x2)]) hx hb d_Chain_ofDigits_31 rfl hl (by decide) rfl (fun ls hl => ?_)
      refine lv_iload_n hx hb d_Chain_ofDigits_32 rfl (lv_at hl 0 rfl) ?_
      refine lv_if_ne (tgt := 44) hx hb d_Chain_ofDigits_33 (by decide) (fun hc => ?_) (fun hc => ?_)
      · replace hf1 := o_f hc hf1
        exact J44 _ _ _ _ _ _ hf1 hH (lv_sub hl [1, 2, 3, 0] rfl)
      · replace hf1 := o_t hc hf1
        refine lv_iload_n hx hb d_Chain_ofDigits_36 rfl (lv_at hl 2 rfl) ?_
        refine lv_if_ne (tgt := 44) hx hb d_Chain_ofDigits_37 (by decide) (fun hc => ?_) (fun hc => ?_)
        · replace hf1 := o_f hc hf1
          exact J44 _ _ _ _ _ _ hf1 hH (lv_sub hl [1, 2, 3, 0] rfl)
        · replace hf1 := o_t hc hf1
          refine lv_iconst (v := (1 : Int32)) hx hb d_Chain_ofDigits_40 (by decide) ?_
          refine lv_goto (tgt := 45) hx hb d_Chain_ofDigits_41 (by decide) ?_
          exact J45 _ _ _ _ _ _ _ hf1 hH (lv_sub hl [1, 2, 3, 0] rfl)
  refine lv_iload_n hx hb d_Chain_ofDigits_0 rfl (lv_at hl 0 rfl) ?_
  refine lv_if_le (tgt := 13) hx hb d_Chain_ofDigits_1 (by decide) (fun hc => ?_) (fun hc => ?_)
  · replace hf0 := o_t hc hf0
    refine lv_iconst (v := (-1 : Int32)) hx hb d_Chain_ofDigits_13 (by decide) ?_
    obtain rfl := o_v hf0
    exact hQ _ _ _ _ hH d_Chain_ofDigits_14
  · replace hf0 := o_f hc hf0
    refine lv_iload_n hx hb d_Chain_ofDigits_4 rfl (lv_at hl 0 rfl) ?_
    refine lv_bipush (v := (10 : Int32)) hx hb d_Chain_ofDigits_5 (by decide) ?_
    refine lv_idiv hx hb d_Chain_ofDigits_7 (by decide) ?_
    refine lv_ldc (v := (10000000 : Int32)) hx hb hown (ht _ w3_75) d_Chain_ofDigits_8 ?_
    refine lv_icmp_lt (tgt := 15) hx hb d_Chain_ofDigits_10 (by decide) (fun hc => ?_) (fun hc => ?_)
    · replace hf0 := o_t hc hf0
      refine lv_iconst (v := (0 : Int32)) hx hb d_Chain_ofDigits_15 (by decide) ?_
      refine lv_istore_n (lv' := [(1, .int (0 : Int32)), (0, .int x0)]) hx hb d_Chain_ofDigits_16 rfl hl (by decide) rfl (fun ls hl => ?_)
      refine lv_ldc (v := (10000000 : Int32)) hx hb hown (ht _ w3_75) d_Chain_ofDigits_17 ?_
      refine lv_istore_n (lv' := [(2, .int (10000000 : Int32)), (1, .int (0 : Int32)), (0, .int x0)]) hx hb d_Chain_ofDigits_19 rfl hl (by decide) rfl (fun ls hl => ?_)
      exact J20 _ _ _ _ _ _ hf0 hH (lv_sub hl [2, 1, 0] rfl)
    · replace hf0 := o_f hc hf0
      refine lv_iconst (v := (-1 : Int32)) hx hb d_Chain_ofDigits_13 (by decide) ?_
      obtain rfl := o_v hf0
      exact hQ _ _ _ _ hH d_Chain_ofDigits_14
theorem c_Chain_ofDigits (l : Launch) {Z : WD} (hI : wI Z) (M : Mem) (x0 : Int32) {r : Int32} (hf : f_Chain_ofDigits x0 = some r) : Ci l Z y_Chain_ofDigits b_Chain_ofDigits 5 (some .int) 3 64 [.int x0] M M r := by
  refine Met.ofW (cc := b_Chain_ofDigits) (maxL := 5) (ret := (some .int)) (by decide) rfl ?_
  intro p e s m args below meth c s₁ B hml hv
  obtain ⟨rfl, hP, hX⟩ := hv
  have S : CallFix p m c b_Chain_ofDigits 5 s ([.int x0] : List Value).toArray gtb R_Chain := ⟨B.exec, B.bytes, hml, findClass_of_methodNamed B.named, fun w hw => atoms_spec (ws := .code y_Chain_ofDigits b_Chain_ofDigits 5 (some .int) :: gtb) B.pre w (List.mem_cons_of_mem _ hw)⟩
  have hl := lv_entry ([.int x0]) (n := 5) (Nat.le_of_ble_eq_true rfl)
  rw [lg_entry_eq]
  exact wk_Chain_ofDigits hI M x0 S hX ⟨Nat.le_refl _, Nat.le_refl _⟩ (fun pc H locs ls hH d => q_ri S.1 S.2.1 B.returns B.notSynchronized hH rfl rfl d) hf ⟨hP, va_S.rf⟩ hl
noncomputable def f_MC_isValue_J13  : Bool := false
noncomputable def f_MC_isValue (x0 : Int32) : Bool := if x0 < 0 then f_MC_isValue_J13 else if (4 : Int32) ≤ x0 then f_MC_isValue_J13 else true
set_option maxHeartbeats 4000000 in
theorem wk_MC_isValue {l : Launch} {Z : WD} (hI : wI Z) (M : Mem) (x0 : Int32) {r : Bool} {p : Program} {e : Env} {R : Room} {s : State} {m : MethodId} {args : Array Value} {below : List Frame} {meth : Method} {c : Code} {H : Heap} {locs : List Loc} {ls : Array Slot} {Q : State → Prop} (S : CallFix p m c b_MC_isValue 1 s args gtb R_MC) (hX : wX Z s) (hR : 0 ≤ R.frames ∧ 0 ≤ R.locals) (hQ : ∀ (pc : Nat) (H : Heap) (locs : List Loc) (ls : Array Slot), HW Z M s H locs → decode b_MC_isValue pc = .ok (.ireturn, 1) → W p l e R s m args below meth c H locs 0 0 Q (F0 m pc ls [.int (bI r)])) (hf0 : f_MC_isValue x0 = r) (hH : HW Z M s H locs) (hl : lv_has ls 1 [(0, .int x0)]) : W p l e R s m args below meth c H locs 0 0 Q (F0 m 0 ls []) := by
  have hx := S.1
  have hb := S.2.1
  have hown := S.2.2.2.1
  have ht := S.2.2.2.2
  unfold f_MC_isValue at hf0
  have J13 : ∀ (H : Heap) (locs : List Loc) (ls : Array Slot), f_MC_isValue_J13 = r → HW Z M s H locs → lv_has ls 1 [] → W p l e R s m args below meth c H locs 0 0 Q (F0 m 13 ls []) := by
    intro H locs ls hf0 hH hl
    unfold f_MC_isValue_J13 at hf0
    refine lv_iconst (v := (0 : Int32)) hx hb d_MC_isValue_13 (by decide) ?_
    subst hf0
    exact hQ _ _ _ _ hH d_MC_isValue_14
  refine lv_iload_n hx hb d_MC_isValue_0 rfl (lv_at hl 0 rfl) ?_
  refine lv_if_lt (tgt := 13) hx hb d_MC_isValue_1 (by decide) (fun hc => ?_) (fun hc => ?_)
  · replace hf0 := o_t hc hf0
    exact J13 _ _ _ hf0 hH (lv_sub hl [] rfl)
  · replace hf0 := o_f hc hf0
    refine lv_iload_n hx hb d_MC_isValue_4 rfl (lv_at hl 0 rfl) ?_
    refine lv_iconst (v := (4 : Int32)) hx hb d_MC_isValue_5 (by decide) ?_
    refine lv_icmp_ge (tgt := 13) hx hb d_MC_isValue_6 (by decide) (fun hc => ?_) (fun hc => ?_)
    · replace hf0 := o_t hc hf0
      exact J13 _ _ _ hf0 hH (lv_sub hl [] rfl)
    · replace hf0 := o_f hc hf0
      refine lv_iconst (v := (1 : Int32)) hx hb d_MC_isValue_9 (by decide) ?_
      refine lv_goto (tgt := 14) hx hb d_MC_isValue_10 (by decide) ?_
      subst hf0
      exact hQ _ _ _ _ hH d_MC_isValue_14
theorem c_MC_isValue (l : Launch) {Z : WD} (hI : wI Z) (M : Mem) (x0 : Int32) {r : Bool} (hf : f_MC_isValue x0 = r) : Ci l Z y_MC_isValue b_MC_isValue 1 (some .boolean) 0 0 [.int x0] M M (bI r) := by
  refine Met.ofW (cc := b_MC_isValue) (maxL := 1) (ret := (some .boolean)) (by decide) rfl ?_
  intro p e s m args below meth c s₁ B hml hv
  obtain ⟨rfl, hP, hX⟩ := hv
  have S : CallFix p m c b_MC_isValue 1 s ([.int x0] : List Value).toArray gtb R_MC := ⟨B.exec, B.bytes, hml, findClass_of_methodNamed B.named, fun w hw => atoms_spec (ws := .code y_MC_isValue b_MC_isValue 1 (some .boolean) :: gtb) B.pre w (List.mem_cons_of_mem _ hw)⟩
  have hl := lv_entry ([.int x0]) (n := 1) (Nat.le_of_ble_eq_true rfl)
  rw [lg_entry_eq]
  exact wk_MC_isValue hI M x0 S hX ⟨Nat.le_refl _, Nat.le_refl _⟩ (fun pc H locs ls hH d => q_rz S.1 S.2.1 B.returns B.notSynchronized hH rfl rfl d) hf ⟨hP, va_S.rf⟩ hl
noncomputable def f_Int_bitCount (x0 : Int32) : Int32 := 
    lt1 (x0 - (((x0.toUInt32 >>> ((1 : Int32).toUInt32 &&& Int32.toUInt32 31)).toInt32) &&& (1431655765 : Int32))) (fun y1 => lt1 ((y1 &&& (858993459 : Int32)) + (((y1.toUInt32 >>> ((2 : Int32).toUInt32 &&& Int32.toUInt32 31)).toInt32) &&& (858993459 : Int32))) (fun y2 => lt1 ((y2 + ((y2.toUInt32 >>> ((4 : Int32).toUInt32 &&& Int32.toUInt32 31)).toInt32)) &&& (252645135 : Int32)) (fun y3 => lt1 (y3 + ((y3.toUInt32 >>> ((8 : Int32).toUInt32 &&& Int32.toUInt32 31)).toInt32)) (fun y4 => lt1 (y4 + ((y4.toUInt32 >>> ((16 : Int32).toUInt32 &&& Int32.toUInt32 31)).toInt32)) (fun y5 => y5 &&& (63 : Int32))))))
set_option maxHeartbeats 4000000 in
theorem wk_Int_bitCount {l : Launch} {Z : WD} (hI : wI Z) (M : Mem) (x0 : Int32) {r : Int32} {p : Program} {e : Env} {R : Room} {s : State} {m : MethodId} {args : Array Value} {below : List Frame} {meth : Method} {c : Code} {H : Heap} {locs : List Loc} {ls : Array Slot} {Q : State → Prop} (S : CallFix p m c b_Int_bitCount 1 s args gtb R_Int) (hX : wX Z s) (hR : 0 ≤ R.frames ∧ 0 ≤ R.locals) (hQ : ∀ (pc : Nat) (H : Heap) (locs : List Loc) (ls : Array Slot), HW Z M s H locs → decode b_Int_bitCount pc = .ok (.ireturn, 1) → W p l e R s m args below meth c H locs 0 0 Q (F0 m pc ls [.int r])) (hf0 : f_Int_bitCount x0 = r) (hH : HW Z M s H locs) (hl : lv_has ls 1 [(0, .int x0)]) : W p l e R s m args below meth c H locs 0 0 Q (F0 m 0 ls []) := by
  have hx := S.1
  have hb := S.2.1
  have hown := S.2.2.2.1
  have ht := S.2.2.2.2
  unfold f_Int_bitCount at hf0
  refine lv_iload_n hx hb d_Int_bitCount_0 rfl (lv_at hl 0 rfl) ?_
  refine lv_iload_n hx hb d_Int_bitCount_1 rfl (lv_at hl 0 rfl) ?_
  refine lv_iconst (v := (1 : Int32)) hx hb d_Int_bitCount_2 (by decide) ?_
  refine lv_iushr hx hb d_Int_bitCount_3 rfl ?_
  refine lv_ldcw (v := (1431655765 : Int32)) hx hb hown (ht _ w3_129) d_Int_bitCount_4 ?_
  refine lv_iand hx hb d_Int_bitCount_7 ?_
  refine lv_isub hx hb d_Int_bitCount_8 ?_
  obtain ⟨y1, hy1, hf0⟩ := o_l hf0
  refine lv_nm hy1 ?_
  refine lv_istore_n (lv' := [(0, .int y1)]) hx hb d_Int_bitCount_9 rfl hl (by decide) rfl (fun ls hl => ?_)
  refine lv_iload_n hx hb d_Int_bitCount_10 rfl (lv_at hl 0 rfl) ?_
  refine lv_ldcw (v := (858993459 : Int32)) hx hb hown (ht _ w3_130) d_Int_bitCount_11 ?_
  refine lv_iand hx hb d_Int_bitCount_14 ?_
  refine lv_iload_n hx hb d_Int_bitCount_15 rfl (lv_at hl 0 rfl) ?_
  refine lv_iconst (v := (2 : Int32)) hx hb d_Int_bitCount_16 (by decide) ?_
  refine lv_iushr hx hb d_Int_bitCount_17 rfl ?_
  refine lv_ldcw (v := (858993459 : Int32)) hx hb hown (ht _ w3_130) d_Int_bitCount_18 ?_
  refine lv_iand hx hb d_Int_bitCount_21 ?_
  refine lv_iadd hx hb d_Int_bitCount_22 ?_
  obtain ⟨y2, hy2, hf0⟩ := o_l hf0
  refine lv_nm hy2 ?_
  refine lv_istore_n (lv' := [(0, .int y2)]) hx hb d_Int_bitCount_23 rfl hl (by decide) rfl (fun ls hl => ?_)
  refine lv_iload_n hx hb d_Int_bitCount_24 rfl (lv_at hl 0 rfl) ?_
  refine lv_iload_n hx hb d_Int_bitCount_25 rfl (lv_at hl 0 rfl) ?_
  refine lv_iconst (v := (4 : Int32)) hx hb d_Int_bitCount_26 (by decide) ?_
  refine lv_iushr hx hb d_Int_bitCount_27 rfl ?_
  refine lv_iadd hx hb d_Int_bitCount_28 ?_
  refine lv_ldcw (v := (252645135 : Int32)) hx hb hown (ht _ w3_131) d_Int_bitCount_29 ?_
  refine lv_iand hx hb d_Int_bitCount_32 ?_
  obtain ⟨y3, hy3, hf0⟩ := o_l hf0
  refine lv_nm hy3 ?_
  refine lv_istore_n (lv' := [(0, .int y3)]) hx hb d_Int_bitCount_33 rfl hl (by decide) rfl (fun ls hl => ?_)
  refine lv_iload_n hx hb d_Int_bitCount_34 rfl (lv_at hl 0 rfl) ?_
  refine lv_iload_n hx hb d_Int_bitCount_35 rfl (lv_at hl 0 rfl) ?_
  refine lv_bipush (v := (8 : Int32)) hx hb d_Int_bitCount_36 (by decide) ?_
  refine lv_iushr hx hb d_Int_bitCount_38 rfl ?_
  refine lv_iadd hx hb d_Int_bitCount_39 ?_
  obtain ⟨y4, hy4, hf0⟩ := o_l hf0
  refine lv_nm hy4 ?_
  refine lv_istore_n (lv' := [(0, .int y4)]) hx hb d_Int_bitCount_40 rfl hl (by decide) rfl (fun ls hl => ?_)
  refine lv_iload_n hx hb d_Int_bitCount_41 rfl (lv_at hl 0 rfl) ?_
  refine lv_iload_n hx hb d_Int_bitCount_42 rfl (lv_at hl 0 rfl) ?_
  refine lv_bipush (v := (16 : Int32)) hx hb d_Int_bitCount_43 (by decide) ?_
  refine lv_iushr hx hb d_Int_bitCount_45 rfl ?_
  refine lv_iadd hx hb d_Int_bitCount_46 ?_
  obtain ⟨y5, hy5, hf0⟩ := o_l hf0
  refine lv_nm hy5 ?_
  refine lv_istore_n (lv' := [(0, .int y5)]) hx hb d_Int_bitCount_47 rfl hl (by decide) rfl (fun ls hl => ?_)
  refine lv_iload_n hx hb d_Int_bitCount_48 rfl (lv_at hl 0 rfl) ?_
  refine lv_bipush (v := (63 : Int32)) hx hb d_Int_bitCount_49 (by decide) ?_
  refine lv_iand hx hb d_Int_bitCount_51 ?_
  subst hf0
  exact hQ _ _ _ _ hH d_Int_bitCount_52
theorem c_Int_bitCount (l : Launch) {Z : WD} (hI : wI Z) (M : Mem) (x0 : Int32) {r : Int32} (hf : f_Int_bitCount x0 = r) : Ci l Z y_Int_bitCount b_Int_bitCount 1 (some .int) 0 0 [.int x0] M M r := by
  refine Met.ofW (cc := b_Int_bitCount) (maxL := 1) (ret := (some .int)) (by decide) rfl ?_
  intro p e s m args below meth c s₁ B hml hv
  obtain ⟨rfl, hP, hX⟩ := hv
  have S : CallFix p m c b_Int_bitCount 1 s ([.int x0] : List Value).toArray gtb R_Int := ⟨B.exec, B.bytes, hml, findClass_of_methodNamed B.named, fun w hw => atoms_spec (ws := .code y_Int_bitCount b_Int_bitCount 1 (some .int) :: gtb) B.pre w (List.mem_cons_of_mem _ hw)⟩
  have hl := lv_entry ([.int x0]) (n := 1) (Nat.le_of_ble_eq_true rfl)
  rw [lg_entry_eq]
  exact wk_Int_bitCount hI M x0 S hX ⟨Nat.le_refl _, Nat.le_refl _⟩ (fun pc H locs ls hH d => q_ri S.1 S.2.1 B.returns B.notSynchronized hH rfl rfl d) hf ⟨hP, va_S.rf⟩ hl
noncomputable def f_MC_leastOf_L2 (x0 : Int32) (x1 : Int32) : Option (Int32 ⊕ Int32) := if (8 : Int32) ≤ x1 then some (.inr (0 : Int32)) else 
    if ((x0 >>> (x1 &&& 31)) &&& (1 : Int32)) = 0 then some (.inl (x1 + (1 : Int32))) else some (.inr x1)
noncomputable def f_MC_leastOf_W2 (x0 : Int32) (u : Int32) : Option Int32 := loop (fun t => f_MC_leastOf_L2 x0 t) u
noncomputable def f_MC_leastOf_J2 (x0 : Int32) (x1 : Int32) : Option (Int32) := bnd (f_MC_leastOf_W2 x0 x1) (fun e2 => some e2)
noncomputable def f_MC_leastOf (x0 : Int32) : Option Int32 := f_MC_leastOf_J2 x0 (0 : Int32)
set_option maxHeartbeats 4000000 in
theorem wk_MC_leastOf {l : Launch} {Z : WD} (hI : wI Z) (M : Mem) (x0 : Int32) {r : Int32} {p : Program} {e : Env} {R : Room} {s : State} {m : MethodId} {args : Array Value} {below : List Frame} {meth : Method} {c : Code} {H : Heap} {locs : List Loc} {ls : Array Slot} {Q : State → Prop} (S : CallFix p m c b_MC_leastOf 2 s args gtb R_MC) (hX : wX Z s) (hR : 0 ≤ R.frames ∧ 0 ≤ R.locals) (hQ : ∀ (pc : Nat) (H : Heap) (locs : List Loc) (ls : Array Slot), HW Z M s H locs → decode b_MC_leastOf pc = .ok (.ireturn, 1) → W p l e R s m args below meth c H locs 0 0 Q (F0 m pc ls [.int r])) (hf0 : f_MC_leastOf x0 = some r) (hH : HW Z M s H locs) (hl : lv_has ls 2 [(0, .int x0)]) : W p l e R s m args below meth c H locs 0 0 Q (F0 m 0 ls []) := by
  have hx := S.1
  have hb := S.2.1
  have hown := S.2.2.2.1
  have ht := S.2.2.2.2
  unfold f_MC_leastOf at hf0
  have J2 : ∀ (x0 : Int32) (x1 : Int32) (H : Heap) (locs : List Loc) (ls : Array Slot), f_MC_leastOf_J2 x0 x1 = some r → HW Z M s H locs → lv_has ls 2 [(0, .int x0), (1, .int x1)] → W p l e R s m args below meth c H locs 0 0 Q (F0 m 2 ls []) := by
    intro x0 x1 H locs ls hf0 hH hl
    unfold f_MC_leastOf_J2 at hf0
    obtain ⟨e2, he2, hf0⟩ := o_b hf0
    unfold f_MC_leastOf_W2 at he2
    refine loop_W (fun t => ∀ (H : Heap) (locs : List Loc) (ls : Array Slot), HW Z M s H locs → lv_has ls 2 [(0, .int x0), (1, .int t)] → W p l e R s m args below meth c H locs 0 0 Q (F0 m 2 ls [])) ?_ he2 H locs ls hH hl
    rintro x1 o1 hf1 hG1 hR1 H locs ls hH hl
    replace hH : HW Z M s H locs := hH
    replace hl : lv_has ls 2 [(0, .int x0), (1, .int x1)] := hl
    replace hf1 : f_MC_leastOf_L2 x0 x1 = some o1 := hf1
    unfold f_MC_leastOf_L2 at hf1
    refine lv_iload_n hx hb d_MC_leastOf_2 rfl (lv_at hl 1 rfl) ?_
    refine lv_bipush (v := (8 : Int32)) hx hb d_MC_leastOf_3 (by decide) ?_
    refine lv_icmp_ge (tgt := 24) hx hb d_MC_leastOf_5 (by decide) (fun hc => ?_) (fun hc => ?_)
    · replace hf1 := o_t hc hf1
      refine lv_iconst (v := (0 : Int32)) hx hb d_MC_leastOf_24 (by decide) ?_
      obtain rfl := hR1 _ (o_v hf1).symm
      obtain rfl := o_v hf0
      exact hQ _ _ _ _ hH d_MC_leastOf_25
    · replace hf1 := o_f hc hf1
      refine lv_iload_n hx hb d_MC_leastOf_8 rfl (lv_at hl 0 rfl) ?_
      refine lv_iload_n hx hb d_MC_leastOf_9 rfl (lv_at hl 1 rfl) ?_
      refine lv_ishr hx hb d_MC_leastOf_10 ?_
      refine lv_iconst (v := (1 : Int32)) hx hb d_MC_leastOf_11 (by decide) ?_
      refine lv_iand hx hb d_MC_leastOf_12 ?_
      refine lv_if_eq (tgt := 18) hx hb d_MC_leastOf_13 (by decide) (fun hc => ?_) (fun hc => ?_)
      · replace hf1 := o_t hc hf1
        refine lv_iinc (v := x1 + (1 : Int32)) (lv' := [(1, .int (x1 + (1 : Int32))), (0, .int x0)]) hx hb d_MC_leastOf_18 hl (k := 1) rfl rfl (by decide) rfl (fun ls hl => ?_)
        refine lv_goto (tgt := 2) hx hb d_MC_leastOf_21 (by decide) ?_
        exact hG1 _ (o_v hf1).symm _ _ _ hH (lv_sub hl [1, 0] rfl)
      · replace hf1 := o_f hc hf1
        refine lv_iload_n hx hb d_MC_leastOf_16 rfl (lv_at hl 1 rfl) ?_
        obtain rfl := hR1 _ (o_v hf1).symm
        obtain rfl := o_v hf0
        exact hQ _ _ _ _ hH d_MC_leastOf_17
  refine lv_iconst (v := (0 : Int32)) hx hb d_MC_leastOf_0 (by decide) ?_
  refine lv_istore_n (lv' := [(1, .int (0 : Int32)), (0, .int x0)]) hx hb d_MC_leastOf_1 rfl hl (by decide) rfl (fun ls hl => ?_)
  exact J2 _ _ _ _ _ hf0 hH (lv_sub hl [1, 0] rfl)
theorem c_MC_leastOf (l : Launch) {Z : WD} (hI : wI Z) (M : Mem) (x0 : Int32) {r : Int32} (hf : f_MC_leastOf x0 = some r) : Ci l Z y_MC_leastOf b_MC_leastOf 2 (some .int) 0 0 [.int x0] M M r := by
  refine Met.ofW (cc := b_MC_leastOf) (maxL := 2) (ret := (some .int)) (by decide) rfl ?_
  intro p e s m args below meth c s₁ B hml hv
  obtain ⟨rfl, hP, hX⟩ := hv
  have S : CallFix p m c b_MC_leastOf 2 s ([.int x0] : List Value).toArray gtb R_MC := ⟨B.exec, B.bytes, hml, findClass_of_methodNamed B.named, fun w hw => atoms_spec (ws := .code y_MC_leastOf b_MC_leastOf 2 (some .int) :: gtb) B.pre w (List.mem_cons_of_mem _ hw)⟩
  have hl := lv_entry ([.int x0]) (n := 2) (Nat.le_of_ble_eq_true rfl)
  rw [lg_entry_eq]
  exact wk_MC_leastOf hI M x0 S hX ⟨Nat.le_refl _, Nat.le_refl _⟩ (fun pc H locs ls hH d => q_ri S.1 S.2.1 B.returns B.notSynchronized hH rfl rfl d) hf ⟨hP, va_S.rf⟩ hl
noncomputable def f_MC_swapped (x0 : Int32) (x1 : Int32) (x2 : Int32) : Int32 := if x0 = x1 then x2 else if x0 = x2 then x1 else x0
set_option maxHeartbeats 4000000 in
theorem wk_MC_swapped {l : Launch} {Z : WD} (hI : wI Z) (M : Mem) (x0 : Int32) (x1 : Int32) (x2 : Int32) {r : Int32} {p : Program} {e : Env} {R : Room} {s : State} {m : MethodId} {args : Array Value} {below : List Frame} {meth : Method} {c : Code} {H : Heap} {locs : List Loc} {ls : Array Slot} {Q : State → Prop} (S : CallFix p m c b_MC_swapped 3 s args gtb R_MC) (hX : wX Z s) (hR : 0 ≤ R.frames ∧ 0 ≤ R.locals) (hQ : ∀ (pc : Nat) (H : Heap) (locs : List Loc) (ls : Array Slot), HW Z M s H locs → decode b_MC_swapped pc = .ok (.ireturn, 1) → W p l e R s m args below meth c H locs 0 0 Q (F0 m pc ls [.int r])) (hf0 : f_MC_swapped x0 x1 x2 = r) (hH : HW Z M s H locs) (hl : lv_has ls 3 [(0, .int x0), (1, .int x1), (2, .int x2)]) : W p l e R s m args below meth c H locs 0 0 Q (F0 m 0 ls []) := by
  have hx := S.1
  have hb := S.2.1
  have hown := S.2.2.2.1
  have ht := S.2.2.2.2
  unfold f_MC_swapped at hf0
  refine lv_iload_n hx hb d_MC_swapped_0 rfl (lv_at hl 0 rfl) ?_
  refine lv_iload_n hx hb d_MC_swapped_1 rfl (lv_at hl 1 rfl) ?_
  refine lv_icmp_ne (tgt := 7) hx hb d_MC_swapped_2 (by decide) (fun hc => ?_) (fun hc => ?_)
  · replace hf0 := o_f hc hf0
    refine lv_iload_n hx hb d_MC_swapped_7 rfl (lv_at hl 0 rfl) ?_
    refine lv_iload_n hx hb d_MC_swapped_8 rfl (lv_at hl 2 rfl) ?_
    refine lv_icmp_ne (tgt := 16) hx hb d_MC_swapped_9 (by decide) (fun hc => ?_) (fun hc => ?_)
    · replace hf0 := o_f hc hf0
      refine lv_iload_n hx hb d_MC_swapped_16 rfl (lv_at hl 0 rfl) ?_
      subst hf0
      exact hQ _ _ _ _ hH d_MC_swapped_17
    · replace hf0 := o_t hc hf0
      refine lv_iload_n hx hb d_MC_swapped_12 rfl (lv_at hl 1 rfl) ?_
      refine lv_goto (tgt := 17) hx hb d_MC_swapped_13 (by decide) ?_
      subst hf0
      exact hQ _ _ _ _ hH d_MC_swapped_17
  · replace hf0 := o_t hc hf0
    refine lv_iload_n hx hb d_MC_swapped_5 rfl (lv_at hl 2 rfl) ?_
    subst hf0
    exact hQ _ _ _ _ hH d_MC_swapped_6
theorem c_MC_swapped (l : Launch) {Z : WD} (hI : wI Z) (M : Mem) (x0 : Int32) (x1 : Int32) (x2 : Int32) {r : Int32} (hf : f_MC_swapped x0 x1 x2 = r) : Ci l Z y_MC_swapped b_MC_swapped 3 (some .int) 0 0 [.int x0, .int x1, .int x2] M M r := by
  refine Met.ofW (cc := b_MC_swapped) (maxL := 3) (ret := (some .int)) (by decide) rfl ?_
  intro p e s m args below meth c s₁ B hml hv
  obtain ⟨rfl, hP, hX⟩ := hv
  have S : CallFix p m c b_MC_swapped 3 s ([.int x0, .int x1, .int x2] : List Value).toArray gtb R_MC := ⟨B.exec, B.bytes, hml, findClass_of_methodNamed B.named, fun w hw => atoms_spec (ws := .code y_MC_swapped b_MC_swapped 3 (some .int) :: gtb) B.pre w (List.mem_cons_of_mem _ hw)⟩
  have hl := lv_entry ([.int x0, .int x1, .int x2]) (n := 3) (Nat.le_of_ble_eq_true rfl)
  rw [lg_entry_eq]
  exact wk_MC_swapped hI M x0 x1 x2 S hX ⟨Nat.le_refl _, Nat.le_refl _⟩ (fun pc H locs ls hH d => q_ri S.1 S.2.1 B.returns B.notSynchronized hH rfl rfl d) hf ⟨hP, va_S.rf⟩ hl
theorem cw_Route_9 {R : Room} {s : State} {args : Array Value} (ht : ∀ w ∈ gtb, w.before args s = true) (h1 : 0 + 1 ≤ R.frames) (h2 : 8 + (1 + 11) + 0 ≤ R.locals) : CallB R s args R_Route 9 y_Route_roundOf b_Route_roundOf 1 (some .int) (.code y_Route_roundOf b_Route_roundOf 1 (some .int) :: gtb) { frames := 0, cells := 0, slots := 0, locals := 0 } 0 0 1 ∧ (Cond.static y_Route_roundOf).before args s = true := va_cwS 1 ht (gS w3_163 w2_18 w1_7 w2_19) rfl rfl rfl ⟨by decide, by decide, by decide +kernel⟩ ⟨h1, h2⟩
theorem cw_Route_15 {R : Room} {s : State} {args : Array Value} (ht : ∀ w ∈ gtb, w.before args s = true) (h1 : 0 + 1 ≤ R.frames) (h2 : 8 + (1 + 11) + 0 ≤ R.locals) : CallB R s args R_Route 15 y_Route_fromOf b_Route_fromOf 1 (some .int) (.code y_Route_fromOf b_Route_fromOf 1 (some .int) :: gtb) { frames := 0, cells := 0, slots := 0, locals := 0 } 0 0 1 ∧ (Cond.static y_Route_fromOf).before args s = true := va_cwS 1 ht (gS w3_164 w2_33 w1_7 w2_34) rfl rfl rfl ⟨by decide, by decide, by decide +kernel⟩ ⟨h1, h2⟩
theorem cw_Route_18 {R : Room} {s : State} {args : Array Value} (ht : ∀ w ∈ gtb, w.before args s = true) (hn : ∀ q ∈ nestRefs, va_Nw (.methodLinkNest q.1 q.2.1 q.2.2.1 q.2.2.2) s) (h1 : 0 + 1 ≤ R.frames) (h2 : 8 + (3 + 11) + 0 ≤ R.locals) : va_CN R s args R_Route 18 y_MC_swapped R_MC b_MC_swapped 3 (some .int) (.code y_MC_swapped b_MC_swapped 3 (some .int) :: gtb) { frames := 0, cells := 0, slots := 0, locals := 0 } 0 0 3 ∧ (Cond.static y_MC_swapped).before args s = true ∧ True := ⟨va_cnB 3 ht (gN w3_159) rfl rfl rfl (hn ("MarkedChains$Route", 18, y_MC_swapped, "MarkedChains") (by decide)) (ht _ w1_1) ⟨by decide, by decide, by decide +kernel⟩ ⟨h1, h2⟩, ht _ w3_158, trivial⟩
theorem cw_Route_22 {R : Room} {s : State} {args : Array Value} (ht : ∀ w ∈ gtb, w.before args s = true) (h1 : 0 + 1 ≤ R.frames) (h2 : 8 + (1 + 11) + 0 ≤ R.locals) : CallB R s args R_Route 22 y_Route_toOf b_Route_toOf 1 (some .int) (.code y_Route_toOf b_Route_toOf 1 (some .int) :: gtb) { frames := 0, cells := 0, slots := 0, locals := 0 } 0 0 1 ∧ (Cond.static y_Route_toOf).before args s = true := va_cwS 1 ht (gS w3_166 w2_54 w1_7 w2_55) rfl rfl rfl ⟨by decide, by decide, by decide +kernel⟩ ⟨h1, h2⟩
theorem cw_Route_25 {R : Room} {s : State} {args : Array Value} (ht : ∀ w ∈ gtb, w.before args s = true) (h1 : 0 + 1 ≤ R.frames) (h2 : 8 + (3 + 11) + 0 ≤ R.locals) : CallB R s args R_Route 25 y_Route_of b_Route_of 3 (some .int) (.code y_Route_of b_Route_of 3 (some .int) :: gtb) { frames := 0, cells := 0, slots := 0, locals := 0 } 0 0 3 ∧ (Cond.static y_Route_of).before args s = true := va_cwS 3 ht (gS w3_167 w2_11 w1_7 w2_12) rfl rfl rfl ⟨by decide, by decide, by decide +kernel⟩ ⟨h1, h2⟩
noncomputable def f_Route_traded (x0 : Int32) (x1 : Int32) (x2 : Int32) : Int32 := 
    f_Route_of (f_Route_roundOf x0) (f_MC_swapped (f_Route_fromOf x0) x1 x2) (f_MC_swapped (f_Route_toOf x0) x1 x2)
set_option maxHeartbeats 4000000 in
theorem wk_Route_traded {l : Launch} {Z : WD} (hI : wI Z) (M : Mem) (x0 : Int32) (x1 : Int32) (x2 : Int32) {r : Int32} {p : Program} {e : Env} {R : Room} {s : State} {m : MethodId} {args : Array Value} {below : List Frame} {meth : Method} {c : Code} {H : Heap} {locs : List Loc} {ls : Array Slot} {Q : State → Prop} (S : CallFix p m c b_Route_traded 3 s args gtb R_Route) (hX : wX Z s) (hR : 1 ≤ R.frames ∧ 22 ≤ R.locals) (hQ : ∀ (pc : Nat) (H : Heap) (locs : List Loc) (ls : Array Slot), HW Z M s H locs → decode b_Route_traded pc = .ok (.ireturn, 1) → W p l e R s m args below meth c H locs 0 0 Q (F0 m pc ls [.int r])) (hf0 : f_Route_traded x0 x1 x2 = r) (hH : HW Z M s H locs) (hl : lv_has ls 3 [(0, .int x0), (1, .int x1), (2, .int x2)]) : W p l e R s m args below meth c H locs 0 0 Q (F0 m 0 ls []) := by
  have hx := S.1
  have hb := S.2.1
  have hown := S.2.2.2.1
  have ht := S.2.2.2.2
  unfold f_Route_traded at hf0
  refine lv_iload_n hx hb d_Route_traded_0 rfl (lv_at hl 0 rfl) ?_
  refine q_cSi (As := [.int x0]) (rest := []) S hX hH (c_Route_roundOf l hI M x0 rfl) (cw_Route_9 S.2.2.2.2 (Nat.le_trans (Nat.le_of_ble_eq_true rfl) hR.1) (Nat.le_trans (Nat.le_of_ble_eq_true rfl) hR.2)) rfl hl.1 rfl (Nat.le_of_ble_eq_true rfl) d_Route_traded_1 ⟨Nat.zero_le _, Nat.zero_le _⟩ (fun H locs hH => ?_)
  refine lv_iload_n hx hb d_Route_traded_4 rfl (lv_at hl 0 rfl) ?_
  refine q_cSi (As := [.int x0]) (rest := [.int (f_Route_roundOf x0)]) S hX hH (c_Route_fromOf l hI M x0 rfl) (cw_Route_15 S.2.2.2.2 (Nat.le_trans (Nat.le_of_ble_eq_true rfl) hR.1) (Nat.le_trans (Nat.le_of_ble_eq_true rfl) hR.2)) rfl hl.1 rfl (Nat.le_of_ble_eq_true rfl) d_Route_traded_5 ⟨Nat.zero_le _, Nat.zero_le _⟩ (fun H locs hH => ?_)
  refine lv_iload_n hx hb d_Route_traded_8 rfl (lv_at hl 1 rfl) ?_
  refine lv_iload_n hx hb d_Route_traded_9 rfl (lv_at hl 2 rfl) ?_
  refine q_cNi (As := [.int (f_Route_fromOf x0), .int x1, .int x2]) (rest := [.int (f_Route_roundOf x0)]) S hX hH (c_MC_swapped l hI M (f_Route_fromOf x0) x1 x2 rfl) (cw_Route_18 S.2.2.2.2 hX.2.1 (Nat.le_trans (Nat.le_of_ble_eq_true rfl) hR.1) (Nat.le_trans (Nat.le_of_ble_eq_true rfl) hR.2)) rfl hl.1 rfl (Nat.le_of_ble_eq_true rfl) d_Route_traded_10 ⟨Nat.zero_le _, Nat.zero_le _⟩ (fun H locs hH => ?_)
  refine lv_iload_n hx hb d_Route_traded_13 rfl (lv_at hl 0 rfl) ?_
  refine q_cSi (As := [.int x0]) (rest := [.int (f_MC_swapped (f_Route_fromOf x0) x1 x2), .int (f_Route_roundOf x0)]) S hX hH (c_Route_toOf l hI M x0 rfl) (cw_Route_22 S.2.2.2.2 (Nat.le_trans (Nat.le_of_ble_eq_true rfl) hR.1) (Nat.le_trans (Nat.le_of_ble_eq_true rfl) hR.2)) rfl hl.1 rfl (Nat.le_of_ble_eq_true rfl) d_Route_traded_14 ⟨Nat.zero_le _, Nat.zero_le _⟩ (fun H locs hH => ?_)
  refine lv_iload_n hx hb d_Route_traded_17 rfl (lv_at hl 1 rfl) ?_
  refine lv_iload_n hx hb d_Route_traded_18 rfl (lv_at hl 2 rfl) ?_
  refine q_cNi (As := [.int (f_Route_toOf x0), .int x1, .int x2]) (rest := [.int (f_MC_swapped (f_Route_fromOf x0) x1 x2), .int (f_Route_roundOf x0)]) S hX hH (c_MC_swapped l hI M (f_Route_toOf x0) x1 x2 rfl) (cw_Route_18 S.2.2.2.2 hX.2.1 (Nat.le_trans (Nat.le_of_ble_eq_true rfl) hR.1) (Nat.le_trans (Nat.le_of_ble_eq_true rfl) hR.2)) rfl hl.1 rfl (Nat.le_of_ble_eq_true rfl) d_Route_traded_19 ⟨Nat.zero_le _, Nat.zero_le _⟩ (fun H locs hH => ?_)
  refine q_cSi (As := [.int (f_Route_roundOf x0), .int (f_MC_swapped (f_Route_fromOf x0) x1 x2), .int (f_MC_swapped (f_Route_toOf x0) x1 x2)]) (rest := []) S hX hH (c_Route_of l hI M (f_Route_roundOf x0) (f_MC_swapped (f_Route_fromOf x0) x1 x2) (f_MC_swapped (f_Route_toOf x0) x1 x2) rfl) (cw_Route_25 S.2.2.2.2 (Nat.le_trans (Nat.le_of_ble_eq_true rfl) hR.1) (Nat.le_trans (Nat.le_of_ble_eq_true rfl) hR.2)) rfl hl.1 rfl (Nat.le_of_ble_eq_true rfl) d_Route_traded_22 ⟨Nat.zero_le _, Nat.zero_le _⟩ (fun H locs hH => ?_)
  subst hf0
  exact hQ _ _ _ _ hH d_Route_traded_25
theorem c_Route_traded (l : Launch) {Z : WD} (hI : wI Z) (M : Mem) (x0 : Int32) (x1 : Int32) (x2 : Int32) {r : Int32} (hf : f_Route_traded x0 x1 x2 = r) : Ci l Z y_Route_traded b_Route_traded 3 (some .int) 1 22 [.int x0, .int x1, .int x2] M M r := by
  refine Met.ofW (cc := b_Route_traded) (maxL := 3) (ret := (some .int)) (by decide) rfl ?_
  intro p e s m args below meth c s₁ B hml hv
  obtain ⟨rfl, hP, hX⟩ := hv
  have S : CallFix p m c b_Route_traded 3 s ([.int x0, .int x1, .int x2] : List Value).toArray gtb R_Route := ⟨B.exec, B.bytes, hml, findClass_of_methodNamed B.named, fun w hw => atoms_spec (ws := .code y_Route_traded b_Route_traded 3 (some .int) :: gtb) B.pre w (List.mem_cons_of_mem _ hw)⟩
  have hl := lv_entry ([.int x0, .int x1, .int x2]) (n := 3) (Nat.le_of_ble_eq_true rfl)
  rw [lg_entry_eq]
  exact wk_Route_traded hI M x0 x1 x2 S hX ⟨Nat.le_refl _, Nat.le_refl _⟩ (fun pc H locs ls hH d => q_ri S.1 S.2.1 B.returns B.notSynchronized hH rfl rfl d) hf ⟨hP, va_S.rf⟩ hl
theorem cw_Chain_22 {R : Room} {s : State} {args : Array Value} (ht : ∀ w ∈ gtb, w.before args s = true) (hn : ∀ q ∈ nestRefs, va_Nw (.methodLinkNest q.1 q.2.1 q.2.2.1 q.2.2.2) s) (h1 : 0 + 1 ≤ R.frames) (h2 : 8 + (3 + 11) + 0 ≤ R.locals) : va_CN R s args R_Chain 22 y_MC_swapped R_MC b_MC_swapped 3 (some .int) (.code y_MC_swapped b_MC_swapped 3 (some .int) :: gtb) { frames := 0, cells := 0, slots := 0, locals := 0 } 0 0 3 ∧ (Cond.static y_MC_swapped).before args s = true ∧ True := ⟨va_cnB 3 ht (gN w3_159) rfl rfl rfl (hn ("MarkedChains$Chain", 22, y_MC_swapped, "MarkedChains") (by decide)) (ht _ w1_1) ⟨by decide, by decide, by decide +kernel⟩ ⟨h1, h2⟩, ht _ w3_158, trivial⟩
noncomputable def f_Chain_traded_L5 (x0 : Int32) (x1 : Int32) (x2 : Int32) (x3 : Int32) (x4 : Int32) : Option ((Int32 × Int32) ⊕ Int32) := if (f_Chain_size x0) ≤ x4 then some (.inr x3) else some (.inl (f_Chain_with x3 (f_MC_swapped (f_Chain_markAt x0 x4) x1 x2), x4 + (1 : Int32)))
noncomputable def f_Chain_traded_W5 (x0 : Int32) (x1 : Int32) (x2 : Int32) (u : (Int32 × Int32)) : Option Int32 := loop (fun t => f_Chain_traded_L5 x0 x1 x2 t.1 t.2) u
noncomputable def f_Chain_traded_J5 (x0 : Int32) (x1 : Int32) (x2 : Int32) (x3 : Int32) (x4 : Int32) : Option (Int32) := bnd (f_Chain_traded_W5 x0 x1 x2 (x3, x4)) (fun e5 => some e5)
noncomputable def f_Chain_traded (x0 : Int32) (x1 : Int32) (x2 : Int32) : Option Int32 := f_Chain_traded_J5 x0 x1 x2 (0 : Int32) (0 : Int32)
set_option maxHeartbeats 4000000 in
theorem wk_Chain_traded {l : Launch} {Z : WD} (hI : wI Z) (M : Mem) (x0 : Int32) (x1 : Int32) (x2 : Int32) {r : Int32} {p : Program} {e : Env} {R : Room} {s : State} {m : MethodId} {args : Array Value} {below : List Frame} {meth : Method} {c : Code} {H : Heap} {locs : List Loc} {ls : Array Slot} {Q : State → Prop} (S : CallFix p m c b_Chain_traded 5 s args gtb R_Chain) (hX : wX Z s) (hR : 2 ≤ R.frames ∧ 42 ≤ R.locals) (hQ : ∀ (pc : Nat) (H : Heap) (locs : List Loc) (ls : Array Slot), HW Z M s H locs → decode b_Chain_traded pc = .ok (.ireturn, 1) → W p l e R s m args below meth c H locs 0 0 Q (F0 m pc ls [.int r])) (hf0 : f_Chain_traded x0 x1 x2 = some r) (hH : HW Z M s H locs) (hl : lv_has ls 5 [(0, .int x0), (1, .int x1), (2, .int x2)]) : W p l e R s m args below meth c H locs 0 0 Q (F0 m 0 ls []) := by
  have hx := S.1
  have hb := S.2.1
  have hown := S.2.2.2.1
  have ht := S.2.2.2.2
  unfold f_Chain_traded at hf0
  have J5 : ∀ (x0 : Int32) (x1 : Int32) (x2 : Int32) (x3 : Int32) (x4 : Int32) (H : Heap) (locs : List Loc) (ls : Array Slot), f_Chain_traded_J5 x0 x1 x2 x3 x4 = some r → HW Z M s H locs → lv_has ls 5 [(0, .int x0), (1, .int x1), (2, .int x2), (3, .int x3), (4, .int x4)] → W p l e R s m args below meth c H locs 0 0 Q (F0 m 5 ls []) := by
    intro x0 x1 x2 x3 x4 H locs ls hf0 hH hl
    unfold f_Chain_traded_J5 at hf0
    obtain ⟨e5, he5, hf0⟩ := o_b hf0
    unfold f_Chain_traded_W5 at he5
    refine loop_W (fun t => ∀ (H : Heap) (locs : List Loc) (ls : Array Slot), HW Z M s H locs → lv_has ls 5 [(0, .int x0), (1, .int x1), (2, .int x2), (3, .int t.1), (4, .int t.2)] → W p l e R s m args below meth c H locs 0 0 Q (F0 m 5 ls [])) ?_ he5 H locs ls hH hl
    rintro ⟨x3, x4⟩ o1 hf1 hG1 hR1 H locs ls hH hl
    replace hH : HW Z M s H locs := hH
    replace hl : lv_has ls 5 [(0, .int x0), (1, .int x1), (2, .int x2), (3, .int x3), (4, .int x4)] := hl
    replace hf1 : f_Chain_traded_L5 x0 x1 x2 x3 x4 = some o1 := hf1
    unfold f_Chain_traded_L5 at hf1
    refine lv_iload hx hb d_Chain_traded_5 (lv_at hl 4 rfl) ?_
    refine lv_iload_n hx hb d_Chain_traded_7 rfl (lv_at hl 0 rfl) ?_
    refine q_cSi (As := [.int x0]) (rest := [.int x4]) S hX hH (c_Chain_size l hI M x0 rfl) (cw_Chain_9 S.2.2.2.2 (Nat.le_trans (Nat.le_of_ble_eq_true rfl) hR.1) (Nat.le_trans (Nat.le_of_ble_eq_true rfl) hR.2)) rfl hl.1 rfl (Nat.le_of_ble_eq_true rfl) d_Chain_traded_8 ⟨Nat.zero_le _, Nat.zero_le _⟩ (fun H locs hH => ?_)
    refine lv_icmp_ge (tgt := 36) hx hb d_Chain_traded_11 (by decide) (fun hc => ?_) (fun hc => ?_)
    · replace hf1 := o_t hc hf1
      refine lv_iload_n hx hb d_Chain_traded_36 rfl (lv_at hl 3 rfl) ?_
      obtain rfl := hR1 _ (o_v hf1).symm
      obtain rfl := o_v hf0
      exact hQ _ _ _ _ hH d_Chain_traded_37
    · replace hf1 := o_f hc hf1
      refine lv_iload_n hx hb d_Chain_traded_14 rfl (lv_at hl 3 rfl) ?_
      refine lv_iload_n hx hb d_Chain_traded_15 rfl (lv_at hl 0 rfl) ?_
      refine lv_iload hx hb d_Chain_traded_16 (lv_at hl 4 rfl) ?_
      refine q_cSi (As := [.int x0, .int x4]) (rest := [.int x3]) S hX hH (c_Chain_markAt l hI M x0 x4 rfl) (cw_Chain_15 S.2.2.2.2 (Nat.le_trans (Nat.le_of_ble_eq_true rfl) hR.1) (Nat.le_trans (Nat.le_of_ble_eq_true rfl) hR.2)) rfl hl.1 rfl (Nat.le_of_ble_eq_true rfl) d_Chain_traded_18 ⟨Nat.zero_le _, Nat.zero_le _⟩ (fun H locs hH => ?_)
      refine lv_iload_n hx hb d_Chain_traded_21 rfl (lv_at hl 1 rfl) ?_
      refine lv_iload_n hx hb d_Chain_traded_22 rfl (lv_at hl 2 rfl) ?_
      refine q_cNi (As := [.int (f_Chain_markAt x0 x4), .int x1, .int x2]) (rest := [.int x3]) S hX hH (c_MC_swapped l hI M (f_Chain_markAt x0 x4) x1 x2 rfl) (cw_Chain_22 S.2.2.2.2 hX.2.1 (Nat.le_trans (Nat.le_of_ble_eq_true rfl) hR.1) (Nat.le_trans (Nat.le_of_ble_eq_true rfl) hR.2)) rfl hl.1 rfl (Nat.le_of_ble_eq_true rfl) d_Chain_traded_23 ⟨Nat.zero_le _, Nat.zero_le _⟩ (fun H locs hH => ?_)
      refine q_cSi (As := [.int x3, .int (f_MC_swapped (f_Chain_markAt x0 x4) x1 x2)]) (rest := []) S hX hH (c_Chain_with l hI M x3 (f_MC_swapped (f_Chain_markAt x0 x4) x1 x2) rfl) (cw_Chain_26 S.2.2.2.2 (Nat.le_trans (Nat.le_of_ble_eq_true rfl) hR.1) (Nat.le_trans (Nat.le_of_ble_eq_true rfl) hR.2)) rfl hl.1 rfl (Nat.le_of_ble_eq_true rfl) d_Chain_traded_26 ⟨Nat.zero_le _, Nat.zero_le _⟩ (fun H locs hH => ?_)
      refine lv_istore_n (lv' := [(3, .int (f_Chain_with x3 (f_MC_swapped (f_Chain_markAt x0 x4) x1 x2))), (0, .int x0), (1, .int x1), (2, .int x2), (4, .int x4)]) hx hb d_Chain_traded_29 rfl hl (by decide) rfl (fun ls hl => ?_)
      refine lv_iinc (v := x4 + (1 : Int32)) (lv' := [(4, .int (x4 + (1 : Int32))), (3, .int (f_Chain_with x3 (f_MC_swapped (f_Chain_markAt x0 x4) x1 x2))), (0, .int x0), (1, .int x1), (2, .int x2)]) hx hb d_Chain_traded_30 hl (k := 4) rfl rfl (by decide) rfl (fun ls hl => ?_)
      refine lv_goto (tgt := 5) hx hb d_Chain_traded_33 (by decide) ?_
      exact hG1 _ (o_v hf1).symm _ _ _ hH (lv_sub hl [2, 3, 4, 1, 0] rfl)
  refine lv_iconst (v := (0 : Int32)) hx hb d_Chain_traded_0 (by decide) ?_
  refine lv_istore_n (lv' := [(3, .int (0 : Int32)), (0, .int x0), (1, .int x1), (2, .int x2)]) hx hb d_Chain_traded_1 rfl hl (by decide) rfl (fun ls hl => ?_)
  refine lv_iconst (v := (0 : Int32)) hx hb d_Chain_traded_2 (by decide) ?_
  refine lv_istore (lv' := [(4, .int (0 : Int32)), (3, .int (0 : Int32)), (0, .int x0), (1, .int x1), (2, .int x2)]) hx hb d_Chain_traded_3 hl (by decide) rfl (fun ls hl => ?_)
  exact J5 _ _ _ _ _ _ _ _ hf0 hH (lv_sub hl [2, 3, 4, 1, 0] rfl)
theorem c_Chain_traded (l : Launch) {Z : WD} (hI : wI Z) (M : Mem) (x0 : Int32) (x1 : Int32) (x2 : Int32) {r : Int32} (hf : f_Chain_traded x0 x1 x2 = some r) : Ci l Z y_Chain_traded b_Chain_traded 5 (some .int) 2 42 [.int x0, .int x1, .int x2] M M r := by
  refine Met.ofW (cc := b_Chain_traded) (maxL := 5) (ret := (some .int)) (by decide) rfl ?_
  intro p e s m args below meth c s₁ B hml hv
  obtain ⟨rfl, hP, hX⟩ := hv
  have S : CallFix p m c b_Chain_traded 5 s ([.int x0, .int x1, .int x2] : List Value).toArray gtb R_Chain := ⟨B.exec, B.bytes, hml, findClass_of_methodNamed B.named, fun w hw => atoms_spec (ws := .code y_Chain_traded b_Chain_traded 5 (some .int) :: gtb) B.pre w (List.mem_cons_of_mem _ hw)⟩
  have hl := lv_entry ([.int x0, .int x1, .int x2]) (n := 5) (Nat.le_of_ble_eq_true rfl)
  rw [lg_entry_eq]
  exact wk_Chain_traded hI M x0 x1 x2 S hX ⟨Nat.le_refl _, Nat.le_refl _⟩ (fun pc H locs ls hH d => q_ri S.1 S.2.1 B.returns B.notSynchronized hH rfl rfl d) hf ⟨hP, va_S.rf⟩ hl
noncomputable def f_Chain_pack_L10 (x0 : Int32) (x1 : Int32) (x2 : Int64) (x4 : Int32) : Option ((Int64 × Int32) ⊕ Int64) := if x4 < 0 then some (.inr ((x2 * (4 : Int64)) + x1.toInt64)) else 
    some (.inl (((x2 * (9 : Int64)) + ((f_Chain_markAt x0 x4).toInt64)) + (1 : Int64), x4 + (-1 : Int32)))
noncomputable def f_Chain_pack_W10 (x0 : Int32) (x1 : Int32) (u : (Int64 × Int32)) : Option Int64 := loop (fun t => f_Chain_pack_L10 x0 x1 t.1 t.2) u
noncomputable def f_Chain_pack_J10 (x0 : Int32) (x1 : Int32) (x2 : Int64) (x4 : Int32) : Option (Int64) := bnd (f_Chain_pack_W10 x0 x1 (x2, x4)) (fun e10 => some e10)
noncomputable def f_Chain_pack (x0 : Int32) (x1 : Int32) : Option Int64 := f_Chain_pack_J10 x0 x1 (0 : Int64) ((f_Chain_size x0) - (1 : Int32))
set_option maxHeartbeats 4000000 in
theorem wk_Chain_pack {l : Launch} {Z : WD} (hI : wI Z) (M : Mem) (x0 : Int32) (x1 : Int32) {r : Int64} {p : Program} {e : Env} {R : Room} {s : State} {m : MethodId} {args : Array Value} {below : List Frame} {meth : Method} {c : Code} {H : Heap} {locs : List Loc} {ls : Array Slot} {Q : State → Prop} (S : CallFix p m c b_Chain_pack 5 s args gtb R_Chain) (hX : wX Z s) (hR : 1 ≤ R.frames ∧ 21 ≤ R.locals) (hQ : ∀ (pc : Nat) (H : Heap) (locs : List Loc) (ls : Array Slot), HW Z M s H locs → decode b_Chain_pack pc = .ok (.lreturn, 1) → W p l e R s m args below meth c H locs 0 0 Q (F0 m pc ls [.long r])) (hf0 : f_Chain_pack x0 x1 = some r) (hH : HW Z M s H locs) (hl : lv_has ls 5 [(0, .int x0), (1, .int x1)]) : W p l e R s m args below meth c H locs 0 0 Q (F0 m 0 ls []) := by
  have hx := S.1
  have hb := S.2.1
  have hown := S.2.2.2.1
  have ht := S.2.2.2.2
  unfold f_Chain_pack at hf0
  have J10 : ∀ (x0 : Int32) (x1 : Int32) (x2 : Int64) (x4 : Int32) (H : Heap) (locs : List Loc) (ls : Array Slot), f_Chain_pack_J10 x0 x1 x2 x4 = some r → HW Z M s H locs → lv_has ls 5 [(0, .int x0), (1, .int x1), (2, .long x2), (4, .int x4)] → W p l e R s m args below meth c H locs 0 0 Q (F0 m 10 ls []) := by
    intro x0 x1 x2 x4 H locs ls hf0 hH hl
    unfold f_Chain_pack_J10 at hf0
    obtain ⟨e10, he10, hf0⟩ := o_b hf0
    unfold f_Chain_pack_W10 at he10
    refine loop_W (fun t => ∀ (H : Heap) (locs : List Loc) (ls : Array Slot), HW Z M s H locs → lv_has ls 5 [(0, .int x0), (1, .int x1), (2, .long t.1), (4, .int t.2)] → W p l e R s m args below meth c H locs 0 0 Q (F0 m 10 ls [])) ?_ he10 H locs ls hH hl
    rintro ⟨x2, x4⟩ o1 hf1 hG1 hR1 H locs ls hH hl
    replace hH : HW Z M s H locs := hH
    replace hl : lv_has ls 5 [(0, .int x0), (1, .int x1), (2, .long x2), (4, .int x4)] := hl
    replace hf1 : f_Chain_pack_L10 x0 x1 x2 x4 = some o1 := hf1
    unfold f_Chain_pack_L10 at hf1
    refine lv_iload hx hb d_Chain_pack_10 (lv_at hl 3 rfl) ?_
    refine lv_if_lt (tgt := 37) hx hb d_Chain_pack_12 (by decide) (fun hc => ?_) (fun hc => ?_)
    · replace hf1 := o_t hc hf1
      refine lv_lload_n hx hb d_Chain_pack_37 rfl (lv_at hl 2 rfl) ?_
      refine lv_ldc2 (v := (4 : Int64)) hx hb hown (ht _ w4_14) d_Chain_pack_38 ?_
      refine lv_lmul hx hb d_Chain_pack_41 ?_
      refine lv_iload_n hx hb d_Chain_pack_42 rfl (lv_at hl 1 rfl) ?_
      refine lv_i2l hx hb d_Chain_pack_43 rfl ?_
      refine lv_ladd hx hb d_Chain_pack_44 ?_
      obtain rfl := hR1 _ (o_v hf1).symm
      obtain rfl := o_v hf0
      exact hQ _ _ _ _ hH d_Chain_pack_45
    · replace hf1 := o_f hc hf1
      refine lv_lload_n hx hb d_Chain_pack_15 rfl (lv_at hl 2 rfl) ?_
      refine lv_ldc2 (v := (9 : Int64)) hx hb hown (ht _ w4_13) d_Chain_pack_16 ?_
      refine lv_lmul hx hb d_Chain_pack_19 ?_
      refine lv_iload_n hx hb d_Chain_pack_20 rfl (lv_at hl 0 rfl) ?_
      refine lv_iload hx hb d_Chain_pack_21 (lv_at hl 3 rfl) ?_
      refine q_cSi (As := [.int x0, .int x4]) (rest := [.long (x2 * (9 : Int64))]) S hX hH (c_Chain_markAt l hI M x0 x4 rfl) (cw_Chain_15 S.2.2.2.2 (Nat.le_trans (Nat.le_of_ble_eq_true rfl) hR.1) (Nat.le_trans (Nat.le_of_ble_eq_true rfl) hR.2)) rfl hl.1 rfl (Nat.le_of_ble_eq_true rfl) d_Chain_pack_23 ⟨Nat.zero_le _, Nat.zero_le _⟩ (fun H locs hH => ?_)
      refine lv_i2l hx hb d_Chain_pack_26 rfl ?_
      refine lv_ladd hx hb d_Chain_pack_27 ?_
      refine lv_lconst (v := (1 : Int64)) hx hb d_Chain_pack_28 (by decide) ?_
      refine lv_ladd hx hb d_Chain_pack_29 ?_
      refine lv_lstore_n (lv' := [(2, .long (((x2 * (9 : Int64)) + ((f_Chain_markAt x0 x4).toInt64)) + (1 : Int64))), (0, .int x0), (1, .int x1), (4, .int x4)]) hx hb d_Chain_pack_30 rfl hl (by decide) rfl (fun ls hl => ?_)
      refine lv_iinc (v := x4 + (-1 : Int32)) (lv' := [(4, .int (x4 + (-1 : Int32))), (2, .long (((x2 * (9 : Int64)) + ((f_Chain_markAt x0 x4).toInt64)) + (1 : Int64))), (0, .int x0), (1, .int x1)]) hx hb d_Chain_pack_31 hl (k := 3) rfl rfl (by decide) rfl (fun ls hl => ?_)
      refine lv_goto (tgt := 10) hx hb d_Chain_pack_34 (by decide) ?_
      exact hG1 _ (o_v hf1).symm _ _ _ hH (lv_sub hl [2, 3, 1, 0] rfl)
  refine lv_lconst (v := (0 : Int64)) hx hb d_Chain_pack_0 (by decide) ?_
  refine lv_lstore_n (lv' := [(2, .long (0 : Int64)), (0, .int x0), (1, .int x1)]) hx hb d_Chain_pack_1 rfl hl (by decide) rfl (fun ls hl => ?_)
  refine lv_iload_n hx hb d_Chain_pack_2 rfl (lv_at hl 1 rfl) ?_
  refine q_cSi (As := [.int x0]) (rest := []) S hX hH (c_Chain_size l hI M x0 rfl) (cw_Chain_9 S.2.2.2.2 (Nat.le_trans (Nat.le_of_ble_eq_true rfl) hR.1) (Nat.le_trans (Nat.le_of_ble_eq_true rfl) hR.2)) rfl hl.1 rfl (Nat.le_of_ble_eq_true rfl) d_Chain_pack_3 ⟨Nat.zero_le _, Nat.zero_le _⟩ (fun H locs hH => ?_)
  refine lv_iconst (v := (1 : Int32)) hx hb d_Chain_pack_6 (by decide) ?_
  refine lv_isub hx hb d_Chain_pack_7 ?_
  refine lv_istore (lv' := [(4, .int ((f_Chain_size x0) - (1 : Int32))), (2, .long (0 : Int64)), (0, .int x0), (1, .int x1)]) hx hb d_Chain_pack_8 hl (by decide) rfl (fun ls hl => ?_)
  exact J10 _ _ _ _ _ _ _ hf0 hH (lv_sub hl [2, 3, 1, 0] rfl)
theorem c_Chain_pack (l : Launch) {Z : WD} (hI : wI Z) (M : Mem) (x0 : Int32) (x1 : Int32) {r : Int64} (hf : f_Chain_pack x0 x1 = some r) : Cl l Z y_Chain_pack b_Chain_pack 5 (some .long) 1 21 [.int x0, .int x1] M M r := by
  refine Met.ofW (cc := b_Chain_pack) (maxL := 5) (ret := (some .long)) (by decide) rfl ?_
  intro p e s m args below meth c s₁ B hml hv
  obtain ⟨rfl, hP, hX⟩ := hv
  have S : CallFix p m c b_Chain_pack 5 s ([.int x0, .int x1] : List Value).toArray gtb R_Chain := ⟨B.exec, B.bytes, hml, findClass_of_methodNamed B.named, fun w hw => atoms_spec (ws := .code y_Chain_pack b_Chain_pack 5 (some .long) :: gtb) B.pre w (List.mem_cons_of_mem _ hw)⟩
  have hl := lv_entry ([.int x0, .int x1]) (n := 5) (Nat.le_of_ble_eq_true rfl)
  rw [lg_entry_eq]
  exact wk_Chain_pack hI M x0 x1 S hX ⟨Nat.le_refl _, Nat.le_refl _⟩ (fun pc H locs ls hH d => q_rl S.1 S.2.1 B.returns B.notSynchronized hH rfl rfl d) hf ⟨hP, va_S.rf⟩ hl
noncomputable def f_Chain_unpack_J89  : Option (Int32) := some (-1 : Int32)
noncomputable def f_Chain_unpack_J79 (x2 : Int32) (x3 : Int64) : Option (Int32) := if 0 < (lg_cmp x3 (0 : Int64)) then f_Chain_unpack_J89 else if x2 = 0 then f_Chain_unpack_J89 else some x2
noncomputable def f_Chain_unpack_L19 (x2 : Int32) (x3 : Int64) (x5 : Int32) : Option ((Int32 × Int64 × Int32) ⊕ ((Int32 × Int64) ⊕ Int32)) := if (8 : Int32) ≤ x5 then some (.inr (.inl (x2, x3))) else 
    if (lg_cmp x3 (0 : Int64)) ≤ 0 then some (.inr (.inl (x2, x3))) else 
    if ((x3 - x3 / (9 : Int64) * (9 : Int64)).toInt32) = 0 then some (.inr (.inr (-1 : Int32))) else 
    bnd (f_Chain_bears x2 (((x3 - x3 / (9 : Int64) * (9 : Int64)).toInt32) - (1 : Int32))) (fun y2 => 
    if (bI y2) = 0 then 
    lt1 (f_Chain_with x2 (((x3 - x3 / (9 : Int64) * (9 : Int64)).toInt32) - (1 : Int32))) (fun y3 => some (.inl (y3, x3 / (9 : Int64), x5 + (1 : Int32)))) else some (.inr (.inr (-1 : Int32))))
noncomputable def f_Chain_unpack_W19  (u : (Int32 × Int64 × Int32)) : Option ((Int32 × Int64) ⊕ Int32) := loop (fun t => f_Chain_unpack_L19 t.1 t.2.1 t.2.2) u
noncomputable def f_Chain_unpack_J19 (x2 : Int32) (x3 : Int64) (x5 : Int32) : Option (Int32) := bnd (f_Chain_unpack_W19 (x2, x3, x5)) (fun e19 => lex2 e19 (fun t19 => f_Chain_unpack_J79 t19.1 t19.2) (fun r19 => some r19))
noncomputable def f_Chain_unpack (x0 : Int64) : Option Int32 := 
    if 0 ≤ (lg_cmp x0 (0 : Int64)) then f_Chain_unpack_J19 (0 : Int32) (x0 / (4 : Int64)) (0 : Int32) else some (-1 : Int32)
set_option maxHeartbeats 4000000 in
theorem wk_Chain_unpack {l : Launch} {Z : WD} (hI : wI Z) (M : Mem) (x0 : Int64) {r : Int32} {p : Program} {e : Env} {R : Room} {s : State} {m : MethodId} {args : Array Value} {below : List Frame} {meth : Method} {c : Code} {H : Heap} {locs : List Loc} {ls : Array Slot} {Q : State → Prop} (S : CallFix p m c b_Chain_unpack 7 s args gtb R_Chain) (hX : wX Z s) (hR : 3 ≤ R.frames ∧ 64 ≤ R.locals) (hQ : ∀ (pc : Nat) (H : Heap) (locs : List Loc) (ls : Array Slot), HW Z M s H locs → decode b_Chain_unpack pc = .ok (.ireturn, 1) → W p l e R s m args below meth c H locs 0 0 Q (F0 m pc ls [.int r])) (hf0 : f_Chain_unpack x0 = some r) (hH : HW Z M s H locs) (hl : lv_has ls 7 [(0, .long x0)]) : W p l e R s m args below meth c H locs 0 0 Q (F0 m 0 ls []) := by
  have hx := S.1
  have hb := S.2.1
  have hown := S.2.2.2.1
  have ht := S.2.2.2.2
  unfold f_Chain_unpack at hf0
  have J89 : ∀ (H : Heap) (locs : List Loc) (ls : Array Slot), f_Chain_unpack_J89 = some r → HW Z M s H locs → lv_has ls 7 [] → W p l e R s m args below meth c H locs 0 0 Q (F0 m 89 ls []) := by
    intro H locs ls hf0 hH hl
    unfold f_Chain_unpack_J89 at hf0
    refine lv_iconst (v := (-1 : Int32)) hx hb d_Chain_unpack_89 (by decide) ?_
    refine lv_goto (tgt := 94) hx hb d_Chain_unpack_90 (by decide) ?_
    obtain rfl := o_v hf0
    exact hQ _ _ _ _ hH d_Chain_unpack_94
  have J79 : ∀ (x2 : Int32) (x3 : Int64) (H : Heap) (locs : List Loc) (ls : Array Slot), f_Chain_unpack_J79 x2 x3 = some r → HW Z M s H locs → lv_has ls 7 [(2, .int x2), (3, .long x3)] → W p l e R s m args below meth c H locs 0 0 Q (F0 m 79 ls []) := by
    intro x2 x3 H locs ls hf0 hH hl
    unfold f_Chain_unpack_J79 at hf0
    refine lv_lload_n hx hb d_Chain_unpack_79 rfl (lv_at hl 1 rfl) ?_
    refine lv_lconst (v := (0 : Int64)) hx hb d_Chain_unpack_80 (by decide) ?_
    refine W.lcmp hx hb d_Chain_unpack_81 ?_
    refine lv_if_gt (tgt := 89) hx hb d_Chain_unpack_82 (by decide) (fun hc => ?_) (fun hc => ?_)
    · replace hf0 := o_t hc hf0
      exact J89 _ _ _ hf0 hH (lv_sub hl [] rfl)
    · replace hf0 := o_f hc hf0
      refine lv_iload_n hx hb d_Chain_unpack_85 rfl (lv_at hl 0 rfl) ?_
      refine lv_if_ne (tgt := 93) hx hb d_Chain_unpack_86 (by decide) (fun hc => ?_) (fun hc => ?_)
      · replace hf0 := o_f hc hf0
        refine lv_iload_n hx hb d_Chain_unpack_93 rfl (lv_at hl 0 rfl) ?_
        obtain rfl := o_v hf0
        exact hQ _ _ _ _ hH d_Chain_unpack_94
      · replace hf0 := o_t hc hf0
        exact J89 _ _ _ hf0 hH (lv_sub hl [] rfl)
  have J19 : ∀ (x2 : Int32) (x3 : Int64) (x5 : Int32) (H : Heap) (locs : List Loc) (ls : Array Slot), f_Chain_unpack_J19 x2 x3 x5 = some r → HW Z M s H locs → lv_has ls 7 [(2, .int x2), (3, .long x3), (5, .int x5)] → W p l e R s m args below meth c H locs 0 0 Q (F0 m 19 ls []) := by
    intro x2 x3 x5 H locs ls hf0 hH hl
    unfold f_Chain_unpack_J19 at hf0
    obtain ⟨e19, he19, hf0⟩ := o_b hf0
    have KX19 : ∀ (t19 : (Int32 × Int64)), e19 = .inl t19 → ∀ (H : Heap) (locs : List Loc) (ls : Array Slot), HW Z M s H locs → lv_has ls 7 [(2, .int t19.1), (3, .long t19.2)] → W p l e R s m args below meth c H locs 0 0 Q (F0 m 79 ls []) := by
      intro t19 he0 H locs ls hH hl
      subst he0
      replace hf0 := o_x1 hf0
      exact J79 _ _ _ _ _ hf0 hH (lv_sub hl [0, 1] rfl)
    unfold f_Chain_unpack_W19 at he19
    refine loop_W (fun t => ∀ (H : Heap) (locs : List Loc) (ls : Array Slot), HW Z M s H locs → lv_has ls 7 [(2, .int t.1), (3, .long t.2.1), (5, .int t.2.2)] → W p l e R s m args below meth c H locs 0 0 Q (F0 m 19 ls [])) ?_ he19 H locs ls hH hl
    rintro ⟨x2, x3, x5⟩ o1 hf1 hG1 hR1 H locs ls hH hl
    replace hH : HW Z M s H locs := hH
    replace hl : lv_has ls 7 [(2, .int x2), (3, .long x3), (5, .int x5)] := hl
    replace hf1 : f_Chain_unpack_L19 x2 x3 x5 = some o1 := hf1
    unfold f_Chain_unpack_L19 at hf1
    refine lv_iload hx hb d_Chain_unpack_19 (lv_at hl 2 rfl) ?_
    refine lv_bipush (v := (8 : Int32)) hx hb d_Chain_unpack_21 (by decide) ?_
    refine lv_icmp_ge (tgt := 79) hx hb d_Chain_unpack_23 (by decide) (fun hc => ?_) (fun hc => ?_)
    · replace hf1 := o_t hc hf1
      obtain rfl := hR1 _ (o_v hf1).symm
      exact KX19 _ rfl _ _ _ hH (lv_sub hl [0, 1] rfl)
    · replace hf1 := o_f hc hf1
      refine lv_lload_n hx hb d_Chain_unpack_26 rfl (lv_at hl 1 rfl) ?_
      refine lv_lconst (v := (0 : Int64)) hx hb d_Chain_unpack_27 (by decide) ?_
      refine W.lcmp hx hb d_Chain_unpack_28 ?_
      refine lv_if_le (tgt := 79) hx hb d_Chain_unpack_29 (by decide) (fun hc => ?_) (fun hc => ?_)
      · replace hf1 := o_t hc hf1
        obtain rfl := hR1 _ (o_v hf1).symm
        exact KX19 _ rfl _ _ _ hH (lv_sub hl [0, 1] rfl)
      · replace hf1 := o_f hc hf1
        refine lv_lload_n hx hb d_Chain_unpack_32 rfl (lv_at hl 1 rfl) ?_
        refine lv_ldc2 (v := (9 : Int64)) hx hb hown (ht _ w4_13) d_Chain_unpack_33 ?_
        refine lv_lrem hx hb d_Chain_unpack_36 (by decide) ?_
        refine lv_l2i hx hb d_Chain_unpack_37 rfl ?_
        refine lv_istore (lv' := [(6, .int ((x3 - x3 / (9 : Int64) * (9 : Int64)).toInt32)), (2, .int x2), (3, .long x3), (5, .int x5)]) hx hb d_Chain_unpack_38 hl (by decide) rfl (fun ls hl => ?_)
        refine lv_iload hx hb d_Chain_unpack_40 (lv_at hl 0 rfl) ?_
        refine lv_if_eq (tgt := 56) hx hb d_Chain_unpack_42 (by decide) (fun hc => ?_) (fun hc => ?_)
        · replace hf1 := o_t hc hf1
          refine lv_iconst (v := (-1 : Int32)) hx hb d_Chain_unpack_56 (by decide) ?_
          obtain rfl := hR1 _ (o_v hf1).symm
          replace hf0 := o_x2 hf0
          obtain rfl := o_v hf0
          exact hQ _ _ _ _ hH d_Chain_unpack_57
        · replace hf1 := o_f hc hf1
          refine lv_iload_n hx hb d_Chain_unpack_45 rfl (lv_at hl 1 rfl) ?_
          refine lv_iload hx hb d_Chain_unpack_46 (lv_at hl 0 rfl) ?_
          refine lv_iconst (v := (1 : Int32)) hx hb d_Chain_unpack_48 (by decide) ?_
          refine lv_isub hx hb d_Chain_unpack_49 ?_
          obtain ⟨y2, hc1, hf1⟩ := o_b hf1
          refine q_cSi (As := [.int x2, .int (((x3 - x3 / (9 : Int64) * (9 : Int64)).toInt32) - (1 : Int32))]) (rest := []) S hX hH (c_Chain_bears l hI M x2 (((x3 - x3 / (9 : Int64) * (9 : Int64)).toInt32) - (1 : Int32)) hc1) (cw_Chain_30 S.2.2.2.2 (Nat.le_trans (Nat.le_of_ble_eq_true rfl) hR.1) (Nat.le_trans (Nat.le_of_ble_eq_true rfl) hR.2)) rfl hl.1 rfl (Nat.le_of_ble_eq_true rfl) d_Chain_unpack_50 ⟨Nat.zero_le _, Nat.zero_le _⟩ (fun H locs hH => ?_)
          refine lv_if_eq (tgt := 58) hx hb d_Chain_unpack_53 (by decide) (fun hc => ?_) (fun hc => ?_)
          · replace hf1 := o_t hc hf1
            refine lv_iload_n hx hb d_Chain_unpack_58 rfl (lv_at hl 1 rfl) ?_
            refine lv_iload hx hb d_Chain_unpack_59 (lv_at hl 0 rfl) ?_
            refine lv_iconst (v := (1 : Int32)) hx hb d_Chain_unpack_61 (by decide) ?_
            refine lv_isub hx hb d_Chain_unpack_62 ?_
            refine q_cSi (As := [.int x2, .int (((x3 - x3 / (9 : Int64) * (9 : Int64)).toInt32) - (1 : Int32))]) (rest := []) S hX hH (c_Chain_with l hI M x2 (((x3 - x3 / (9 : Int64) * (9 : Int64)).toInt32) - (1 : Int32)) rfl) (cw_Chain_26 S.2.2.2.2 (Nat.le_trans (Nat.le_of_ble_eq_true rfl) hR.1) (Nat.le_trans (Nat.le_of_ble_eq_true rfl) hR.2)) rfl hl.1 rfl (Nat.le_of_ble_eq_true rfl) d_Chain_unpack_63 ⟨Nat.zero_le _, Nat.zero_le _⟩ (fun H locs hH => ?_)
            obtain ⟨y3, hy3, hf1⟩ := o_l hf1
            refine lv_nm hy3 ?_
            refine lv_istore_n (lv' := [(2, .int y3), (6, .int ((x3 - x3 / (9 : Int64) * (9 : Int64)).toInt32)), (3, .long x3), (5, .int x5)]) hx hb d_Chain_unpack_66 rfl hl (by decide) rfl (fun ls hl => ?_)
            refine lv_lload_n hx hb d_Chain_unpack_67 rfl (lv_at hl 2 rfl) ?_
            refine lv_ldc2 (v := (9 : Int64)) hx hb hown (ht _ w4_13) d_Chain_unpack_68 ?_
            refine lv_ldiv hx hb d_Chain_unpack_71 (by decide) ?_
            refine lv_lstore_n (lv' := [(3, .long (x3 / (9 : Int64))), (2, .int y3), (6, .int ((x3 - x3 / (9 : Int64) * (9 : Int64)).toInt32)), (5, .int x5)]) hx hb d_Chain_unpack_72 rfl hl (by decide) rfl (fun ls hl => ?_)
            refine lv_iinc (v := x5 + (1 : Int32)) (lv' := [(5, .int (x5 + (1 : Int32))), (3, .long (x3 / (9 : Int64))), (2, .int y3), (6, .int ((x3 - x3 / (9 : Int64) * (9 : Int64)).toInt32))]) hx hb d_Chain_unpack_73 hl (k := 3) rfl rfl (by decide) rfl (fun ls hl => ?_)
            refine lv_goto (tgt := 19) hx hb d_Chain_unpack_76 (by decide) ?_
            exact hG1 _ (o_v hf1).symm _ _ _ hH (lv_sub hl [2, 1, 0] rfl)
          · replace hf1 := o_f hc hf1
            refine lv_iconst (v := (-1 : Int32)) hx hb d_Chain_unpack_56 (by decide) ?_
            obtain rfl := hR1 _ (o_v hf1).symm
            replace hf0 := o_x2 hf0
            obtain rfl := o_v hf0
            exact hQ _ _ _ _ hH d_Chain_unpack_57
  refine lv_lload_n hx hb d_Chain_unpack_0 rfl (lv_at hl 0 rfl) ?_
  refine lv_lconst (v := (0 : Int64)) hx hb d_Chain_unpack_1 (by decide) ?_
  refine W.lcmp hx hb d_Chain_unpack_2 ?_
  refine lv_if_ge (tgt := 8) hx hb d_Chain_unpack_3 (by decide) (fun hc => ?_) (fun hc => ?_)
  · replace hf0 := o_t hc hf0
    refine lv_iconst (v := (0 : Int32)) hx hb d_Chain_unpack_8 (by decide) ?_
    refine lv_istore_n (lv' := [(2, .int (0 : Int32)), (0, .long x0)]) hx hb d_Chain_unpack_9 rfl hl (by decide) rfl (fun ls hl => ?_)
    refine lv_lload_n hx hb d_Chain_unpack_10 rfl (lv_at hl 1 rfl) ?_
    refine lv_ldc2 (v := (4 : Int64)) hx hb hown (ht _ w4_14) d_Chain_unpack_11 ?_
    refine lv_ldiv hx hb d_Chain_unpack_14 (by decide) ?_
    refine lv_lstore_n (lv' := [(3, .long (x0 / (4 : Int64))), (2, .int (0 : Int32)), (0, .long x0)]) hx hb d_Chain_unpack_15 rfl hl (by decide) rfl (fun ls hl => ?_)
    refine lv_iconst (v := (0 : Int32)) hx hb d_Chain_unpack_16 (by decide) ?_
    refine lv_istore (lv' := [(5, .int (0 : Int32)), (3, .long (x0 / (4 : Int64))), (2, .int (0 : Int32)), (0, .long x0)]) hx hb d_Chain_unpack_17 hl (by decide) rfl (fun ls hl => ?_)
    exact J19 _ _ _ _ _ _ hf0 hH (lv_sub hl [2, 1, 0] rfl)
  · replace hf0 := o_f hc hf0
    refine lv_iconst (v := (-1 : Int32)) hx hb d_Chain_unpack_6 (by decide) ?_
    obtain rfl := o_v hf0
    exact hQ _ _ _ _ hH d_Chain_unpack_7
theorem c_Chain_unpack (l : Launch) {Z : WD} (hI : wI Z) (M : Mem) (x0 : Int64) {r : Int32} (hf : f_Chain_unpack x0 = some r) : Ci l Z y_Chain_unpack b_Chain_unpack 7 (some .int) 3 64 [.long x0] M M r := by
  refine Met.ofW (cc := b_Chain_unpack) (maxL := 7) (ret := (some .int)) (by decide) rfl ?_
  intro p e s m args below meth c s₁ B hml hv
  obtain ⟨rfl, hP, hX⟩ := hv
  have S : CallFix p m c b_Chain_unpack 7 s ([.long x0] : List Value).toArray gtb R_Chain := ⟨B.exec, B.bytes, hml, findClass_of_methodNamed B.named, fun w hw => atoms_spec (ws := .code y_Chain_unpack b_Chain_unpack 7 (some .int) :: gtb) B.pre w (List.mem_cons_of_mem _ hw)⟩
  have hl := lv_entry ([.long x0]) (n := 7) (Nat.le_of_ble_eq_true rfl)
  rw [lg_entry_eq]
  exact wk_Chain_unpack hI M x0 S hX ⟨Nat.le_refl _, Nat.le_refl _⟩ (fun pc H locs ls hH d => q_ri S.1 S.2.1 B.returns B.notSynchronized hH rfl rfl d) hf ⟨hP, va_S.rf⟩ hl
noncomputable def f_MC_isRoundOrNone_J20  : Bool := false
noncomputable def f_MC_isRoundOrNone_J16  : Bool := true
noncomputable def f_MC_isRoundOrNone (x0 : Int32) : Bool := 
    if x0 = (-1 : Int32) then f_MC_isRoundOrNone_J16 else 
    if x0 < (1 : Int32) then f_MC_isRoundOrNone_J20 else if (8 : Int32) < x0 then f_MC_isRoundOrNone_J20 else f_MC_isRoundOrNone_J16
set_option maxHeartbeats 4000000 in
theorem wk_MC_isRoundOrNone {l : Launch} {Z : WD} (hI : wI Z) (M : Mem) (x0 : Int32) {r : Bool} {p : Program} {e : Env} {R : Room} {s : State} {m : MethodId} {args : Array Value} {below : List Frame} {meth : Method} {c : Code} {H : Heap} {locs : List Loc} {ls : Array Slot} {Q : State → Prop} (S : CallFix p m c b_MC_isRoundOrNone 1 s args gtb R_MC) (hX : wX Z s) (hR : 0 ≤ R.frames ∧ 0 ≤ R.locals) (hQ : ∀ (pc : Nat) (H : Heap) (locs : List Loc) (ls : Array Slot), HW Z M s H locs → decode b_MC_isRoundOrNone pc = .ok (.ireturn, 1) → W p l e R s m args below meth c H locs 0 0 Q (F0 m pc ls [.int (bI r)])) (hf0 : f_MC_isRoundOrNone x0 = r) (hH : HW Z M s H locs) (hl : lv_has ls 1 [(0, .int x0)]) : W p l e R s m args below meth c H locs 0 0 Q (F0 m 0 ls []) := by
  have hx := S.1
  have hb := S.2.1
  have hown := S.2.2.2.1
  have ht := S.2.2.2.2
  unfold f_MC_isRoundOrNone at hf0
  have J20 : ∀ (H : Heap) (locs : List Loc) (ls : Array Slot), f_MC_isRoundOrNone_J20 = r → HW Z M s H locs → lv_has ls 1 [] → W p l e R s m args below meth c H locs 0 0 Q (F0 m 20 ls []) := by
    intro H locs ls hf0 hH hl
    unfold f_MC_isRoundOrNone_J20 at hf0
    refine lv_iconst (v := (0 : Int32)) hx hb d_MC_isRoundOrNone_20 (by decide) ?_
    subst hf0
    exact hQ _ _ _ _ hH d_MC_isRoundOrNone_21
  have J16 : ∀ (H : Heap) (locs : List Loc) (ls : Array Slot), f_MC_isRoundOrNone_J16 = r → HW Z M s H locs → lv_has ls 1 [] → W p l e R s m args below meth c H locs 0 0 Q (F0 m 16 ls []) := by
    intro H locs ls hf0 hH hl
    unfold f_MC_isRoundOrNone_J16 at hf0
    refine lv_iconst (v := (1 : Int32)) hx hb d_MC_isRoundOrNone_16 (by decide) ?_
    refine lv_goto (tgt := 21) hx hb d_MC_isRoundOrNone_17 (by decide) ?_
    subst hf0
    exact hQ _ _ _ _ hH d_MC_isRoundOrNone_21
  refine lv_iload_n hx hb d_MC_isRoundOrNone_0 rfl (lv_at hl 0 rfl) ?_
  refine lv_iconst (v := (-1 : Int32)) hx hb d_MC_isRoundOrNone_1 (by decide) ?_
  refine lv_icmp_eq (tgt := 16) hx hb d_MC_isRoundOrNone_2 (by decide) (fun hc => ?_) (fun hc => ?_)
  · replace hf0 := o_t hc hf0
    exact J16 _ _ _ hf0 hH (lv_sub hl [] rfl)
  · replace hf0 := o_f hc hf0
    refine lv_iload_n hx hb d_MC_isRoundOrNone_5 rfl (lv_at hl 0 rfl) ?_
    refine lv_iconst (v := (1 : Int32)) hx hb d_MC_isRoundOrNone_6 (by decide) ?_
    refine lv_icmp_lt (tgt := 20) hx hb d_MC_isRoundOrNone_7 (by decide) (fun hc => ?_) (fun hc => ?_)
    · replace hf0 := o_t hc hf0
      exact J20 _ _ _ hf0 hH (lv_sub hl [] rfl)
    · replace hf0 := o_f hc hf0
      refine lv_iload_n hx hb d_MC_isRoundOrNone_10 rfl (lv_at hl 0 rfl) ?_
      refine lv_bipush (v := (8 : Int32)) hx hb d_MC_isRoundOrNone_11 (by decide) ?_
      refine lv_icmp_gt (tgt := 20) hx hb d_MC_isRoundOrNone_13 (by decide) (fun hc => ?_) (fun hc => ?_)
      · replace hf0 := o_t hc hf0
        exact J20 _ _ _ hf0 hH (lv_sub hl [] rfl)
      · replace hf0 := o_f hc hf0
        exact J16 _ _ _ hf0 hH (lv_sub hl [] rfl)
theorem c_MC_isRoundOrNone (l : Launch) {Z : WD} (hI : wI Z) (M : Mem) (x0 : Int32) {r : Bool} (hf : f_MC_isRoundOrNone x0 = r) : Ci l Z y_MC_isRoundOrNone b_MC_isRoundOrNone 1 (some .boolean) 0 0 [.int x0] M M (bI r) := by
  refine Met.ofW (cc := b_MC_isRoundOrNone) (maxL := 1) (ret := (some .boolean)) (by decide) rfl ?_
  intro p e s m args below meth c s₁ B hml hv
  obtain ⟨rfl, hP, hX⟩ := hv
  have S : CallFix p m c b_MC_isRoundOrNone 1 s ([.int x0] : List Value).toArray gtb R_MC := ⟨B.exec, B.bytes, hml, findClass_of_methodNamed B.named, fun w hw => atoms_spec (ws := .code y_MC_isRoundOrNone b_MC_isRoundOrNone 1 (some .boolean) :: gtb) B.pre w (List.mem_cons_of_mem _ hw)⟩
  have hl := lv_entry ([.int x0]) (n := 1) (Nat.le_of_ble_eq_true rfl)
  rw [lg_entry_eq]
  exact wk_MC_isRoundOrNone hI M x0 S hX ⟨Nat.le_refl _, Nat.le_refl _⟩ (fun pc H locs ls hH d => q_rz S.1 S.2.1 B.returns B.notSynchronized hH rfl rfl d) hf ⟨hP, va_S.rf⟩ hl
noncomputable def f_Chain_digits_L4 (x0 : Int32) (x1 : Int32) (x2 : Int32) : Option ((Int32 × Int32) ⊕ Int32) := if (f_Chain_size x0) ≤ x2 then some (.inr x1) else some (.inl (((x1 * (10 : Int32)) + (f_Chain_markAt x0 x2)) + (1 : Int32), x2 + (1 : Int32)))
noncomputable def f_Chain_digits_W4 (x0 : Int32) (u : (Int32 × Int32)) : Option Int32 := loop (fun t => f_Chain_digits_L4 x0 t.1 t.2) u
noncomputable def f_Chain_digits_J4 (x0 : Int32) (x1 : Int32) (x2 : Int32) : Option (Int32) := bnd (f_Chain_digits_W4 x0 (x1, x2)) (fun e4 => some e4)
noncomputable def f_Chain_digits (x0 : Int32) : Option Int32 := f_Chain_digits_J4 x0 (0 : Int32) (0 : Int32)
set_option maxHeartbeats 4000000 in
theorem wk_Chain_digits {l : Launch} {Z : WD} (hI : wI Z) (M : Mem) (x0 : Int32) {r : Int32} {p : Program} {e : Env} {R : Room} {s : State} {m : MethodId} {args : Array Value} {below : List Frame} {meth : Method} {c : Code} {H : Heap} {locs : List Loc} {ls : Array Slot} {Q : State → Prop} (S : CallFix p m c b_Chain_digits 3 s args gtb R_Chain) (hX : wX Z s) (hR : 1 ≤ R.frames ∧ 21 ≤ R.locals) (hQ : ∀ (pc : Nat) (H : Heap) (locs : List Loc) (ls : Array Slot), HW Z M s H locs → decode b_Chain_digits pc = .ok (.ireturn, 1) → W p l e R s m args below meth c H locs 0 0 Q (F0 m pc ls [.int r])) (hf0 : f_Chain_digits x0 = some r) (hH : HW Z M s H locs) (hl : lv_has ls 3 [(0, .int x0)]) : W p l e R s m args below meth c H locs 0 0 Q (F0 m 0 ls []) := by
  have hx := S.1
  have hb := S.2.1
  have hown := S.2.2.2.1
  have ht := S.2.2.2.2
  unfold f_Chain_digits at hf0
  have J4 : ∀ (x0 : Int32) (x1 : Int32) (x2 : Int32) (H : Heap) (locs : List Loc) (ls : Array Slot), f_Chain_digits_J4 x0 x1 x2 = some r → HW Z M s H locs → lv_has ls 3 [(0, .int x0), (1, .int x1), (2, .int x2)] → W p l e R s m args below meth c H locs 0 0 Q (F0 m 4 ls []) := by
    intro x0 x1 x2 H locs ls hf0 hH hl
    unfold f_Chain_digits_J4 at hf0
    obtain ⟨e4, he4, hf0⟩ := o_b hf0
    unfold f_Chain_digits_W4 at he4
    refine loop_W (fun t => ∀ (H : Heap) (locs : List Loc) (ls : Array Slot), HW Z M s H locs → lv_has ls 3 [(0, .int x0), (1, .int t.1), (2, .int t.2)] → W p l e R s m args below meth c H locs 0 0 Q (F0 m 4 ls [])) ?_ he4 H locs ls hH hl
    rintro ⟨x1, x2⟩ o1 hf1 hG1 hR1 H locs ls hH hl
    replace hH : HW Z M s H locs := hH
    replace hl : lv_has ls 3 [(0, .int x0), (1, .int x1), (2, .int x2)] := hl
    replace hf1 : f_Chain_digits_L4 x0 x1 x2 = some o1 := hf1
    unfold f_Chain_digits_L4 at hf1
    refine lv_iload_n hx hb d_Chain_digits_4 rfl (lv_at hl 2 rfl) ?_
    refine lv_iload_n hx hb d_Chain_digits_5 rfl (lv_at hl 0 rfl) ?_
    refine q_cSi (As := [.int x0]) (rest := [.int x2]) S hX hH (c_Chain_size l hI M x0 rfl) (cw_Chain_9 S.2.2.2.2 (Nat.le_trans (Nat.le_of_ble_eq_true rfl) hR.1) (Nat.le_trans (Nat.le_of_ble_eq_true rfl) hR.2)) rfl hl.1 rfl (Nat.le_of_ble_eq_true rfl) d_Chain_digits_6 ⟨Nat.zero_le _, Nat.zero_le _⟩ (fun H locs hH => ?_)
    refine lv_icmp_ge (tgt := 31) hx hb d_Chain_digits_9 (by decide) (fun hc => ?_) (fun hc => ?_)
    · replace hf1 := o_t hc hf1
      refine lv_iload_n hx hb d_Chain_digits_31 rfl (lv_at hl 1 rfl) ?_
      obtain rfl := hR1 _ (o_v hf1).symm
      obtain rfl := o_v hf0
      exact hQ _ _ _ _ hH d_Chain_digits_32
    · replace hf1 := o_f hc hf1
      refine lv_iload_n hx hb d_Chain_digits_12 rfl (lv_at hl 1 rfl) ?_
      refine lv_bipush (v := (10 : Int32)) hx hb d_Chain_digits_13 (by decide) ?_
      refine lv_imul hx hb d_Chain_digits_15 ?_
      refine lv_iload_n hx hb d_Chain_digits_16 rfl (lv_at hl 0 rfl) ?_
      refine lv_iload_n hx hb d_Chain_digits_17 rfl (lv_at hl 2 rfl) ?_
      refine q_cSi (As := [.int x0, .int x2]) (rest := [.int (x1 * (10 : Int32))]) S hX hH (c_Chain_markAt l hI M x0 x2 rfl) (cw_Chain_15 S.2.2.2.2 (Nat.le_trans (Nat.le_of_ble_eq_true rfl) hR.1) (Nat.le_trans (Nat.le_of_ble_eq_true rfl) hR.2)) rfl hl.1 rfl (Nat.le_of_ble_eq_true rfl) d_Chain_digits_18 ⟨Nat.zero_le _, Nat.zero_le _⟩ (fun H locs hH => ?_)
      refine lv_iadd hx hb d_Chain_digits_21 ?_
      refine lv_iconst (v := (1 : Int32)) hx hb d_Chain_digits_22 (by decide) ?_
      refine lv_iadd hx hb d_Chain_digits_23 ?_
      refine lv_istore_n (lv' := [(1, .int (((x1 * (10 : Int32)) + (f_Chain_markAt x0 x2)) + (1 : Int32))), (0, .int x0), (2, .int x2)]) hx hb d_Chain_digits_24 rfl hl (by decide) rfl (fun ls hl => ?_)
      refine lv_iinc (v := x2 + (1 : Int32)) (lv' := [(2, .int (x2 + (1 : Int32))), (1, .int (((x1 * (10 : Int32)) + (f_Chain_markAt x0 x2)) + (1 : Int32))), (0, .int x0)]) hx hb d_Chain_digits_25 hl (k := 2) rfl rfl (by decide) rfl (fun ls hl => ?_)
      refine lv_goto (tgt := 4) hx hb d_Chain_digits_28 (by decide) ?_
      exact hG1 _ (o_v hf1).symm _ _ _ hH (lv_sub hl [2, 1, 0] rfl)
  refine lv_iconst (v := (0 : Int32)) hx hb d_Chain_digits_0 (by decide) ?_
  refine lv_istore_n (lv' := [(1, .int (0 : Int32)), (0, .int x0)]) hx hb d_Chain_digits_1 rfl hl (by decide) rfl (fun ls hl => ?_)
  refine lv_iconst (v := (0 : Int32)) hx hb d_Chain_digits_2 (by decide) ?_
  refine lv_istore_n (lv' := [(2, .int (0 : Int32)), (1, .int (0 : Int32)), (0, .int x0)]) hx hb d_Chain_digits_3 rfl hl (by decide) rfl (fun ls hl => ?_)
  exact J4 _ _ _ _ _ _ hf0 hH (lv_sub hl [2, 1, 0] rfl)
theorem c_Chain_digits (l : Launch) {Z : WD} (hI : wI Z) (M : Mem) (x0 : Int32) {r : Int32} (hf : f_Chain_digits x0 = some r) : Ci l Z y_Chain_digits b_Chain_digits 3 (some .int) 1 21 [.int x0] M M r := by
  refine Met.ofW (cc := b_Chain_digits) (maxL := 3) (ret := (some .int)) (by decide) rfl ?_
  intro p e s m args below meth c s₁ B hml hv
  obtain ⟨rfl, hP, hX⟩ := hv
  have S : CallFix p m c b_Chain_digits 3 s ([.int x0] : List Value).toArray gtb R_Chain := ⟨B.exec, B.bytes, hml, findClass_of_methodNamed B.named, fun w hw => atoms_spec (ws := .code y_Chain_digits b_Chain_digits 3 (some .int) :: gtb) B.pre w (List.mem_cons_of_mem _ hw)⟩
  have hl := lv_entry ([.int x0]) (n := 3) (Nat.le_of_ble_eq_true rfl)
  rw [lg_entry_eq]
  exact wk_Chain_digits hI M x0 S hX ⟨Nat.le_refl _, Nat.le_refl _⟩ (fun pc H locs ls hH d => q_ri S.1 S.2.1 B.returns B.notSynchronized hH rfl rfl d) hf ⟨hP, va_S.rf⟩ hl
noncomputable def f_Int_numberOfTrailingZeros_J62 (x0 : Int32) (x1 : Int32) : Int32 := if x0 ≤ (4 : Int32) then x1 + ((x0.toUInt32 >>> ((1 : Int32).toUInt32 &&& Int32.toUInt32 31)).toInt32) else 
    (x1 + (2 : Int32)) + ((((x0.toUInt32 >>> ((2 : Int32).toUInt32 &&& Int32.toUInt32 31)).toInt32).toUInt32 >>> ((1 : Int32).toUInt32 &&& Int32.toUInt32 31)).toInt32)
noncomputable def f_Int_numberOfTrailingZeros_J49 (x0 : Int32) (x1 : Int32) : Int32 := if x0 ≤ (16 : Int32) then f_Int_numberOfTrailingZeros_J62 x0 x1 else 
    f_Int_numberOfTrailingZeros_J62 ((x0.toUInt32 >>> ((4 : Int32).toUInt32 &&& Int32.toUInt32 31)).toInt32) (x1 + (4 : Int32))
noncomputable def f_Int_numberOfTrailingZeros_J34 (x0 : Int32) (x1 : Int32) : Int32 := if x0 ≤ (256 : Int32) then f_Int_numberOfTrailingZeros_J49 x0 x1 else 
    f_Int_numberOfTrailingZeros_J49 ((x0.toUInt32 >>> ((8 : Int32).toUInt32 &&& Int32.toUInt32 31)).toInt32) (x1 + (8 : Int32))
noncomputable def f_Int_numberOfTrailingZeros (x0 : Int32) : Int32 := 
    if 0 < ((x0 ^^^ (-1 : Int32)) &&& (x0 - (1 : Int32))) then 
    if ((x0 ^^^ (-1 : Int32)) &&& (x0 - (1 : Int32))) ≤ (65536 : Int32) then f_Int_numberOfTrailingZeros_J34 ((x0 ^^^ (-1 : Int32)) &&& (x0 - (1 : Int32))) (1 : Int32) else 
    lt1 ((((x0 ^^^ (-1 : Int32)) &&& (x0 - (1 : Int32))).toUInt32 >>> ((16 : Int32).toUInt32 &&& Int32.toUInt32 31)).toInt32) (fun y1 => f_Int_numberOfTrailingZeros_J34 y1 ((1 : Int32) + (16 : Int32))) else ((x0 ^^^ (-1 : Int32)) &&& (x0 - (1 : Int32))) &&& (32 : Int32)
set_option maxHeartbeats 4000000 in
theorem wk_Int_numberOfTrailingZeros {l : Launch} {Z : WD} (hI : wI Z) (M : Mem) (x0 : Int32) {r : Int32} {p : Program} {e : Env} {R : Room} {s : State} {m : MethodId} {args : Array Value} {below : List Frame} {meth : Method} {c : Code} {H : Heap} {locs : List Loc} {ls : Array Slot} {Q : State → Prop} (S : CallFix p m c b_Int_numberOfTrailingZeros 2 s args gtb R_Int) (hX : wX Z s) (hR : 0 ≤ R.frames ∧ 0 ≤ R.locals) (hQ : ∀ (pc : Nat) (H : Heap) (locs : List Loc) (ls : Array Slot), HW Z M s H locs → decode b_Int_numberOfTrailingZeros pc = .ok (.ireturn, 1) → W p l e R s m args below meth c H locs 0 0 Q (F0 m pc ls [.int r])) (hf0 : f_Int_numberOfTrailingZeros x0 = r) (hH : HW Z M s H locs) (hl : lv_has ls 2 [(0, .int x0)]) : W p l e R s m args below meth c H locs 0 0 Q (F0 m 0 ls []) := by
  have hx := S.1
  have hb := S.2.1
  have hown := S.2.2.2.1
  have ht := S.2.2.2.2
  unfold f_Int_numberOfTrailingZeros at hf0
  have J62 : ∀ (x0 : Int32) (x1 : Int32) (H : Heap) (locs : List Loc) (ls : Array Slot), f_Int_numberOfTrailingZeros_J62 x0 x1 = r → HW Z M s H locs → lv_has ls 2 [(0, .int x0), (1, .int x1)] → W p l e R s m args below meth c H locs 0 0 Q (F0 m 62 ls []) := by
    intro x0 x1 H locs ls hf0 hH hl
    unfold f_Int_numberOfTrailingZeros_J62 at hf0
    refine lv_iload_n hx hb d_Int_numberOfTrailingZeros_62 rfl (lv_at hl 0 rfl) ?_
    refine lv_iconst (v := (4 : Int32)) hx hb d_Int_numberOfTrailingZeros_63 (by decide) ?_
    refine lv_icmp_le (tgt := 74) hx hb d_Int_numberOfTrailingZeros_64 (by decide) (fun hc => ?_) (fun hc => ?_)
    · replace hf0 := o_t hc hf0
      refine lv_iload_n hx hb d_Int_numberOfTrailingZeros_74 rfl (lv_at hl 1 rfl) ?_
      refine lv_iload_n hx hb d_Int_numberOfTrailingZeros_75 rfl (lv_at hl 0 rfl) ?_
      refine lv_iconst (v := (1 : Int32)) hx hb d_Int_numberOfTrailingZeros_76 (by decide) ?_
      refine lv_iushr hx hb d_Int_numberOfTrailingZeros_77 rfl ?_
      refine lv_iadd hx hb d_Int_numberOfTrailingZeros_78 ?_
      subst hf0
      exact hQ _ _ _ _ hH d_Int_numberOfTrailingZeros_79
    · replace hf0 := o_f hc hf0
      refine lv_iinc (v := x1 + (2 : Int32)) (lv' := [(1, .int (x1 + (2 : Int32))), (0, .int x0)]) hx hb d_Int_numberOfTrailingZeros_67 hl (k := 1) rfl rfl (by decide) rfl (fun ls hl => ?_)
      refine lv_iload_n hx hb d_Int_numberOfTrailingZeros_70 rfl (lv_at hl 1 rfl) ?_
      refine lv_iconst (v := (2 : Int32)) hx hb d_Int_numberOfTrailingZeros_71 (by decide) ?_
      refine lv_iushr hx hb d_Int_numberOfTrailingZeros_72 rfl ?_
      refine lv_istore_n (lv' := [(0, .int ((x0.toUInt32 >>> ((2 : Int32).toUInt32 &&& Int32.toUInt32 31)).toInt32)), (1, .int (x1 + (2 : Int32)))]) hx hb d_Int_numberOfTrailingZeros_73 rfl hl (by decide) rfl (fun ls hl => ?_)
      refine lv_iload_n hx hb d_Int_numberOfTrailingZeros_74 rfl (lv_at hl 1 rfl) ?_
      refine lv_iload_n hx hb d_Int_numberOfTrailingZeros_75 rfl (lv_at hl 0 rfl) ?_
      refine lv_iconst (v := (1 : Int32)) hx hb d_Int_numberOfTrailingZeros_76 (by decide) ?_
      refine lv_iushr hx hb d_Int_numberOfTrailingZeros_77 rfl ?_
      refine lv_iadd hx hb d_Int_numberOfTrailingZeros_78 ?_
      subst hf0
      exact hQ _ _ _ _ hH d_Int_numberOfTrailingZeros_79
  have J49 : ∀ (x0 : Int32) (x1 : Int32) (H : Heap) (locs : List Loc) (ls : Array Slot), f_Int_numberOfTrailingZeros_J49 x0 x1 = r → HW Z M s H locs → lv_has ls 2 [(0, .int x0), (1, .int x1)] → W p l e R s m args below meth c H locs 0 0 Q (F0 m 49 ls []) := by
    intro x0 x1 H locs ls hf0 hH hl
    unfold f_Int_numberOfTrailingZeros_J49 at hf0
    refine lv_iload_n hx hb d_Int_numberOfTrailingZeros_49 rfl (lv_at hl 0 rfl) ?_
    refine lv_bipush (v := (16 : Int32)) hx hb d_Int_numberOfTrailingZeros_50 (by decide) ?_
    refine lv_icmp_le (tgt := 62) hx hb d_Int_numberOfTrailingZeros_52 (by decide) (fun hc => ?_) (fun hc => ?_)
    · replace hf0 := o_t hc hf0
      exact J62 _ _ _ _ _ hf0 hH (lv_sub hl [0, 1] rfl)
    · replace hf0 := o_f hc hf0
      refine lv_iinc (v := x1 + (4 : Int32)) (lv' := [(1, .int (x1 + (4 : Int32))), (0, .int x0)]) hx hb d_Int_numberOfTrailingZeros_55 hl (k := 1) rfl rfl (by decide) rfl (fun ls hl => ?_)
      refine lv_iload_n hx hb d_Int_numberOfTrailingZeros_58 rfl (lv_at hl 1 rfl) ?_
      refine lv_iconst (v := (4 : Int32)) hx hb d_Int_numberOfTrailingZeros_59 (by decide) ?_
      refine lv_iushr hx hb d_Int_numberOfTrailingZeros_60 rfl ?_
      refine lv_istore_n (lv' := [(0, .int ((x0.toUInt32 >>> ((4 : Int32).toUInt32 &&& Int32.toUInt32 31)).toInt32)), (1, .int (x1 + (4 : Int32)))]) hx hb d_Int_numberOfTrailingZeros_61 rfl hl (by decide) rfl (fun ls hl => ?_)
      exact J62 _ _ _ _ _ hf0 hH (lv_sub hl [0, 1] rfl)
  have J34 : ∀ (x0 : Int32) (x1 : Int32) (H : Heap) (locs : List Loc) (ls : Array Slot), f_Int_numberOfTrailingZeros_J34 x0 x1 = r → HW Z M s H locs → lv_has ls 2 [(0, .int x0), (1, .int x1)] → W p l e R s m args below meth c H locs 0 0 Q (F0 m 34 ls []) := by
    intro x0 x1 H locs ls hf0 hH hl
    unfold f_Int_numberOfTrailingZeros_J34 at hf0
    refine lv_iload_n hx hb d_Int_numberOfTrailingZeros_34 rfl (lv_at hl 0 rfl) ?_
    refine lv_sipush (v := (256 : Int32)) hx hb d_Int_numberOfTrailingZeros_35 (by decide) ?_
    refine lv_icmp_le (tgt := 49) hx hb d_Int_numberOfTrailingZeros_38 (by decide) (fun hc => ?_) (fun hc => ?_)
    · replace hf0 := o_t hc hf0
      exact J49 _ _ _ _ _ hf0 hH (lv_sub hl [0, 1] rfl)
    · replace hf0 := o_f hc hf0
      refine lv_iinc (v := x1 + (8 : Int32)) (lv' := [(1, .int (x1 + (8 : Int32))), (0, .int x0)]) hx hb d_Int_numberOfTrailingZeros_41 hl (k := 1) rfl rfl (by decide) rfl (fun ls hl => ?_)
      refine lv_iload_n hx hb d_Int_numberOfTrailingZeros_44 rfl (lv_at hl 1 rfl) ?_
      refine lv_bipush (v := (8 : Int32)) hx hb d_Int_numberOfTrailingZeros_45 (by decide) ?_
      refine lv_iushr hx hb d_Int_numberOfTrailingZeros_47 rfl ?_
      refine lv_istore_n (lv' := [(0, .int ((x0.toUInt32 >>> ((8 : Int32).toUInt32 &&& Int32.toUInt32 31)).toInt32)), (1, .int (x1 + (8 : Int32)))]) hx hb d_Int_numberOfTrailingZeros_48 rfl hl (by decide) rfl (fun ls hl => ?_)
      exact J49 _ _ _ _ _ hf0 hH (lv_sub hl [0, 1] rfl)
  refine lv_iload_n hx hb d_Int_numberOfTrailingZeros_0 rfl (lv_at hl 0 rfl) ?_
  refine lv_iconst (v := (-1 : Int32)) hx hb d_Int_numberOfTrailingZeros_1 (by decide) ?_
  refine lv_ixor hx hb d_Int_numberOfTrailingZeros_2 ?_
  refine lv_iload_n hx hb d_Int_numberOfTrailingZeros_3 rfl (lv_at hl 0 rfl) ?_
  refine lv_iconst (v := (1 : Int32)) hx hb d_Int_numberOfTrailingZeros_4 (by decide) ?_
  refine lv_isub hx hb d_Int_numberOfTrailingZeros_5 ?_
  refine lv_iand hx hb d_Int_numberOfTrailingZeros_6 ?_
  refine lv_istore_n (lv' := [(0, .int ((x0 ^^^ (-1 : Int32)) &&& (x0 - (1 : Int32))))]) hx hb d_Int_numberOfTrailingZeros_7 rfl hl (by decide) rfl (fun ls hl => ?_)
  refine lv_iload_n hx hb d_Int_numberOfTrailingZeros_8 rfl (lv_at hl 0 rfl) ?_
  refine lv_if_gt (tgt := 17) hx hb d_Int_numberOfTrailingZeros_9 (by decide) (fun hc => ?_) (fun hc => ?_)
  · replace hf0 := o_t hc hf0
    refine lv_iconst (v := (1 : Int32)) hx hb d_Int_numberOfTrailingZeros_17 (by decide) ?_
    refine lv_istore_n (lv' := [(1, .int (1 : Int32)), (0, .int ((x0 ^^^ (-1 : Int32)) &&& (x0 - (1 : Int32))))]) hx hb d_Int_numberOfTrailingZeros_18 rfl hl (by decide) rfl (fun ls hl => ?_)
    refine lv_iload_n hx hb d_Int_numberOfTrailingZeros_19 rfl (lv_at hl 1 rfl) ?_
    refine lv_ldcw (v := (65536 : Int32)) hx hb hown (ht _ w6_73) d_Int_numberOfTrailingZeros_20 ?_
    refine lv_icmp_le (tgt := 34) hx hb d_Int_numberOfTrailingZeros_23 (by decide) (fun hc => ?_) (fun hc => ?_)
    · replace hf0 := o_t hc hf0
      exact J34 _ _ _ _ _ hf0 hH (lv_sub hl [1, 0] rfl)
    · replace hf0 := o_f hc hf0
      refine lv_iinc (v := (1 : Int32) + (16 : Int32)) (lv' := [(1, .int ((1 : Int32) + (16 : Int32))), (0, .int ((x0 ^^^ (-1 : Int32)) &&& (x0 - (1 : Int32))))]) hx hb d_Int_numberOfTrailingZeros_26 hl (k := 0) rfl rfl (by decide) rfl (fun ls hl => ?_)
      refine lv_iload_n hx hb d_Int_numberOfTrailingZeros_29 rfl (lv_at hl 1 rfl) ?_
      refine lv_bipush (v := (16 : Int32)) hx hb d_Int_numberOfTrailingZeros_30 (by decide) ?_
      refine lv_iushr hx hb d_Int_numberOfTrailingZeros_32 rfl ?_
      obtain ⟨y1, hy1, hf0⟩ := o_l hf0
      refine lv_nm hy1 ?_
      refine lv_istore_n (lv' := [(0, .int y1), (1, .int ((1 : Int32) + (16 : Int32)))]) hx hb d_Int_numberOfTrailingZeros_33 rfl hl (by decide) rfl (fun ls hl => ?_)
      exact J34 _ _ _ _ _ hf0 hH (lv_sub hl [0, 1] rfl)
  · replace hf0 := o_f hc hf0
    refine lv_iload_n hx hb d_Int_numberOfTrailingZeros_12 rfl (lv_at hl 0 rfl) ?_
    refine lv_bipush (v := (32 : Int32)) hx hb d_Int_numberOfTrailingZeros_13 (by decide) ?_
    refine lv_iand hx hb d_Int_numberOfTrailingZeros_15 ?_
    subst hf0
    exact hQ _ _ _ _ hH d_Int_numberOfTrailingZeros_16
theorem c_Int_numberOfTrailingZeros (l : Launch) {Z : WD} (hI : wI Z) (M : Mem) (x0 : Int32) {r : Int32} (hf : f_Int_numberOfTrailingZeros x0 = r) : Ci l Z y_Int_numberOfTrailingZeros b_Int_numberOfTrailingZeros 2 (some .int) 0 0 [.int x0] M M r := by
  refine Met.ofW (cc := b_Int_numberOfTrailingZeros) (maxL := 2) (ret := (some .int)) (by decide) rfl ?_
  intro p e s m args below meth c s₁ B hml hv
  obtain ⟨rfl, hP, hX⟩ := hv
  have S : CallFix p m c b_Int_numberOfTrailingZeros 2 s ([.int x0] : List Value).toArray gtb R_Int := ⟨B.exec, B.bytes, hml, findClass_of_methodNamed B.named, fun w hw => atoms_spec (ws := .code y_Int_numberOfTrailingZeros b_Int_numberOfTrailingZeros 2 (some .int) :: gtb) B.pre w (List.mem_cons_of_mem _ hw)⟩
  have hl := lv_entry ([.int x0]) (n := 2) (Nat.le_of_ble_eq_true rfl)
  rw [lg_entry_eq]
  exact wk_Int_numberOfTrailingZeros hI M x0 S hX ⟨Nat.le_refl _, Nat.le_refl _⟩ (fun pc H locs ls hH d => q_ri S.1 S.2.1 B.returns B.notSynchronized hH rfl rfl d) hf ⟨hP, va_S.rf⟩ hl
