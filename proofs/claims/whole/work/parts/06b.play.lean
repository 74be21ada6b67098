noncomputable def f_Play_clear (k : Nat) (M : Mem) : Option Mem := 
    lt1 (upM M k 0 (0 : Int32)) (fun M1 => 
    lt1 (upM M1 k 1 (0 : Int32)) (fun M2 => 
    lt1 (upM M2 k 2 (0 : Int32)) (fun M3 => 
    lt1 (upM M3 k 3 (0 : Int32)) (fun M4 => 
    lt1 (upM M4 k 4 (0 : Int32)) (fun M5 => 
    lt1 (upM M5 (k + 1) 0 (0 : Int32)) (fun M6 => 
    lt1 (upM M6 (k + 1) 1 (0 : Int32)) (fun M7 => 
    lt1 (upM M7 (k + 1) 2 (1 : Int32)) (fun M8 => 
    lt1 (upM M8 (k + 1) 3 (0 : Int32)) (fun M9 => lt1 (upM M9 (k + 1) 4 (2 : Int32)) (fun M10 => some M10))))))))))
set_option maxHeartbeats 4000000 in
theorem wk_Play_clear {l : Launch} {Z : WD} (hI : wI Z) (hZ : IsC Z) (k : Nat) (M : Mem) (hk : isPlay k) {M' : Mem} {p : Program} {e : Env} {R : Room} {s : State} {m : MethodId} {args : Array Value} {below : List Frame} {meth : Method} {c : Code} {H : Heap} {locs : List Loc} {ls : Array Slot} {Q : State → Prop} (S : CallFix p m c b_Play_clear 1 s args gtb R_Play) (hX : wX Z s) (hR : 0 ≤ R.frames ∧ 0 ≤ R.locals) (hQ : ∀ (pc : Nat) (H : Heap) (locs : List Loc) (ls : Array Slot), HW Z M' s H locs → decode b_Play_clear pc = .ok (.return_, 1) → W p l e R s m args below meth c H locs 0 0 Q (F0 m pc ls [])) (hf0 : f_Play_clear k M = some M') (hH : HW Z M s H locs) (hl : lv_has ls 1 [(0, .ref (Z.2.2.1 k))]) : W p l e R s m args below meth c H locs 0 0 Q (F0 m 0 ls []) := by
  have hx := S.1
  have hb := S.2.1
  have hown := S.2.2.2.1
  have ht := S.2.2.2.2
  unfold f_Play_clear at hf0
  refine lv_aload_n hx hb d_Play_clear_0 rfl (lv_at hl 0 rfl) ?_
  refine lv_iconst (v := (0 : Int32)) hx hb d_Play_clear_1 (by decide) ?_
  obtain ⟨M1, hM1, hf0⟩ := o_l hf0
  refine s_Play_36 S hX hI hH hZ hk d_Play_clear_2 (fun H locs hH => ?_)
  rw [hM1] at hH
  refine lv_aload_n hx hb d_Play_clear_5 rfl (lv_at hl 0 rfl) ?_
  refine lv_iconst (v := (0 : Int32)) hx hb d_Play_clear_6 (by decide) ?_
  obtain ⟨M2, hM2, hf0⟩ := o_l hf0
  refine s_Play_40 S hX hI hH hZ hk d_Play_clear_7 (fun H locs hH => ?_)
  rw [hM2] at hH
  refine lv_aload_n hx hb d_Play_clear_10 rfl (lv_at hl 0 rfl) ?_
  refine lv_iconst (v := (0 : Int32)) hx hb d_Play_clear_11 (by decide) ?_
  obtain ⟨M3, hM3, hf0⟩ := o_l hf0
  refine s_Play_43 S hX hI hH hZ hk d_Play_clear_12 (fun H locs hH => ?_)
  rw [hM3] at hH
  refine lv_aload_n hx hb d_Play_clear_15 rfl (lv_at hl 0 rfl) ?_
  refine lv_iconst (v := (0 : Int32)) hx hb d_Play_clear_16 (by decide) ?_
  obtain ⟨M4, hM4, hf0⟩ := o_l hf0
  refine s_Play_46 S hX hI hH hZ hk d_Play_clear_17 (fun H locs hH => ?_)
  rw [hM4] at hH
  refine lv_aload_n hx hb d_Play_clear_20 rfl (lv_at hl 0 rfl) ?_
  refine lv_iconst (v := (0 : Int32)) hx hb d_Play_clear_21 (by decide) ?_
  obtain ⟨M5, hM5, hf0⟩ := o_l hf0
  refine s_Play_49 S hX hI hH hZ hk d_Play_clear_22 (fun H locs hH => ?_)
  rw [hM5] at hH
  refine lv_aload_n hx hb d_Play_clear_25 rfl (lv_at hl 0 rfl) ?_
  refine g_Play_9 S hX hH hZ hk d_Play_clear_26 ?_
  refine lv_iconst (v := (0 : Int32)) hx hb d_Play_clear_29 (by decide) ?_
  refine lv_iconst (v := (0 : Int32)) hx hb d_Play_clear_30 (by decide) ?_
  obtain ⟨M6, hM6, hf0⟩ := o_l hf0
  refine q_iast (j := 0) hx hb hX hI hH (aa_Play_1 hZ hk) (vp_c (by decide)) (by decide) d_Play_clear_31 (fun H locs hH => ?_)
  rw [hM6] at hH
  refine lv_aload_n hx hb d_Play_clear_32 rfl (lv_at hl 0 rfl) ?_
  refine g_Play_9 S hX hH hZ hk d_Play_clear_33 ?_
  refine lv_iconst (v := (1 : Int32)) hx hb d_Play_clear_36 (by decide) ?_
  refine lv_iconst (v := (0 : Int32)) hx hb d_Play_clear_37 (by decide) ?_
  obtain ⟨M7, hM7, hf0⟩ := o_l hf0
  refine q_iast (j := 1) hx hb hX hI hH (aa_Play_1 hZ hk) (vp_c (by decide)) (by decide) d_Play_clear_38 (fun H locs hH => ?_)
  rw [hM7] at hH
  refine lv_aload_n hx hb d_Play_clear_39 rfl (lv_at hl 0 rfl) ?_
  refine g_Play_9 S hX hH hZ hk d_Play_clear_40 ?_
  refine lv_iconst (v := (2 : Int32)) hx hb d_Play_clear_43 (by decide) ?_
  refine lv_iconst (v := (1 : Int32)) hx hb d_Play_clear_44 (by decide) ?_
  obtain ⟨M8, hM8, hf0⟩ := o_l hf0
  refine q_iast (j := 2) hx hb hX hI hH (aa_Play_1 hZ hk) (vp_c (by decide)) (by decide) d_Play_clear_45 (fun H locs hH => ?_)
  rw [hM8] at hH
  refine lv_aload_n hx hb d_Play_clear_46 rfl (lv_at hl 0 rfl) ?_
  refine g_Play_9 S hX hH hZ hk d_Play_clear_47 ?_
  refine lv_iconst (v := (3 : Int32)) hx hb d_Play_clear_50 (by decide) ?_
  refine lv_iconst (v := (0 : Int32)) hx hb d_Play_clear_51 (by decide) ?_
  obtain ⟨M9, hM9, hf0⟩ := o_l hf0
  refine q_iast (j := 3) hx hb hX hI hH (aa_Play_1 hZ hk) (vp_c (by decide)) (by decide) d_Play_clear_52 (fun H locs hH => ?_)
  rw [hM9] at hH
  refine lv_aload_n hx hb d_Play_clear_53 rfl (lv_at hl 0 rfl) ?_
  refine g_Play_9 S hX hH hZ hk d_Play_clear_54 ?_
  refine lv_iconst (v := (4 : Int32)) hx hb d_Play_clear_57 (by decide) ?_
  refine lv_iconst (v := (2 : Int32)) hx hb d_Play_clear_58 (by decide) ?_
  obtain ⟨M10, hM10, hf0⟩ := o_l hf0
  refine q_iast (j := 4) hx hb hX hI hH (aa_Play_1 hZ hk) (vp_c (by decide)) (by decide) d_Play_clear_59 (fun H locs hH => ?_)
  rw [hM10] at hH
  obtain rfl := o_v hf0
  exact hQ _ _ _ _ hH d_Play_clear_60
theorem c_Play_clear (l : Launch) {Z : WD} (hI : wI Z) (hZ : IsC Z) (k : Nat) (M : Mem) (hk : isPlay k) {M' : Mem} (hf : f_Play_clear k M = some M') : Cv l Z y_Play_clear b_Play_clear 1 none 0 0 [.ref (Z.2.2.1 k)] M M' := by
  refine Met.ofW (cc := b_Play_clear) (maxL := 1) (ret := none) (by decide) rfl ?_
  intro p e s m args below meth c s₁ B hml hv
  obtain ⟨rfl, hP, hX⟩ := hv
  have S : CallFix p m c b_Play_clear 1 s ([.ref (Z.2.2.1 k)] : List Value).toArray gtb R_Play := ⟨B.exec, B.bytes, hml, findClass_of_methodNamed B.named, fun w hw => atoms_spec (ws := .code y_Play_clear b_Play_clear 1 none :: gtb) B.pre w (List.mem_cons_of_mem _ hw)⟩
  have hl := lv_entry ([.ref (Z.2.2.1 k)]) (n := 1) (Nat.le_of_ble_eq_true rfl)
  rw [lg_entry_eq]
  exact wk_Play_clear hI hZ k M hk S hX ⟨Nat.le_refl _, Nat.le_refl _⟩ (fun pc H locs ls hH d => q_rv S.1 S.2.1 B.returns B.notSynchronized hH rfl d) hf ⟨hP, va_S.rf⟩ hl
noncomputable def f_Play_hasParty_J16 (k : Nat) (M : Mem) : Bool := false
noncomputable def f_Play_hasParty (k : Nat) (M : Mem) (x1 : Int32) : Bool := if x1 < 0 then f_Play_hasParty_J16 k M else if (M k 0) ≤ x1 then f_Play_hasParty_J16 k M else true
set_option maxHeartbeats 4000000 in
theorem wk_Play_hasParty {l : Launch} {Z : WD} (hI : wI Z) (hZ : IsC Z) (k : Nat) (M : Mem) (x1 : Int32) (hk : isPlay k) {r : Bool} {p : Program} {e : Env} {R : Room} {s : State} {m : MethodId} {args : Array Value} {below : List Frame} {meth : Method} {c : Code} {H : Heap} {locs : List Loc} {ls : Array Slot} {Q : State → Prop} (S : CallFix p m c b_Play_hasParty 2 s args gtb R_Play) (hX : wX Z s) (hR : 0 ≤ R.frames ∧ 0 ≤ R.locals) (hQ : ∀ (pc : Nat) (H : Heap) (locs : List Loc) (ls : Array Slot), HW Z M s H locs → decode b_Play_hasParty pc = .ok (.ireturn, 1) → W p l e R s m args below meth c H locs 0 0 Q (F0 m pc ls [.int (bI r)])) (hf0 : f_Play_hasParty k M x1 = r) (hH : HW Z M s H locs) (hl : lv_has ls 2 [(0, .ref (Z.2.2.1 k)), (1, .int x1)]) : W p l e R s m args below meth c H locs 0 0 Q (F0 m 0 ls []) := by
  have hx := S.1
  have hb := S.2.1
  have hown := S.2.2.2.1
  have ht := S.2.2.2.2
  unfold f_Play_hasParty at hf0
  have J16 : ∀ (H : Heap) (locs : List Loc) (ls : Array Slot), f_Play_hasParty_J16 k M = r → HW Z M s H locs → lv_has ls 2 [] → W p l e R s m args below meth c H locs 0 0 Q (F0 m 16 ls []) := by
    intro H locs ls hf0 hH hl
    unfold f_Play_hasParty_J16 at hf0
    refine lv_iconst (v := (0 : Int32)) hx hb d_Play_hasParty_16 (by decide) ?_
    subst hf0
    exact hQ _ _ _ _ hH d_Play_hasParty_17
  refine lv_iload_n hx hb d_Play_hasParty_0 rfl (lv_at hl 1 rfl) ?_
  refine lv_if_lt (tgt := 16) hx hb d_Play_hasParty_1 (by decide) (fun hc => ?_) (fun hc => ?_)
  · replace hf0 := o_t hc hf0
    exact J16 _ _ _ hf0 hH (lv_sub hl [] rfl)
  · replace hf0 := o_f hc hf0
    refine lv_iload_n hx hb d_Play_hasParty_4 rfl (lv_at hl 1 rfl) ?_
    refine lv_aload_n hx hb d_Play_hasParty_5 rfl (lv_at hl 0 rfl) ?_
    refine g_Play_36 S hX hH hZ hk d_Play_hasParty_6 ?_
    refine lv_icmp_ge (tgt := 16) hx hb d_Play_hasParty_9 (by decide) (fun hc => ?_) (fun hc => ?_)
    · replace hf0 := o_t hc hf0
      exact J16 _ _ _ hf0 hH (lv_sub hl [] rfl)
    · replace hf0 := o_f hc hf0
      refine lv_iconst (v := (1 : Int32)) hx hb d_Play_hasParty_12 (by decide) ?_
      refine lv_goto (tgt := 17) hx hb d_Play_hasParty_13 (by decide) ?_
      subst hf0
      exact hQ _ _ _ _ hH d_Play_hasParty_17
theorem c_Play_hasParty (l : Launch) {Z : WD} (hI : wI Z) (hZ : IsC Z) (k : Nat) (M : Mem) (x1 : Int32) (hk : isPlay k) {r : Bool} (hf : f_Play_hasParty k M x1 = r) : Ci l Z y_Play_hasParty b_Play_hasParty 2 (some .boolean) 0 0 [.ref (Z.2.2.1 k), .int x1] M M (bI r) := by
  refine Met.ofW (cc := b_Play_hasParty) (maxL := 2) (ret := (some .boolean)) (by decide) rfl ?_
  intro p e s m args below meth c s₁ B hml hv
  obtain ⟨rfl, hP, hX⟩ := hv
  have S : CallFix p m c b_Play_hasParty 2 s ([.ref (Z.2.2.1 k), .int x1] : List Value).toArray gtb R_Play := ⟨B.exec, B.bytes, hml, findClass_of_methodNamed B.named, fun w hw => atoms_spec (ws := .code y_Play_hasParty b_Play_hasParty 2 (some .boolean) :: gtb) B.pre w (List.mem_cons_of_mem _ hw)⟩
  have hl := lv_entry ([.ref (Z.2.2.1 k), .int x1]) (n := 2) (Nat.le_of_ble_eq_true rfl)
  rw [lg_entry_eq]
  exact wk_Play_hasParty hI hZ k M x1 hk S hX ⟨Nat.le_refl _, Nat.le_refl _⟩ (fun pc H locs ls hH d => q_rz S.1 S.2.1 B.returns B.notSynchronized hH rfl rfl d) hf ⟨hP, va_S.rf⟩ hl
theorem cw_Play_58 {R : Room} {s : State} {args : Array Value} (ht : ∀ w ∈ gtb, w.before args s = true) (h1 : 0 + 1 ≤ R.frames) (h2 : 8 + (2 + 11) + 0 ≤ R.locals) : CallW R s args R_Play R_Play 58 y_Play_hasParty b_Play_hasParty 2 (some .boolean) (.code y_Play_hasParty b_Play_hasParty 2 (some .boolean) :: gtb) { frames := 0, cells := 0, slots := 0, locals := 0 } 0 0 1 := cwV 1 ht (gV w1_225 w1_226 w1_227 w1_2 w1_228) rfl rfl rfl ⟨rfl, by decide, by decide, by decide +kernel⟩ ⟨h1, h2⟩
noncomputable def f_Play_isLiar_J23 (k : Nat) (M : Mem) : Bool := false
noncomputable def f_Play_isLiar (k : Nat) (M : Mem) (x1 : Int32) : Bool := 
    if (bI (f_Play_hasParty k M x1)) = 0 then f_Play_isLiar_J23 k M else if (((M k 1) >>> (x1 &&& 31)) &&& (1 : Int32)) = 0 then f_Play_isLiar_J23 k M else true
set_option maxHeartbeats 4000000 in
theorem wk_Play_isLiar {l : Launch} {Z : WD} (hI : wI Z) (hZ : IsC Z) (k : Nat) (M : Mem) (x1 : Int32) (hk : isPlay k) {r : Bool} {p : Program} {e : Env} {R : Room} {s : State} {m : MethodId} {args : Array Value} {below : List Frame} {meth : Method} {c : Code} {H : Heap} {locs : List Loc} {ls : Array Slot} {Q : State → Prop} (S : CallFix p m c b_Play_isLiar 2 s args gtb R_Play) (hX : wX Z s) (hR : 1 ≤ R.frames ∧ 21 ≤ R.locals) (hQ : ∀ (pc : Nat) (H : Heap) (locs : List Loc) (ls : Array Slot), HW Z M s H locs → decode b_Play_isLiar pc = .ok (.ireturn, 1) → W p l e R s m args below meth c H locs 0 0 Q (F0 m pc ls [.int (bI r)])) (hf0 : f_Play_isLiar k M x1 = r) (hH : HW Z M s H locs) (hl : lv_has ls 2 [(0, .ref (Z.2.2.1 k)), (1, .int x1)]) : W p l e R s m args below meth c H locs 0 0 Q (F0 m 0 ls []) := by
  have hx := S.1
  have hb := S.2.1
  have hown := S.2.2.2.1
  have ht := S.2.2.2.2
  unfold f_Play_isLiar at hf0
  have J23 : ∀ (H : Heap) (locs : List Loc) (ls : Array Slot), f_Play_isLiar_J23 k M = r → HW Z M s H locs → lv_has ls 2 [] → W p l e R s m args below meth c H locs 0 0 Q (F0 m 23 ls []) := by
    intro H locs ls hf0 hH hl
    unfold f_Play_isLiar_J23 at hf0
    refine lv_iconst (v := (0 : Int32)) hx hb d_Play_isLiar_23 (by decide) ?_
    subst hf0
    exact hQ _ _ _ _ hH d_Play_isLiar_24
  refine lv_aload_n hx hb d_Play_isLiar_0 rfl (lv_at hl 0 rfl) ?_
  refine lv_iload_n hx hb d_Play_isLiar_1 rfl (lv_at hl 1 rfl) ?_
  refine q_cVi (As := [.int x1]) (rest := []) S hX hH (c_Play_hasParty l hI hZ k M x1 hk rfl) (cw_Play_58 S.2.2.2.2 (Nat.le_trans (Nat.le_of_ble_eq_true rfl) hR.1) (Nat.le_trans (Nat.le_of_ble_eq_true rfl) hR.2)) (rc_Play hX hH hZ hk) rfl hl.1 rfl (Nat.le_of_ble_eq_true rfl) d_Play_isLiar_2 ⟨Nat.zero_le _, Nat.zero_le _⟩ (fun H locs hH => ?_)
  refine lv_if_eq (tgt := 23) hx hb d_Play_isLiar_5 (by decide) (fun hc => ?_) (fun hc => ?_)
  · replace hf0 := o_t hc hf0
    exact J23 _ _ _ hf0 hH (lv_sub hl [] rfl)
  · replace hf0 := o_f hc hf0
    refine lv_aload_n hx hb d_Play_isLiar_8 rfl (lv_at hl 0 rfl) ?_
    refine g_Play_40 S hX hH hZ hk d_Play_isLiar_9 ?_
    refine lv_iload_n hx hb d_Play_isLiar_12 rfl (lv_at hl 1 rfl) ?_
    refine lv_ishr hx hb d_Play_isLiar_13 ?_
    refine lv_iconst (v := (1 : Int32)) hx hb d_Play_isLiar_14 (by decide) ?_
    refine lv_iand hx hb d_Play_isLiar_15 ?_
    refine lv_if_eq (tgt := 23) hx hb d_Play_isLiar_16 (by decide) (fun hc => ?_) (fun hc => ?_)
    · replace hf0 := o_t hc hf0
      exact J23 _ _ _ hf0 hH (lv_sub hl [] rfl)
    · replace hf0 := o_f hc hf0
      refine lv_iconst (v := (1 : Int32)) hx hb d_Play_isLiar_19 (by decide) ?_
      refine lv_goto (tgt := 24) hx hb d_Play_isLiar_20 (by decide) ?_
      subst hf0
      exact hQ _ _ _ _ hH d_Play_isLiar_24
theorem c_Play_isLiar (l : Launch) {Z : WD} (hI : wI Z) (hZ : IsC Z) (k : Nat) (M : Mem) (x1 : Int32) (hk : isPlay k) {r : Bool} (hf : f_Play_isLiar k M x1 = r) : Ci l Z y_Play_isLiar b_Play_isLiar 2 (some .boolean) 1 21 [.ref (Z.2.2.1 k), .int x1] M M (bI r) := by
  refine Met.ofW (cc := b_Play_isLiar) (maxL := 2) (ret := (some .boolean)) (by decide) rfl ?_
  intro p e s m args below meth c s₁ B hml hv
  obtain ⟨rfl, hP, hX⟩ := hv
  have S : CallFix p m c b_Play_isLiar 2 s ([.ref (Z.2.2.1 k), .int x1] : List Value).toArray gtb R_Play := ⟨B.exec, B.bytes, hml, findClass_of_methodNamed B.named, fun w hw => atoms_spec (ws := .code y_Play_isLiar b_Play_isLiar 2 (some .boolean) :: gtb) B.pre w (List.mem_cons_of_mem _ hw)⟩
  have hl := lv_entry ([.ref (Z.2.2.1 k), .int x1]) (n := 2) (Nat.le_of_ble_eq_true rfl)
  rw [lg_entry_eq]
  exact wk_Play_isLiar hI hZ k M x1 hk S hX ⟨Nat.le_refl _, Nat.le_refl _⟩ (fun pc H locs ls hH d => q_rz S.1 S.2.1 B.returns B.notSynchronized hH rfl rfl d) hf ⟨hP, va_S.rf⟩ hl
noncomputable def f_Play_isHonest_J23 (k : Nat) (M : Mem) : Bool := false
noncomputable def f_Play_isHonest (k : Nat) (M : Mem) (x1 : Int32) : Bool := 
    if (bI (f_Play_hasParty k M x1)) = 0 then f_Play_isHonest_J23 k M else if (((M k 1) >>> (x1 &&& 31)) &&& (1 : Int32)) = 0 then true else f_Play_isHonest_J23 k M
set_option maxHeartbeats 4000000 in
theorem wk_Play_isHonest {l : Launch} {Z : WD} (hI : wI Z) (hZ : IsC Z) (k : Nat) (M : Mem) (x1 : Int32) (hk : isPlay k) {r : Bool} {p : Program} {e : Env} {R : Room} {s : State} {m : MethodId} {args : Array Value} {below : List Frame} {meth : Method} {c : Code} {H : Heap} {locs : List Loc} {ls : Array Slot} {Q : State → Prop} (S : CallFix p m c b_Play_isHonest 2 s args gtb R_Play) (hX : wX Z s) (hR : 1 ≤ R.frames ∧ 21 ≤ R.locals) (hQ : ∀ (pc : Nat) (H : Heap) (locs : List Loc) (ls : Array Slot), HW Z M s H locs → decode b_Play_isHonest pc = .ok (.ireturn, 1) → W p l e R s m args below meth c H locs 0 0 Q (F0 m pc ls [.int (bI r)])) (hf0 : f_Play_isHonest k M x1 = r) (hH : HW Z M s H locs) (hl : lv_has ls 2 [(0, .ref (Z.2.2.1 k)), (1, .int x1)]) : W p l e R s m args below meth c H locs 0 0 Q (F0 m 0 ls []) := by
  have hx := S.1
  have hb := S.2.1
  have hown := S.2.2.2.1
  have ht := S.2.2.2.2
  unfold f_Play_isHonest at hf0
  have J23 : ∀ (H : Heap) (locs : List Loc) (ls : Array Slot), f_Play_isHonest_J23 k M = r → HW Z M s H locs → lv_has ls 2 [] → W p l e R s m args below meth c H locs 0 0 Q (F0 m 23 ls []) := by
    intro H locs ls hf0 hH hl
    unfold f_Play_isHonest_J23 at hf0
    refine lv_iconst (v := (0 : Int32)) hx hb d_Play_isHonest_23 (by decide) ?_
    subst hf0
    exact hQ _ _ _ _ hH d_Play_isHonest_24
  refine lv_aload_n hx hb d_Play_isHonest_0 rfl (lv_at hl 0 rfl) ?_
  refine lv_iload_n hx hb d_Play_isHonest_1 rfl (lv_at hl 1 rfl) ?_
  refine q_cVi (As := [.int x1]) (rest := []) S hX hH (c_Play_hasParty l hI hZ k M x1 hk rfl) (cw_Play_58 S.2.2.2.2 (Nat.le_trans (Nat.le_of_ble_eq_true rfl) hR.1) (Nat.le_trans (Nat.le_of_ble_eq_true rfl) hR.2)) (rc_Play hX hH hZ hk) rfl hl.1 rfl (Nat.le_of_ble_eq_true rfl) d_Play_isHonest_2 ⟨Nat.zero_le _, Nat.zero_le _⟩ (fun H locs hH => ?_)
  refine lv_if_eq (tgt := 23) hx hb d_Play_isHonest_5 (by decide) (fun hc => ?_) (fun hc => ?_)
  · replace hf0 := o_t hc hf0
    exact J23 _ _ _ hf0 hH (lv_sub hl [] rfl)
  · replace hf0 := o_f hc hf0
    refine lv_aload_n hx hb d_Play_isHonest_8 rfl (lv_at hl 0 rfl) ?_
    refine g_Play_40 S hX hH hZ hk d_Play_isHonest_9 ?_
    refine lv_iload_n hx hb d_Play_isHonest_12 rfl (lv_at hl 1 rfl) ?_
    refine lv_ishr hx hb d_Play_isHonest_13 ?_
    refine lv_iconst (v := (1 : Int32)) hx hb d_Play_isHonest_14 (by decide) ?_
    refine lv_iand hx hb d_Play_isHonest_15 ?_
    refine lv_if_ne (tgt := 23) hx hb d_Play_isHonest_16 (by decide) (fun hc => ?_) (fun hc => ?_)
    · replace hf0 := o_f hc hf0
      exact J23 _ _ _ hf0 hH (lv_sub hl [] rfl)
    · replace hf0 := o_t hc hf0
      refine lv_iconst (v := (1 : Int32)) hx hb d_Play_isHonest_19 (by decide) ?_
      refine lv_goto (tgt := 24) hx hb d_Play_isHonest_20 (by decide) ?_
      subst hf0
      exact hQ _ _ _ _ hH d_Play_isHonest_24
theorem c_Play_isHonest (l : Launch) {Z : WD} (hI : wI Z) (hZ : IsC Z) (k : Nat) (M : Mem) (x1 : Int32) (hk : isPlay k) {r : Bool} (hf : f_Play_isHonest k M x1 = r) : Ci l Z y_Play_isHonest b_Play_isHonest 2 (some .boolean) 1 21 [.ref (Z.2.2.1 k), .int x1] M M (bI r) := by
  refine Met.ofW (cc := b_Play_isHonest) (maxL := 2) (ret := (some .boolean)) (by decide) rfl ?_
  intro p e s m args below meth c s₁ B hml hv
  obtain ⟨rfl, hP, hX⟩ := hv
  have S : CallFix p m c b_Play_isHonest 2 s ([.ref (Z.2.2.1 k), .int x1] : List Value).toArray gtb R_Play := ⟨B.exec, B.bytes, hml, findClass_of_methodNamed B.named, fun w hw => atoms_spec (ws := .code y_Play_isHonest b_Play_isHonest 2 (some .boolean) :: gtb) B.pre w (List.mem_cons_of_mem _ hw)⟩
  have hl := lv_entry ([.ref (Z.2.2.1 k), .int x1]) (n := 2) (Nat.le_of_ble_eq_true rfl)
  rw [lg_entry_eq]
  exact wk_Play_isHonest hI hZ k M x1 hk S hX ⟨Nat.le_refl _, Nat.le_refl _⟩ (fun pc H locs ls hH d => q_rz S.1 S.2.1 B.returns B.notSynchronized hH rfl rfl d) hf ⟨hP, va_S.rf⟩ hl
noncomputable def f_Play_addPlan (k : Nat) (M : Mem) (x1 : Int32) (x2 : Int32) (x3 : Int32) : Option Mem := 
    if (16 : Int32) ≤ (M k 2) then some M else 
    gIn (M k 2) 16 (lt1 (upM M (k + 2) ((M k 2).toNatClampNeg) x1) (fun M2 => 
    gIn (M2 k 2) 16 (lt1 (upM M2 (k + 3) ((M2 k 2).toNatClampNeg) x2) (fun M4 => 
    gIn (M4 k 2) 16 (lt1 (upM M4 (k + 4) ((M4 k 2).toNatClampNeg) x3) (fun M6 => lt1 (upM M6 k 2 ((M6 k 2) + (1 : Int32))) (fun M7 => some M7)))))))
set_option maxHeartbeats 4000000 in
theorem wk_Play_addPlan {l : Launch} {Z : WD} (hI : wI Z) (hZ : IsC Z) (k : Nat) (M : Mem) (x1 : Int32) (x2 : Int32) (x3 : Int32) (hk : isPlay k) {M' : Mem} {p : Program} {e : Env} {R : Room} {s : State} {m : MethodId} {args : Array Value} {below : List Frame} {meth : Method} {c : Code} {H : Heap} {locs : List Loc} {ls : Array Slot} {Q : State → Prop} (S : CallFix p m c b_Play_addPlan 4 s args gtb R_Play) (hX : wX Z s) (hR : 0 ≤ R.frames ∧ 0 ≤ R.locals) (hQ : ∀ (pc : Nat) (H : Heap) (locs : List Loc) (ls : Array Slot), HW Z M' s H locs → decode b_Play_addPlan pc = .ok (.return_, 1) → W p l e R s m args below meth c H locs 0 0 Q (F0 m pc ls [])) (hf0 : f_Play_addPlan k M x1 x2 x3 = some M') (hH : HW Z M s H locs) (hl : lv_has ls 4 [(0, .ref (Z.2.2.1 k)), (1, .int x1), (2, .int x2), (3, .int x3)]) : W p l e R s m args below meth c H locs 0 0 Q (F0 m 0 ls []) := by
  have hx := S.1
  have hb := S.2.1
  have hown := S.2.2.2.1
  have ht := S.2.2.2.2
  unfold f_Play_addPlan at hf0
  refine lv_aload_n hx hb d_Play_addPlan_0 rfl (lv_at hl 0 rfl) ?_
  refine g_Play_43 S hX hH hZ hk d_Play_addPlan_1 ?_
  refine lv_bipush (v := (16 : Int32)) hx hb d_Play_addPlan_4 (by decide) ?_
  refine lv_icmp_ge (tgt := 49) hx hb d_Play_addPlan_6 (by decide) (fun hc => ?_) (fun hc => ?_)
  · replace hf0 := o_t hc hf0
    obtain rfl := o_v hf0
    exact hQ _ _ _ _ hH d_Play_addPlan_49
  · replace hf0 := o_f hc hf0
    refine lv_aload_n hx hb d_Play_addPlan_9 rfl (lv_at hl 0 rfl) ?_
    refine g_Play_15 S hX hH hZ hk d_Play_addPlan_10 ?_
    refine lv_aload_n hx hb d_Play_addPlan_13 rfl (lv_at hl 0 rfl) ?_
    refine g_Play_43 S hX hH hZ hk d_Play_addPlan_14 ?_
    refine lv_iload_n hx hb d_Play_addPlan_17 rfl (lv_at hl 1 rfl) ?_
    obtain ⟨hn1, hf0⟩ := o_in hf0
    obtain ⟨M2, hM2, hf0⟩ := o_l hf0
    refine q_iast (j := (M k 2).toNatClampNeg) hx hb hX hI hH (aa_Play_2 hZ hk) hn1 rfl d_Play_addPlan_18 (fun H locs hH => ?_)
    rw [hM2] at hH
    refine lv_aload_n hx hb d_Play_addPlan_19 rfl (lv_at hl 0 rfl) ?_
    refine g_Play_18 S hX hH hZ hk d_Play_addPlan_20 ?_
    refine lv_aload_n hx hb d_Play_addPlan_23 rfl (lv_at hl 0 rfl) ?_
    refine g_Play_43 S hX hH hZ hk d_Play_addPlan_24 ?_
    refine lv_iload_n hx hb d_Play_addPlan_27 rfl (lv_at hl 2 rfl) ?_
    obtain ⟨hn3, hf0⟩ := o_in hf0
    obtain ⟨M4, hM4, hf0⟩ := o_l hf0
    refine q_iast (j := (M2 k 2).toNatClampNeg) hx hb hX hI hH (aa_Play_3 hZ hk) hn3 rfl d_Play_addPlan_28 (fun H locs hH => ?_)
    rw [hM4] at hH
    refine lv_aload_n hx hb d_Play_addPlan_29 rfl (lv_at hl 0 rfl) ?_
    refine g_Play_21 S hX hH hZ hk d_Play_addPlan_30 ?_
    refine lv_aload_n hx hb d_Play_addPlan_33 rfl (lv_at hl 0 rfl) ?_
    refine g_Play_43 S hX hH hZ hk d_Play_addPlan_34 ?_
    refine lv_iload_n hx hb d_Play_addPlan_37 rfl (lv_at hl 3 rfl) ?_
    obtain ⟨hn5, hf0⟩ := o_in hf0
    obtain ⟨M6, hM6, hf0⟩ := o_l hf0
    refine q_iast (j := (M4 k 2).toNatClampNeg) hx hb hX hI hH (aa_Play_4 hZ hk) hn5 rfl d_Play_addPlan_38 (fun H locs hH => ?_)
    rw [hM6] at hH
    refine lv_aload_n hx hb d_Play_addPlan_39 rfl (lv_at hl 0 rfl) ?_
    refine lv_dup hx hb d_Play_addPlan_40 rfl ?_
    refine g_Play_43 S hX hH hZ hk d_Play_addPlan_41 ?_
    refine lv_iconst (v := (1 : Int32)) hx hb d_Play_addPlan_44 (by decide) ?_
    refine lv_iadd hx hb d_Play_addPlan_45 ?_
    obtain ⟨M7, hM7, hf0⟩ := o_l hf0
    refine s_Play_43 S hX hI hH hZ hk d_Play_addPlan_46 (fun H locs hH => ?_)
    rw [hM7] at hH
    obtain rfl := o_v hf0
    exact hQ _ _ _ _ hH d_Play_addPlan_49
theorem c_Play_addPlan (l : Launch) {Z : WD} (hI : wI Z) (hZ : IsC Z) (k : Nat) (M : Mem) (x1 : Int32) (x2 : Int32) (x3 : Int32) (hk : isPlay k) {M' : Mem} (hf : f_Play_addPlan k M x1 x2 x3 = some M') : Cv l Z y_Play_addPlan b_Play_addPlan 4 none 0 0 [.ref (Z.2.2.1 k), .int x1, .int x2, .int x3] M M' := by
  refine Met.ofW (cc := b_Play_addPlan) (maxL := 4) (ret := none) (by decide) rfl ?_
  intro p e s m args below meth c s₁ B hml hv
  obtain ⟨rfl, hP, hX⟩ := hv
  have S : CallFix p m c b_Play_addPlan 4 s ([.ref (Z.2.2.1 k), .int x1, .int x2, .int x3] : List Value).toArray gtb R_Play := ⟨B.exec, B.bytes, hml, findClass_of_methodNamed B.named, fun w hw => atoms_spec (ws := .code y_Play_addPlan b_Play_addPlan 4 none :: gtb) B.pre w (List.mem_cons_of_mem _ hw)⟩
  have hl := lv_entry ([.ref (Z.2.2.1 k), .int x1, .int x2, .int x3]) (n := 4) (Nat.le_of_ble_eq_true rfl)
  rw [lg_entry_eq]
  exact wk_Play_addPlan hI hZ k M x1 x2 x3 hk S hX ⟨Nat.le_refl _, Nat.le_refl _⟩ (fun pc H locs ls hH d => q_rv S.1 S.2.1 B.returns B.notSynchronized hH rfl d) hf ⟨hP, va_S.rf⟩ hl
noncomputable def f_Play_isAmong_L2 (a0 n0 : Nat) (M : Mem) (x1 : Int32) (x2 : Int32) (x3 : Int32) : Option (Int32 ⊕ Bool) := if x1 ≤ x3 then some (.inr false) else 
    if (nI n0) ≤ x3 then some (.inr false) else 
    gIn x3 n0 (if (M a0 x3.toNatClampNeg) = x2 then some (.inr true) else some (.inl (x3 + (1 : Int32))))
noncomputable def f_Play_isAmong_W2 (a0 n0 : Nat) (M : Mem) (x1 : Int32) (x2 : Int32) (u : Int32) : Option Bool := loop (fun t => f_Play_isAmong_L2 a0 n0 M x1 x2 t) u
noncomputable def f_Play_isAmong_J2 (a0 n0 : Nat) (M : Mem) (x1 : Int32) (x2 : Int32) (x3 : Int32) : Option (Bool) := bnd (f_Play_isAmong_W2 a0 n0 M x1 x2 x3) (fun e2 => some e2)
noncomputable def f_Play_isAmong (a0 n0 : Nat) (M : Mem) (x1 : Int32) (x2 : Int32) : Option Bool := f_Play_isAmong_J2 a0 n0 M x1 x2 (0 : Int32)
set_option maxHeartbeats 4000000 in
theorem wk_Play_isAmong {l : Launch} {Z : WD} (hI : wI Z) (a0 n0 : Nat) (M : Mem) (x1 : Int32) (x2 : Int32) (ha0 : AA .int Z a0 n0) {r : Bool} {p : Program} {e : Env} {R : Room} {s : State} {m : MethodId} {args : Array Value} {below : List Frame} {meth : Method} {c : Code} {H : Heap} {locs : List Loc} {ls : Array Slot} {Q : State → Prop} (S : CallFix p m c b_Play_isAmong 4 s args gtb R_Play) (hX : wX Z s) (hR : 0 ≤ R.frames ∧ 0 ≤ R.locals) (hQ : ∀ (pc : Nat) (H : Heap) (locs : List Loc) (ls : Array Slot), HW Z M s H locs → decode b_Play_isAmong pc = .ok (.ireturn, 1) → W p l e R s m args below meth c H locs 0 0 Q (F0 m pc ls [.int (bI r)])) (hf0 : f_Play_isAmong a0 n0 M x1 x2 = some r) (hH : HW Z M s H locs) (hl : lv_has ls 4 [(0, .ref (Z.2.2.1 a0)), (1, .int x1), (2, .int x2)]) : W p l e R s m args below meth c H locs 0 0 Q (F0 m 0 ls []) := by
  have hx := S.1
  have hb := S.2.1
  have hown := S.2.2.2.1
  have ht := S.2.2.2.2
  unfold f_Play_isAmong at hf0
  have J2 : ∀ (x1 : Int32) (x2 : Int32) (x3 : Int32) (H : Heap) (locs : List Loc) (ls : Array Slot), f_Play_isAmong_J2 a0 n0 M x1 x2 x3 = some r → HW Z M s H locs → lv_has ls 4 [(0, .ref (Z.2.2.1 a0)), (1, .int x1), (2, .int x2), (3, .int x3)] → W p l e R s m args below meth c H locs 0 0 Q (F0 m 2 ls []) := by
    intro x1 x2 x3 H locs ls hf0 hH hl
    unfold f_Play_isAmong_J2 at hf0
    obtain ⟨e2, he2, hf0⟩ := o_b hf0
    unfold f_Play_isAmong_W2 at he2
    refine loop_W (fun t => ∀ (H : Heap) (locs : List Loc) (ls : Array Slot), HW Z M s H locs → lv_has ls 4 [(0, .ref (Z.2.2.1 a0)), (1, .int x1), (2, .int x2), (3, .int t)] → W p l e R s m args below meth c H locs 0 0 Q (F0 m 2 ls [])) ?_ he2 H locs ls hH hl
    rintro x3 o1 hf1 hG1 hR1 H locs ls hH hl
    replace hH : HW Z M s H locs := hH
    replace hl : lv_has ls 4 [(0, .ref (Z.2.2.1 a0)), (1, .int x1), (2, .int x2), (3, .int x3)] := hl
    replace hf1 : f_Play_isAmong_L2 a0 n0 M x1 x2 x3 = some o1 := hf1
    unfold f_Play_isAmong_L2 at hf1
    refine lv_iload_n hx hb d_Play_isAmong_2 rfl (lv_at hl 3 rfl) ?_
    refine lv_iload_n hx hb d_Play_isAmong_3 rfl (lv_at hl 1 rfl) ?_
    refine lv_icmp_ge (tgt := 28) hx hb d_Play_isAmong_4 (by decide) (fun hc => ?_) (fun hc => ?_)
    · replace hf1 := o_t hc hf1
      refine lv_iconst (v := (0 : Int32)) hx hb d_Play_isAmong_28 (by decide) ?_
      obtain rfl := hR1 _ (o_v hf1).symm
      obtain rfl := o_v hf0
      exact hQ _ _ _ _ hH d_Play_isAmong_29
    · replace hf1 := o_f hc hf1
      refine lv_iload_n hx hb d_Play_isAmong_7 rfl (lv_at hl 3 rfl) ?_
      refine lv_aload_n hx hb d_Play_isAmong_8 rfl (lv_at hl 0 rfl) ?_
      refine q_alen hx hb hX hH ha0 d_Play_isAmong_9 ?_
      refine lv_icmp_ge (tgt := 28) hx hb d_Play_isAmong_10 (by decide) (fun hc => ?_) (fun hc => ?_)
      · replace hf1 := o_t hc hf1
        refine lv_iconst (v := (0 : Int32)) hx hb d_Play_isAmong_28 (by decide) ?_
        obtain rfl := hR1 _ (o_v hf1).symm
        obtain rfl := o_v hf0
        exact hQ _ _ _ _ hH d_Play_isAmong_29
      · replace hf1 := o_f hc hf1
        refine lv_aload_n hx hb d_Play_isAmong_13 rfl (lv_at hl 0 rfl) ?_
        refine lv_iload_n hx hb d_Play_isAmong_14 rfl (lv_at hl 3 rfl) ?_
        obtain ⟨hn1, hf1⟩ := o_in hf1
        refine q_iald (j := x3.toNatClampNeg) hx hb hX hH ha0 hn1 rfl d_Play_isAmong_15 ?_
        refine lv_iload_n hx hb d_Play_isAmong_16 rfl (lv_at hl 2 rfl) ?_
        refine lv_icmp_ne (tgt := 22) hx hb d_Play_isAmong_17 (by decide) (fun hc => ?_) (fun hc => ?_)
        · replace hf1 := o_f hc hf1
          refine lv_iinc (v := x3 + (1 : Int32)) (lv' := [(3, .int (x3 + (1 : Int32))), (0, .ref (Z.2.2.1 a0)), (1, .int x1), (2, .int x2)]) hx hb d_Play_isAmong_22 hl (k := 3) rfl rfl (by decide) rfl (fun ls hl => ?_)
          refine lv_goto (tgt := 2) hx hb d_Play_isAmong_25 (by decide) ?_
          exact hG1 _ (o_v hf1).symm _ _ _ hH (lv_sub hl [1, 2, 3, 0] rfl)
        · replace hf1 := o_t hc hf1
          refine lv_iconst (v := (1 : Int32)) hx hb d_Play_isAmong_20 (by decide) ?_
          obtain rfl := hR1 _ (o_v hf1).symm
          obtain rfl := o_v hf0
          exact hQ _ _ _ _ hH d_Play_isAmong_21
  refine lv_iconst (v := (0 : Int32)) hx hb d_Play_isAmong_0 (by decide) ?_
  refine lv_istore_n (lv' := [(3, .int (0 : Int32)), (0, .ref (Z.2.2.1 a0)), (1, .int x1), (2, .int x2)]) hx hb d_Play_isAmong_1 rfl hl (by decide) rfl (fun ls hl => ?_)
  exact J2 _ _ _ _ _ _ hf0 hH (lv_sub hl [1, 2, 3, 0] rfl)
theorem c_Play_isAmong (l : Launch) {Z : WD} (hI : wI Z) (a0 n0 : Nat) (M : Mem) (x1 : Int32) (x2 : Int32) (ha0 : AA .int Z a0 n0) {r : Bool} (hf : f_Play_isAmong a0 n0 M x1 x2 = some r) : Ci l Z y_Play_isAmong b_Play_isAmong 4 (some .boolean) 0 0 [.ref (Z.2.2.1 a0), .int x1, .int x2] M M (bI r) := by
  refine Met.ofW (cc := b_Play_isAmong) (maxL := 4) (ret := (some .boolean)) (by decide) rfl ?_
  intro p e s m args below meth c s₁ B hml hv
  obtain ⟨rfl, hP, hX⟩ := hv
  have S : CallFix p m c b_Play_isAmong 4 s ([.ref (Z.2.2.1 a0), .int x1, .int x2] : List Value).toArray gtb R_Play := ⟨B.exec, B.bytes, hml, findClass_of_methodNamed B.named, fun w hw => atoms_spec (ws := .code y_Play_isAmong b_Play_isAmong 4 (some .boolean) :: gtb) B.pre w (List.mem_cons_of_mem _ hw)⟩
  have hl := lv_entry ([.ref (Z.2.2.1 a0), .int x1, .int x2]) (n := 4) (Nat.le_of_ble_eq_true rfl)
  rw [lg_entry_eq]
  exact wk_Play_isAmong hI a0 n0 M x1 x2 ha0 S hX ⟨Nat.le_refl _, Nat.le_refl _⟩ (fun pc H locs ls hH d => q_rz S.1 S.2.1 B.returns B.notSynchronized hH rfl rfl d) hf ⟨hP, va_S.rf⟩ hl
theorem cw_Play_74 {R : Room} {s : State} {args : Array Value} (ht : ∀ w ∈ gtb, w.before args s = true) (h1 : 0 + 1 ≤ R.frames) (h2 : 8 + (4 + 11) + 0 ≤ R.locals) : CallB R s args R_Play 74 y_Play_isAmong b_Play_isAmong 4 (some .boolean) (.code y_Play_isAmong b_Play_isAmong 4 (some .boolean) :: gtb) { frames := 0, cells := 0, slots := 0, locals := 0 } 0 0 3 ∧ (Cond.static y_Play_isAmong).before args s = true := va_cwS 3 ht (gS w3_12 w3_13 w1_2 w3_14) rfl rfl rfl ⟨by decide, by decide, by decide +kernel⟩ ⟨h1, h2⟩
noncomputable def f_Play_isOmitted (k : Nat) (M : Mem) (x1 : Int32) : Option Bool := bnd (f_Play_isAmong (k + 5) 12 M (M k 3) x1) (fun y2 => some y2)
set_option maxHeartbeats 4000000 in
theorem wk_Play_isOmitted {l : Launch} {Z : WD} (hI : wI Z) (hZ : IsC Z) (k : Nat) (M : Mem) (x1 : Int32) (hk : isPlay k) {r : Bool} {p : Program} {e : Env} {R : Room} {s : State} {m : MethodId} {args : Array Value} {below : List Frame} {meth : Method} {c : Code} {H : Heap} {locs : List Loc} {ls : Array Slot} {Q : State → Prop} (S : CallFix p m c b_Play_isOmitted 2 s args gtb R_Play) (hX : wX Z s) (hR : 1 ≤ R.frames ∧ 23 ≤ R.locals) (hQ : ∀ (pc : Nat) (H : Heap) (locs : List Loc) (ls : Array Slot), HW Z M s H locs → decode b_Play_isOmitted pc = .ok (.ireturn, 1) → W p l e R s m args below meth c H locs 0 0 Q (F0 m pc ls [.int (bI r)])) (hf0 : f_Play_isOmitted k M x1 = some r) (hH : HW Z M s H locs) (hl : lv_has ls 2 [(0, .ref (Z.2.2.1 k)), (1, .int x1)]) : W p l e R s m args below meth c H locs 0 0 Q (F0 m 0 ls []) := by
  have hx := S.1
  have hb := S.2.1
  have hown := S.2.2.2.1
  have ht := S.2.2.2.2
  unfold f_Play_isOmitted at hf0
  refine lv_aload_n hx hb d_Play_isOmitted_0 rfl (lv_at hl 0 rfl) ?_
  refine g_Play_24 S hX hH hZ hk d_Play_isOmitted_1 ?_
  refine lv_aload_n hx hb d_Play_isOmitted_4 rfl (lv_at hl 0 rfl) ?_
  refine g_Play_46 S hX hH hZ hk d_Play_isOmitted_5 ?_
  refine lv_iload_n hx hb d_Play_isOmitted_8 rfl (lv_at hl 1 rfl) ?_
  obtain ⟨y2, hc1, hf0⟩ := o_b hf0
  refine q_cSi (As := [.ref (Z.2.2.1 (k + 5)), .int (M k 3), .int x1]) (rest := []) S hX hH (c_Play_isAmong l hI (k + 5) 12 M (M k 3) x1 (aa_Play_5 hZ hk) hc1) (cw_Play_74 S.2.2.2.2 (Nat.le_trans (Nat.le_of_ble_eq_true rfl) hR.1) (Nat.le_trans (Nat.le_of_ble_eq_true rfl) hR.2)) rfl hl.1 rfl (Nat.le_of_ble_eq_true rfl) d_Play_isOmitted_9 ⟨Nat.zero_le _, Nat.zero_le _⟩ (fun H locs hH => ?_)
  obtain rfl := o_v hf0
  exact hQ _ _ _ _ hH d_Play_isOmitted_12
theorem c_Play_isOmitted (l : Launch) {Z : WD} (hI : wI Z) (hZ : IsC Z) (k : Nat) (M : Mem) (x1 : Int32) (hk : isPlay k) {r : Bool} (hf : f_Play_isOmitted k M x1 = some r) : Ci l Z y_Play_isOmitted b_Play_isOmitted 2 (some .boolean) 1 23 [.ref (Z.2.2.1 k), .int x1] M M (bI r) := by
  refine Met.ofW (cc := b_Play_isOmitted) (maxL := 2) (ret := (some .boolean)) (by decide) rfl ?_
  intro p e s m args below meth c s₁ B hml hv
  obtain ⟨rfl, hP, hX⟩ := hv
  have S : CallFix p m c b_Play_isOmitted 2 s ([.ref (Z.2.2.1 k), .int x1] : List Value).toArray gtb R_Play := ⟨B.exec, B.bytes, hml, findClass_of_methodNamed B.named, fun w hw => atoms_spec (ws := .code y_Play_isOmitted b_Play_isOmitted 2 (some .boolean) :: gtb) B.pre w (List.mem_cons_of_mem _ hw)⟩
  have hl := lv_entry ([.ref (Z.2.2.1 k), .int x1]) (n := 2) (Nat.le_of_ble_eq_true rfl)
  rw [lg_entry_eq]
  exact wk_Play_isOmitted hI hZ k M x1 hk S hX ⟨Nat.le_refl _, Nat.le_refl _⟩ (fun pc H locs ls hH d => q_rz S.1 S.2.1 B.returns B.notSynchronized hH rfl rfl d) hf ⟨hP, va_S.rf⟩ hl
noncomputable def f_Play_addOmit (k : Nat) (M : Mem) (x1 : Int32) : Option Mem := 
    if (12 : Int32) ≤ (M k 3) then some M else 
    gIn (M k 3) 12 (lt1 (upM M (k + 5) ((M k 3).toNatClampNeg) x1) (fun M2 => lt1 (upM M2 k 3 ((M2 k 3) + (1 : Int32))) (fun M3 => some M3)))
set_option maxHeartbeats 4000000 in
theorem wk_Play_addOmit {l : Launch} {Z : WD} (hI : wI Z) (hZ : IsC Z) (k : Nat) (M : Mem) (x1 : Int32) (hk : isPlay k) {M' : Mem} {p : Program} {e : Env} {R : Room} {s : State} {m : MethodId} {args : Array Value} {below : List Frame} {meth : Method} {c : Code} {H : Heap} {locs : List Loc} {ls : Array Slot} {Q : State → Prop} (S : CallFix p m c b_Play_addOmit 2 s args gtb R_Play) (hX : wX Z s) (hR : 0 ≤ R.frames ∧ 0 ≤ R.locals) (hQ : ∀ (pc : Nat) (H : Heap) (locs : List Loc) (ls : Array Slot), HW Z M' s H locs → decode b_Play_addOmit pc = .ok (.return_, 1) → W p l e R s m args below meth c H locs 0 0 Q (F0 m pc ls [])) (hf0 : f_Play_addOmit k M x1 = some M') (hH : HW Z M s H locs) (hl : lv_has ls 2 [(0, .ref (Z.2.2.1 k)), (1, .int x1)]) : W p l e R s m args below meth c H locs 0 0 Q (F0 m 0 ls []) := by
  have hx := S.1
  have hb := S.2.1
  have hown := S.2.2.2.1
  have ht := S.2.2.2.2
  unfold f_Play_addOmit at hf0
  refine lv_aload_n hx hb d_Play_addOmit_0 rfl (lv_at hl 0 rfl) ?_
  refine g_Play_46 S hX hH hZ hk d_Play_addOmit_1 ?_
  refine lv_bipush (v := (12 : Int32)) hx hb d_Play_addOmit_4 (by decide) ?_
  refine lv_icmp_ge (tgt := 29) hx hb d_Play_addOmit_6 (by decide) (fun hc => ?_) (fun hc => ?_)
  · replace hf0 := o_t hc hf0
    obtain rfl := o_v hf0
    exact hQ _ _ _ _ hH d_Play_addOmit_29
  · replace hf0 := o_f hc hf0
    refine lv_aload_n hx hb d_Play_addOmit_9 rfl (lv_at hl 0 rfl) ?_
    refine g_Play_24 S hX hH hZ hk d_Play_addOmit_10 ?_
    refine lv_aload_n hx hb d_Play_addOmit_13 rfl (lv_at hl 0 rfl) ?_
    refine g_Play_46 S hX hH hZ hk d_Play_addOmit_14 ?_
    refine lv_iload_n hx hb d_Play_addOmit_17 rfl (lv_at hl 1 rfl) ?_
    obtain ⟨hn1, hf0⟩ := o_in hf0
    obtain ⟨M2, hM2, hf0⟩ := o_l hf0
    refine q_iast (j := (M k 3).toNatClampNeg) hx hb hX hI hH (aa_Play_5 hZ hk) hn1 rfl d_Play_addOmit_18 (fun H locs hH => ?_)
    rw [hM2] at hH
    refine lv_aload_n hx hb d_Play_addOmit_19 rfl (lv_at hl 0 rfl) ?_
    refine lv_dup hx hb d_Play_addOmit_20 rfl ?_
    refine g_Play_46 S hX hH hZ hk d_Play_addOmit_21 ?_
    refine lv_iconst (v := (1 : Int32)) hx hb d_Play_addOmit_24 (by decide) ?_
    refine lv_iadd hx hb d_Play_addOmit_25 ?_
    obtain ⟨M3, hM3, hf0⟩ := o_l hf0
    refine s_Play_46 S hX hI hH hZ hk d_Play_addOmit_26 (fun H locs hH => ?_)
    rw [hM3] at hH
    obtain rfl := o_v hf0
    exact hQ _ _ _ _ hH d_Play_addOmit_29
theorem c_Play_addOmit (l : Launch) {Z : WD} (hI : wI Z) (hZ : IsC Z) (k : Nat) (M : Mem) (x1 : Int32) (hk : isPlay k) {M' : Mem} (hf : f_Play_addOmit k M x1 = some M') : Cv l Z y_Play_addOmit b_Play_addOmit 2 none 0 0 [.ref (Z.2.2.1 k), .int x1] M M' := by
  refine Met.ofW (cc := b_Play_addOmit) (maxL := 2) (ret := none) (by decide) rfl ?_
  intro p e s m args below meth c s₁ B hml hv
  obtain ⟨rfl, hP, hX⟩ := hv
  have S : CallFix p m c b_Play_addOmit 2 s ([.ref (Z.2.2.1 k), .int x1] : List Value).toArray gtb R_Play := ⟨B.exec, B.bytes, hml, findClass_of_methodNamed B.named, fun w hw => atoms_spec (ws := .code y_Play_addOmit b_Play_addOmit 2 none :: gtb) B.pre w (List.mem_cons_of_mem _ hw)⟩
  have hl := lv_entry ([.ref (Z.2.2.1 k), .int x1]) (n := 2) (Nat.le_of_ble_eq_true rfl)
  rw [lg_entry_eq]
  exact wk_Play_addOmit hI hZ k M x1 hk S hX ⟨Nat.le_refl _, Nat.le_refl _⟩ (fun pc H locs ls hH d => q_rv S.1 S.2.1 B.returns B.notSynchronized hH rfl d) hf ⟨hP, va_S.rf⟩ hl
noncomputable def f_Play_isLate (k : Nat) (M : Mem) (x1 : Int32) : Option Bool := bnd (f_Play_isAmong (k + 6) 12 M (M k 4) x1) (fun y2 => some y2)
set_option maxHeartbeats 4000000 in
theorem wk_Play_isLate {l : Launch} {Z : WD} (hI : wI Z) (hZ : IsC Z) (k : Nat) (M : Mem) (x1 : Int32) (hk : isPlay k) {r : Bool} {p : Program} {e : Env} {R : Room} {s : State} {m : MethodId} {args : Array Value} {below : List Frame} {meth : Method} {c : Code} {H : Heap} {locs : List Loc} {ls : Array Slot} {Q : State → Prop} (S : CallFix p m c b_Play_isLate 2 s args gtb R_Play) (hX : wX Z s) (hR : 1 ≤ R.frames ∧ 23 ≤ R.locals) (hQ : ∀ (pc : Nat) (H : Heap) (locs : List Loc) (ls : Array Slot), HW Z M s H locs → decode b_Play_isLate pc = .ok (.ireturn, 1) → W p l e R s m args below meth c H locs 0 0 Q (F0 m pc ls [.int (bI r)])) (hf0 : f_Play_isLate k M x1 = some r) (hH : HW Z M s H locs) (hl : lv_has ls 2 [(0, .ref (Z.2.2.1 k)), (1, .int x1)]) : W p l e R s m args below meth c H locs 0 0 Q (F0 m 0 ls []) := by
  have hx := S.1
  have hb := S.2.1
  have hown := S.2.2.2.1
  have ht := S.2.2.2.2
  unfold f_Play_isLate at hf0
  refine lv_aload_n hx hb d_Play_isLate_0 rfl (lv_at hl 0 rfl) ?_
  refine g_Play_27 S hX hH hZ hk d_Play_isLate_1 ?_
  refine lv_aload_n hx hb d_Play_isLate_4 rfl (lv_at hl 0 rfl) ?_
  refine g_Play_49 S hX hH hZ hk d_Play_isLate_5 ?_
  refine lv_iload_n hx hb d_Play_isLate_8 rfl (lv_at hl 1 rfl) ?_
  obtain ⟨y2, hc1, hf0⟩ := o_b hf0
  refine q_cSi (As := [.ref (Z.2.2.1 (k + 6)), .int (M k 4), .int x1]) (rest := []) S hX hH (c_Play_isAmong l hI (k + 6) 12 M (M k 4) x1 (aa_Play_6 hZ hk) hc1) (cw_Play_74 S.2.2.2.2 (Nat.le_trans (Nat.le_of_ble_eq_true rfl) hR.1) (Nat.le_trans (Nat.le_of_ble_eq_true rfl) hR.2)) rfl hl.1 rfl (Nat.le_of_ble_eq_true rfl) d_Play_isLate_9 ⟨Nat.zero_le _, Nat.zero_le _⟩ (fun H locs hH => ?_)
  obtain rfl := o_v hf0
  exact hQ _ _ _ _ hH d_Play_isLate_12
theorem c_Play_isLate (l : Launch) {Z : WD} (hI : wI Z) (hZ : IsC Z) (k : Nat) (M : Mem) (x1 : Int32) (hk : isPlay k) {r : Bool} (hf : f_Play_isLate k M x1 = some r) : Ci l Z y_Play_isLate b_Play_isLate 2 (some .boolean) 1 23 [.ref (Z.2.2.1 k), .int x1] M M (bI r) := by
  refine Met.ofW (cc := b_Play_isLate) (maxL := 2) (ret := (some .boolean)) (by decide) rfl ?_
  intro p e s m args below meth c s₁ B hml hv
  obtain ⟨rfl, hP, hX⟩ := hv
  have S : CallFix p m c b_Play_isLate 2 s ([.ref (Z.2.2.1 k), .int x1] : List Value).toArray gtb R_Play := ⟨B.exec, B.bytes, hml, findClass_of_methodNamed B.named, fun w hw => atoms_spec (ws := .code y_Play_isLate b_Play_isLate 2 (some .boolean) :: gtb) B.pre w (List.mem_cons_of_mem _ hw)⟩
  have hl := lv_entry ([.ref (Z.2.2.1 k), .int x1]) (n := 2) (Nat.le_of_ble_eq_true rfl)
  rw [lg_entry_eq]
  exact wk_Play_isLate hI hZ k M x1 hk S hX ⟨Nat.le_refl _, Nat.le_refl _⟩ (fun pc H locs ls hH d => q_rz S.1 S.2.1 B.returns B.notSynchronized hH rfl rfl d) hf ⟨hP, va_S.rf⟩ hl
noncomputable def f_Play_addLate (k : Nat) (M : Mem) (x1 : Int32) (x2 : Int32) : Option Mem := 
    if (12 : Int32) ≤ (M k 4) then some M else 
    gIn (M k 4) 12 (lt1 (upM M (k + 6) ((M k 4).toNatClampNeg) x1) (fun M2 => 
    gIn (M2 k 4) 12 (lt1 (upM M2 (k + 7) ((M2 k 4).toNatClampNeg) x2) (fun M4 => lt1 (upM M4 k 4 ((M4 k 4) + (1 : Int32))) (fun M5 => some M5)))))
set_option maxHeartbeats 4000000 in
theorem wk_Play_addLate {l : Launch} {Z : WD} (hI : wI Z) (hZ : IsC Z) (k : Nat) (M : Mem) (x1 : Int32) (x2 : Int32) (hk : isPlay k) {M' : Mem} {p : Program} {e : Env} {R : Room} {s : State} {m : MethodId} {args : Array Value} {below : List Frame} {meth : Method} {c : Code} {H : Heap} {locs : List Loc} {ls : Array Slot} {Q : State → Prop} (S : CallFix p m c b_Play_addLate 3 s args gtb R_Play) (hX : wX Z s) (hR : 0 ≤ R.frames ∧ 0 ≤ R.locals) (hQ : ∀ (pc : Nat) (H : Heap) (locs : List Loc) (ls : Array Slot), HW Z M' s H locs → decode b_Play_addLate pc = .ok (.return_, 1) → W p l e R s m args below meth c H locs 0 0 Q (F0 m pc ls [])) (hf0 : f_Play_addLate k M x1 x2 = some M') (hH : HW Z M s H locs) (hl : lv_has ls 3 [(0, .ref (Z.2.2.1 k)), (1, .int x1), (2, .int x2)]) : W p l e R s m args below meth c H locs 0 0 Q (F0 m 0 ls []) := by
  have hx := S.1
  have hb := S.2.1
  have hown := S.2.2.2.1
  have ht := S.2.2.2.2
  unfold f_Play_addLate at hf0
  refine lv_aload_n hx hb d_Play_addLate_0 rfl (lv_at hl 0 rfl) ?_
  refine g_Play_49 S hX hH hZ hk d_Play_addLate_1 ?_
  refine lv_bipush (v := (12 : Int32)) hx hb d_Play_addLate_4 (by decide) ?_
  refine lv_icmp_ge (tgt := 39) hx hb d_Play_addLate_6 (by decide) (fun hc => ?_) (fun hc => ?_)
  · replace hf0 := o_t hc hf0
    obtain rfl := o_v hf0
    exact hQ _ _ _ _ hH d_Play_addLate_39
  · replace hf0 := o_f hc hf0
    refine lv_aload_n hx hb d_Play_addLate_9 rfl (lv_at hl 0 rfl) ?_
    refine g_Play_27 S hX hH hZ hk d_Play_addLate_10 ?_
    refine lv_aload_n hx hb d_Play_addLate_13 rfl (lv_at hl 0 rfl) ?_
    refine g_Play_49 S hX hH hZ hk d_Play_addLate_14 ?_
    refine lv_iload_n hx hb d_Play_addLate_17 rfl (lv_at hl 1 rfl) ?_
    obtain ⟨hn1, hf0⟩ := o_in hf0
    obtain ⟨M2, hM2, hf0⟩ := o_l hf0
    refine q_iast (j := (M k 4).toNatClampNeg) hx hb hX hI hH (aa_Play_6 hZ hk) hn1 rfl d_Play_addLate_18 (fun H locs hH => ?_)
    rw [hM2] at hH
    refine lv_aload_n hx hb d_Play_addLate_19 rfl (lv_at hl 0 rfl) ?_
    refine g_Play_30 S hX hH hZ hk d_Play_addLate_20 ?_
    refine lv_aload_n hx hb d_Play_addLate_23 rfl (lv_at hl 0 rfl) ?_
    refine g_Play_49 S hX hH hZ hk d_Play_addLate_24 ?_
    refine lv_iload_n hx hb d_Play_addLate_27 rfl (lv_at hl 2 rfl) ?_
    obtain ⟨hn3, hf0⟩ := o_in hf0
    obtain ⟨M4, hM4, hf0⟩ := o_l hf0
    refine q_iast (j := (M2 k 4).toNatClampNeg) hx hb hX hI hH (aa_Play_7 hZ hk) hn3 rfl d_Play_addLate_28 (fun H locs hH => ?_)
    rw [hM4] at hH
    refine lv_aload_n hx hb d_Play_addLate_29 rfl (lv_at hl 0 rfl) ?_
    refine lv_dup hx hb d_Play_addLate_30 rfl ?_
    refine g_Play_49 S hX hH hZ hk d_Play_addLate_31 ?_
    refine lv_iconst (v := (1 : Int32)) hx hb d_Play_addLate_34 (by decide) ?_
    refine lv_iadd hx hb d_Play_addLate_35 ?_
    obtain ⟨M5, hM5, hf0⟩ := o_l hf0
    refine s_Play_49 S hX hI hH hZ hk d_Play_addLate_36 (fun H locs hH => ?_)
    rw [hM5] at hH
    obtain rfl := o_v hf0
    exact hQ _ _ _ _ hH d_Play_addLate_39
theorem c_Play_addLate (l : Launch) {Z : WD} (hI : wI Z) (hZ : IsC Z) (k : Nat) (M : Mem) (x1 : Int32) (x2 : Int32) (hk : isPlay k) {M' : Mem} (hf : f_Play_addLate k M x1 x2 = some M') : Cv l Z y_Play_addLate b_Play_addLate 3 none 0 0 [.ref (Z.2.2.1 k), .int x1, .int x2] M M' := by
  refine Met.ofW (cc := b_Play_addLate) (maxL := 3) (ret := none) (by decide) rfl ?_
  intro p e s m args below meth c s₁ B hml hv
  obtain ⟨rfl, hP, hX⟩ := hv
  have S : CallFix p m c b_Play_addLate 3 s ([.ref (Z.2.2.1 k), .int x1, .int x2] : List Value).toArray gtb R_Play := ⟨B.exec, B.bytes, hml, findClass_of_methodNamed B.named, fun w hw => atoms_spec (ws := .code y_Play_addLate b_Play_addLate 3 none :: gtb) B.pre w (List.mem_cons_of_mem _ hw)⟩
  have hl := lv_entry ([.ref (Z.2.2.1 k), .int x1, .int x2]) (n := 3) (Nat.le_of_ble_eq_true rfl)
  rw [lg_entry_eq]
  exact wk_Play_addLate hI hZ k M x1 x2 hk S hX ⟨Nat.le_refl _, Nat.le_refl _⟩ (fun pc H locs ls hH d => q_rv S.1 S.2.1 B.returns B.notSynchronized hH rfl d) hf ⟨hP, va_S.rf⟩ hl
noncomputable def f_Play_leastSetting_J10 (k : Nat) : Int32 := (1 : Int32)
noncomputable def f_Play_leastSetting (k : Nat) (x1 : Int32) : Int32 := 
    if x1 = (2 : Int32) then f_Play_leastSetting_J10 k else if x1 = (4 : Int32) then f_Play_leastSetting_J10 k else (0 : Int32)
set_option maxHeartbeats 4000000 in
theorem wk_Play_leastSetting {l : Launch} {Z : WD} (hI : wI Z) (hZ : IsC Z) (k : Nat) (M : Mem) (x1 : Int32) (hk : isPlay k) {r : Int32} {p : Program} {e : Env} {R : Room} {s : State} {m : MethodId} {args : Array Value} {below : List Frame} {meth : Method} {c : Code} {H : Heap} {locs : List Loc} {ls : Array Slot} {Q : State → Prop} (S : CallFix p m c b_Play_leastSetting 2 s args gtb R_Play) (hX : wX Z s) (hR : 0 ≤ R.frames ∧ 0 ≤ R.locals) (hQ : ∀ (pc : Nat) (H : Heap) (locs : List Loc) (ls : Array Slot), HW Z M s H locs → decode b_Play_leastSetting pc = .ok (.ireturn, 1) → W p l e R s m args below meth c H locs 0 0 Q (F0 m pc ls [.int r])) (hf0 : f_Play_leastSetting k x1 = r) (hH : HW Z M s H locs) (hl : lv_has ls 2 [(0, .ref (Z.2.2.1 k)), (1, .int x1)]) : W p l e R s m args below meth c H locs 0 0 Q (F0 m 0 ls []) := by
  have hx := S.1
  have hb := S.2.1
  have hown := S.2.2.2.1
  have ht := S.2.2.2.2
  unfold f_Play_leastSetting at hf0
  have J10 : ∀ (H : Heap) (locs : List Loc) (ls : Array Slot), f_Play_leastSetting_J10 k = r → HW Z M s H locs → lv_has ls 2 [] → W p l e R s m args below meth c H locs 0 0 Q (F0 m 10 ls []) := by
    intro H locs ls hf0 hH hl
    unfold f_Play_leastSetting_J10 at hf0
    refine lv_iconst (v := (1 : Int32)) hx hb d_Play_leastSetting_10 (by decide) ?_
    refine lv_goto (tgt := 15) hx hb d_Play_leastSetting_11 (by decide) ?_
    subst hf0
    exact hQ _ _ _ _ hH d_Play_leastSetting_15
  refine lv_iload_n hx hb d_Play_leastSetting_0 rfl (lv_at hl 1 rfl) ?_
  refine lv_iconst (v := (2 : Int32)) hx hb d_Play_leastSetting_1 (by decide) ?_
  refine lv_icmp_eq (tgt := 10) hx hb d_Play_leastSetting_2 (by decide) (fun hc => ?_) (fun hc => ?_)
  · replace hf0 := o_t hc hf0
    exact J10 _ _ _ hf0 hH (lv_sub hl [] rfl)
  · replace hf0 := o_f hc hf0
    refine lv_iload_n hx hb d_Play_leastSetting_5 rfl (lv_at hl 1 rfl) ?_
    refine lv_iconst (v := (4 : Int32)) hx hb d_Play_leastSetting_6 (by decide) ?_
    refine lv_icmp_ne (tgt := 14) hx hb d_Play_leastSetting_7 (by decide) (fun hc => ?_) (fun hc => ?_)
    · replace hf0 := o_f hc hf0
      refine lv_iconst (v := (0 : Int32)) hx hb d_Play_leastSetting_14 (by decide) ?_
      subst hf0
      exact hQ _ _ _ _ hH d_Play_leastSetting_15
    · replace hf0 := o_t hc hf0
      exact J10 _ _ _ hf0 hH (lv_sub hl [] rfl)
theorem c_Play_leastSetting (l : Launch) {Z : WD} (hI : wI Z) (hZ : IsC Z) (k : Nat) (M : Mem) (x1 : Int32) (hk : isPlay k) {r : Int32} (hf : f_Play_leastSetting k x1 = r) : Ci l Z y_Play_leastSetting b_Play_leastSetting 2 (some .int) 0 0 [.ref (Z.2.2.1 k), .int x1] M M r := by
  refine Met.ofW (cc := b_Play_leastSetting) (maxL := 2) (ret := (some .int)) (by decide) rfl ?_
  intro p e s m args below meth c s₁ B hml hv
  obtain ⟨rfl, hP, hX⟩ := hv
  have S : CallFix p m c b_Play_leastSetting 2 s ([.ref (Z.2.2.1 k), .int x1] : List Value).toArray gtb R_Play := ⟨B.exec, B.bytes, hml, findClass_of_methodNamed B.named, fun w hw => atoms_spec (ws := .code y_Play_leastSetting b_Play_leastSetting 2 (some .int) :: gtb) B.pre w (List.mem_cons_of_mem _ hw)⟩
  have hl := lv_entry ([.ref (Z.2.2.1 k), .int x1]) (n := 2) (Nat.le_of_ble_eq_true rfl)
  rw [lg_entry_eq]
  exact wk_Play_leastSetting hI hZ k M x1 hk S hX ⟨Nat.le_refl _, Nat.le_refl _⟩ (fun pc H locs ls hH d => q_ri S.1 S.2.1 B.returns B.notSynchronized hH rfl rfl d) hf ⟨hP, va_S.rf⟩ hl
noncomputable def f_Play_mostSetting (k : Nat) (M : Mem) (x1 : Int32) : Int32 := 
    if x1 = (0 : Int32) then (M k 0) - (1 : Int32) else 
    if x1 = (1 : Int32) then (3 : Int32) else 
    if x1 = (2 : Int32) then (8 : Int32) else if x1 = (3 : Int32) then (3 : Int32) else if x1 = (4 : Int32) then (4 : Int32) else (3 : Int32)
set_option maxHeartbeats 4000000 in
theorem wk_Play_mostSetting {l : Launch} {Z : WD} (hI : wI Z) (hZ : IsC Z) (k : Nat) (M : Mem) (x1 : Int32) (hk : isPlay k) {r : Int32} {p : Program} {e : Env} {R : Room} {s : State} {m : MethodId} {args : Array Value} {below : List Frame} {meth : Method} {c : Code} {H : Heap} {locs : List Loc} {ls : Array Slot} {Q : State → Prop} (S : CallFix p m c b_Play_mostSetting 2 s args gtb R_Play) (hX : wX Z s) (hR : 0 ≤ R.frames ∧ 0 ≤ R.locals) (hQ : ∀ (pc : Nat) (H : Heap) (locs : List Loc) (ls : Array Slot), HW Z M s H locs → decode b_Play_mostSetting pc = .ok (.ireturn, 1) → W p l e R s m args below meth c H locs 0 0 Q (F0 m pc ls [.int r])) (hf0 : f_Play_mostSetting k M x1 = r) (hH : HW Z M s H locs) (hl : lv_has ls 2 [(0, .ref (Z.2.2.1 k)), (1, .int x1)]) : W p l e R s m args below meth c H locs 0 0 Q (F0 m 0 ls []) := by
  have hx := S.1
  have hb := S.2.1
  have hown := S.2.2.2.1
  have ht := S.2.2.2.2
  unfold f_Play_mostSetting at hf0
  refine lv_iload_n hx hb d_Play_mostSetting_0 rfl (lv_at hl 1 rfl) ?_
  by_cases hcv0 : x1 = (0 : Int32)
  · replace hf0 := o_t hcv0 hf0
    refine lv_tableIn (tgt := 36) hx hb d_Play_mostSetting_1 (by rw [hcv0]; decide) (by rw [hcv0]; decide) (by rw [hcv0]; rfl) (by decide) ?_
    refine lv_aload_n hx hb d_Play_mostSetting_36 rfl (lv_at hl 0 rfl) ?_
    refine g_Play_36 S hX hH hZ hk d_Play_mostSetting_37 ?_
    refine lv_iconst (v := (1 : Int32)) hx hb d_Play_mostSetting_40 (by decide) ?_
    refine lv_isub hx hb d_Play_mostSetting_41 ?_
    subst hf0
    exact hQ _ _ _ _ hH d_Play_mostSetting_42
  replace hf0 := o_f hcv0 hf0
  by_cases hcv1 : x1 = (1 : Int32)
  · replace hf0 := o_t hcv1 hf0
    refine lv_tableIn (tgt := 48) hx hb d_Play_mostSetting_1 (by rw [hcv1]; decide) (by rw [hcv1]; decide) (by rw [hcv1]; rfl) (by decide) ?_
    refine lv_iconst (v := (3 : Int32)) hx hb d_Play_mostSetting_48 (by decide) ?_
    subst hf0
    exact hQ _ _ _ _ hH d_Play_mostSetting_49
  replace hf0 := o_f hcv1 hf0
  by_cases hcv2 : x1 = (2 : Int32)
  · replace hf0 := o_t hcv2 hf0
    refine lv_tableIn (tgt := 43) hx hb d_Play_mostSetting_1 (by rw [hcv2]; decide) (by rw [hcv2]; decide) (by rw [hcv2]; rfl) (by decide) ?_
    refine lv_bipush (v := (8 : Int32)) hx hb d_Play_mostSetting_43 (by decide) ?_
    subst hf0
    exact hQ _ _ _ _ hH d_Play_mostSetting_45
  replace hf0 := o_f hcv2 hf0
  by_cases hcv3 : x1 = (3 : Int32)
  · replace hf0 := o_t hcv3 hf0
    refine lv_tableIn (tgt := 48) hx hb d_Play_mostSetting_1 (by rw [hcv3]; decide) (by rw [hcv3]; decide) (by rw [hcv3]; rfl) (by decide) ?_
    refine lv_iconst (v := (3 : Int32)) hx hb d_Play_mostSetting_48 (by decide) ?_
    subst hf0
    exact hQ _ _ _ _ hH d_Play_mostSetting_49
  replace hf0 := o_f hcv3 hf0
  by_cases hcv4 : x1 = (4 : Int32)
  · replace hf0 := o_t hcv4 hf0
    refine lv_tableIn (tgt := 46) hx hb d_Play_mostSetting_1 (by rw [hcv4]; decide) (by rw [hcv4]; decide) (by rw [hcv4]; rfl) (by decide) ?_
    refine lv_iconst (v := (4 : Int32)) hx hb d_Play_mostSetting_46 (by decide) ?_
    subst hf0
    exact hQ _ _ _ _ hH d_Play_mostSetting_47
  replace hf0 := o_f hcv4 hf0
  refine lv_tableOut (tgt := 48) hx hb d_Play_mostSetting_1 (sw_out (fun v h1 h2 => by rcases (show v = 0 ∨ v = 1 ∨ v = 2 ∨ v = 3 ∨ v = 4 by omega) with rfl | rfl | rfl | rfl | rfl <;> assumption)) (by decide) ?_
  refine lv_iconst (v := (3 : Int32)) hx hb d_Play_mostSetting_48 (by decide) ?_
  subst hf0
  exact hQ _ _ _ _ hH d_Play_mostSetting_49
theorem c_Play_mostSetting (l : Launch) {Z : WD} (hI : wI Z) (hZ : IsC Z) (k : Nat) (M : Mem) (x1 : Int32) (hk : isPlay k) {r : Int32} (hf : f_Play_mostSetting k M x1 = r) : Ci l Z y_Play_mostSetting b_Play_mostSetting 2 (some .int) 0 0 [.ref (Z.2.2.1 k), .int x1] M M r := by
  refine Met.ofW (cc := b_Play_mostSetting) (maxL := 2) (ret := (some .int)) (by decide) rfl ?_
  intro p e s m args below meth c s₁ B hml hv
  obtain ⟨rfl, hP, hX⟩ := hv
  have S : CallFix p m c b_Play_mostSetting 2 s ([.ref (Z.2.2.1 k), .int x1] : List Value).toArray gtb R_Play := ⟨B.exec, B.bytes, hml, findClass_of_methodNamed B.named, fun w hw => atoms_spec (ws := .code y_Play_mostSetting b_Play_mostSetting 2 (some .int) :: gtb) B.pre w (List.mem_cons_of_mem _ hw)⟩
  have hl := lv_entry ([.ref (Z.2.2.1 k), .int x1]) (n := 2) (Nat.le_of_ble_eq_true rfl)
  rw [lg_entry_eq]
  exact wk_Play_mostSetting hI hZ k M x1 hk S hX ⟨Nat.le_refl _, Nat.le_refl _⟩ (fun pc H locs ls hH d => q_ri S.1 S.2.1 B.returns B.notSynchronized hH rfl rfl d) hf ⟨hP, va_S.rf⟩ hl
noncomputable def f_Play_become (k : Nat) (a1 : Nat) (M : Mem) : Option Mem := 
    lt1 (upM M k 0 (M a1 0)) (fun M1 => 
    lt1 (upM M1 k 1 (M1 a1 1)) (fun M2 => 
    lt1 (upM M2 k 2 (M2 a1 2)) (fun M3 => 
    lt1 (upM M3 k 3 (M3 a1 3)) (fun M4 => 
    lt1 (upM M4 k 4 (M4 a1 4)) (fun M5 => 
    lt1 (cpM M5 (a1 + 1) (k + 1) 0 0 5) (fun M6 => 
    lt1 (cpM M6 (a1 + 2) (k + 2) 0 0 16) (fun M7 => 
    lt1 (cpM M7 (a1 + 3) (k + 3) 0 0 16) (fun M8 => 
    lt1 (cpM M8 (a1 + 4) (k + 4) 0 0 16) (fun M9 => 
    lt1 (cpM M9 (a1 + 5) (k + 5) 0 0 12) (fun M10 => 
    lt1 (cpM M10 (a1 + 6) (k + 6) 0 0 12) (fun M11 => lt1 (cpM M11 (a1 + 7) (k + 7) 0 0 12) (fun M12 => some M12))))))))))))
set_option maxHeartbeats 4000000 in
theorem wk_Play_become {l : Launch} {Z : WD} (hI : wI Z) (hZ : IsC Z) (k : Nat) (a1 : Nat) (M : Mem) (hk : isPlay k) (hk1 : isPlay a1) {M' : Mem} {p : Program} {e : Env} {R : Room} {s : State} {m : MethodId} {args : Array Value} {below : List Frame} {meth : Method} {c : Code} {H : Heap} {locs : List Loc} {ls : Array Slot} {Q : State → Prop} (S : CallFix p m c b_Play_become 2 s args gtb R_Play) (hX : wX Z s) (hR : 1 ≤ R.frames ∧ 26 ≤ R.locals) (hQ : ∀ (pc : Nat) (H : Heap) (locs : List Loc) (ls : Array Slot), HW Z M' s H locs → decode b_Play_become pc = .ok (.return_, 1) → W p l e R s m args below meth c H locs 0 0 Q (F0 m pc ls [])) (hf0 : f_Play_become k a1 M = some M') (hH : HW Z M s H locs) (hl : lv_has ls 2 [(0, .ref (Z.2.2.1 k)), (1, .ref (Z.2.2.1 a1))]) : W p l e R s m args below meth c H locs 0 0 Q (F0 m 0 ls []) := by
  have hx := S.1
  have hb := S.2.1
  have hown := S.2.2.2.1
  have ht := S.2.2.2.2
  unfold f_Play_become at hf0
  refine lv_aload_n hx hb d_Play_become_0 rfl (lv_at hl 0 rfl) ?_
  refine lv_aload_n hx hb d_Play_become_1 rfl (lv_at hl 1 rfl) ?_
  refine g_Play_36 S hX hH hZ hk1 d_Play_become_2 ?_
  obtain ⟨M1, hM1, hf0⟩ := o_l hf0
  refine s_Play_36 S hX hI hH hZ hk d_Play_become_5 (fun H locs hH => ?_)
  rw [hM1] at hH
  refine lv_aload_n hx hb d_Play_become_8 rfl (lv_at hl 0 rfl) ?_
  refine lv_aload_n hx hb d_Play_become_9 rfl (lv_at hl 1 rfl) ?_
  refine g_Play_40 S hX hH hZ hk1 d_Play_become_10 ?_
  obtain ⟨M2, hM2, hf0⟩ := o_l hf0
  refine s_Play_40 S hX hI hH hZ hk d_Play_become_13 (fun H locs hH => ?_)
  rw [hM2] at hH
  refine lv_aload_n hx hb d_Play_become_16 rfl (lv_at hl 0 rfl) ?_
  refine lv_aload_n hx hb d_Play_become_17 rfl (lv_at hl 1 rfl) ?_
  refine g_Play_43 S hX hH hZ hk1 d_Play_become_18 ?_
  obtain ⟨M3, hM3, hf0⟩ := o_l hf0
  refine s_Play_43 S hX hI hH hZ hk d_Play_become_21 (fun H locs hH => ?_)
  rw [hM3] at hH
  refine lv_aload_n hx hb d_Play_become_24 rfl (lv_at hl 0 rfl) ?_
  refine lv_aload_n hx hb d_Play_become_25 rfl (lv_at hl 1 rfl) ?_
  refine g_Play_46 S hX hH hZ hk1 d_Play_become_26 ?_
  obtain ⟨M4, hM4, hf0⟩ := o_l hf0
  refine s_Play_46 S hX hI hH hZ hk d_Play_become_29 (fun H locs hH => ?_)
  rw [hM4] at hH
  refine lv_aload_n hx hb d_Play_become_32 rfl (lv_at hl 0 rfl) ?_
  refine lv_aload_n hx hb d_Play_become_33 rfl (lv_at hl 1 rfl) ?_
  refine g_Play_49 S hX hH hZ hk1 d_Play_become_34 ?_
  obtain ⟨M5, hM5, hf0⟩ := o_l hf0
  refine s_Play_49 S hX hI hH hZ hk d_Play_become_37 (fun H locs hH => ?_)
  rw [hM5] at hH
  refine lv_aload_n hx hb d_Play_become_40 rfl (lv_at hl 1 rfl) ?_
  refine g_Play_9 S hX hH hZ hk1 d_Play_become_41 ?_
  refine lv_iconst (v := (0 : Int32)) hx hb d_Play_become_44 (by decide) ?_
  refine lv_aload_n hx hb d_Play_become_45 rfl (lv_at hl 0 rfl) ?_
  refine g_Play_9 S hX hH hZ hk d_Play_become_46 ?_
  refine lv_iconst (v := (0 : Int32)) hx hb d_Play_become_49 (by decide) ?_
  refine lv_iconst (v := (5 : Int32)) hx hb d_Play_become_50 (by decide) ?_
  obtain ⟨M6, hM6, hf0⟩ := o_l hf0
  refine q_copy (sp' := 0) (dp' := 0) (n' := 5) S hX hI hH (aa_Play_1 hZ hk1) (aa_Play_1 hZ hk) hl.1 w3_43 w2_48 w2_47 w1_8 (vp_c (by decide)) (vp_c (by decide)) (vp_c (by decide)) (by decide) (by decide) (by decide) (by decide) (by decide) (Nat.le_trans (Nat.le_of_ble_eq_true rfl) hR.1) (Nat.le_trans (Nat.le_of_ble_eq_true rfl) hR.2) d_Play_become_51 (fun H locs hH => ?_)
  rw [hM6] at hH
  refine lv_aload_n hx hb d_Play_become_54 rfl (lv_at hl 1 rfl) ?_
  refine g_Play_15 S hX hH hZ hk1 d_Play_become_55 ?_
  refine lv_iconst (v := (0 : Int32)) hx hb d_Play_become_58 (by decide) ?_
  refine lv_aload_n hx hb d_Play_become_59 rfl (lv_at hl 0 rfl) ?_
  refine g_Play_15 S hX hH hZ hk d_Play_become_60 ?_
  refine lv_iconst (v := (0 : Int32)) hx hb d_Play_become_63 (by decide) ?_
  refine lv_bipush (v := (16 : Int32)) hx hb d_Play_become_64 (by decide) ?_
  obtain ⟨M7, hM7, hf0⟩ := o_l hf0
  refine q_copy (sp' := 0) (dp' := 0) (n' := 16) S hX hI hH (aa_Play_2 hZ hk1) (aa_Play_2 hZ hk) hl.1 w3_43 w2_48 w2_47 w1_8 (vp_c (by decide)) (vp_c (by decide)) (vp_c (by decide)) (by decide) (by decide) (by decide) (by decide) (by decide) (Nat.le_trans (Nat.le_of_ble_eq_true rfl) hR.1) (Nat.le_trans (Nat.le_of_ble_eq_true rfl) hR.2) d_Play_become_66 (fun H locs hH => ?_)
  rw [hM7] at hH
  refine lv_aload_n hx hb d_Play_become_69 rfl (lv_at hl 1 rfl) ?_
  refine g_Play_18 S hX hH hZ hk1 d_Play_become_70 ?_
  refine lv_iconst (v := (0 : Int32)) hx hb d_Play_become_73 (by decide) ?_
  refine lv_aload_n hx hb d_Play_become_74 rfl (lv_at hl 0 rfl) ?_
  refine g_Play_18 S hX hH hZ hk d_Play_become_75 ?_
  refine lv_iconst (v := (0 : Int32)) hx hb d_Play_become_78 (by decide) ?_
  refine lv_bipush (v := (16 : Int32)) hx hb d_Play_become_79 (by decide) ?_
  obtain ⟨M8, hM8, hf0⟩ := o_l hf0
  refine q_copy (sp' := 0) (dp' := 0) (n' := 16) S hX hI hH (aa_Play_3 hZ hk1) (aa_Play_3 hZ hk) hl.1 w3_43 w2_48 w2_47 w1_8 (vp_c (by decide)) (vp_c (by decide)) (vp_c (by decide)) (by decide) (by decide) (by decide) (by decide) (by decide) (Nat.le_trans (Nat.le_of_ble_eq_true rfl) hR.1) (Nat.le_trans (Nat.le_of_ble_eq_true rfl) hR.2) d_Play_become_81 (fun H locs hH => ?_)
  rw [hM8] at hH
  refine lv_aload_n hx hb d_Play_become_84 rfl (lv_at hl 1 rfl) ?_
  refine g_Play_21 S hX hH hZ hk1 d_Play_become_85 ?_
  refine lv_iconst (v := (0 : Int32)) hx hb d_Play_become_88 (by decide) ?_
  refine lv_aload_n hx hb d_Play_become_89 rfl (lv_at hl 0 rfl) ?_
  refine g_Play_21 S hX hH hZ hk d_Play_become_90 ?_
  refine lv_iconst (v := (0 : Int32)) hx hb d_Play_become_93 (by decide) ?_
  refine lv_bipush (v := (16 : Int32)) hx hb d_Play_become_94 (by decide) ?_
  obtain ⟨M9, hM9, hf0⟩ := o_l hf0
  refine q_copy (sp' := 0) (dp' := 0) (n' := 16) S hX hI hH (aa_Play_4 hZ hk1) (aa_Play_4 hZ hk) hl.1 w3_43 w2_48 w2_47 w1_8 (vp_c (by decide)) (vp_c (by decide)) (vp_c (by decide)) (by decide) (by decide) (by decide) (by decide) (by decide) (Nat.le_trans (Nat.le_of_ble_eq_true rfl) hR.1) (Nat.le_trans (Nat.le_of_ble_eq_true rfl) hR.2) d_Play_become_96 (fun H locs hH => ?_)
  rw [hM9] at hH
  refine lv_aload_n hx hb d_Play_become_99 rfl (lv_at hl 1 rfl) ?_
  refine g_Play_24 S hX hH hZ hk1 d_Play_become_100 ?_
  refine lv_iconst (v := (0 : Int32)) hx hb d_Play_become_103 (by decide) ?_
  refine lv_aload_n hx hb d_Play_become_104 rfl (lv_at hl 0 rfl) ?_
  refine g_Play_24 S hX hH hZ hk d_Play_become_105 ?_
  refine lv_iconst (v := (0 : Int32)) hx hb d_Play_become_108 (by decide) ?_
  refine lv_bipush (v := (12 : Int32)) hx hb d_Play_become_109 (by decide) ?_
  obtain ⟨M10, hM10, hf0⟩ := o_l hf0
  refine q_copy (sp' := 0) (dp' := 0) (n' := 12) S hX hI hH (aa_Play_5 hZ hk1) (aa_Play_5 hZ hk) hl.1 w3_43 w2_48 w2_47 w1_8 (vp_c (by decide)) (vp_c (by decide)) (vp_c (by decide)) (by decide) (by decide) (by decide) (by decide) (by decide) (Nat.le_trans (Nat.le_of_ble_eq_true rfl) hR.1) (Nat.le_trans (Nat.le_of_ble_eq_true rfl) hR.2) d_Play_become_111 (fun H locs hH => ?_)
  rw [hM10] at hH
  refine lv_aload_n hx hb d_Play_become_114 rfl (lv_at hl 1 rfl) ?_
  refine g_Play_27 S hX hH hZ hk1 d_Play_become_115 ?_
  refine lv_iconst (v := (0 : Int32)) hx hb d_Play_become_118 (by decide) ?_
  refine lv_aload_n hx hb d_Play_become_119 rfl (lv_at hl 0 rfl) ?_
  refine g_Play_27 S hX hH hZ hk d_Play_become_120 ?_
  refine lv_iconst (v := (0 : Int32)) hx hb d_Play_become_123 (by decide) ?_
  refine lv_bipush (v := (12 : Int32)) hx hb d_Play_become_124 (by decide) ?_
  obtain ⟨M11, hM11, hf0⟩ := o_l hf0
  refine q_copy (sp' := 0) (dp' := 0) (n' := 12) S hX hI hH (aa_Play_6 hZ hk1) (aa_Play_6 hZ hk) hl.1 w3_43 w2_48 w2_47 w1_8 (vp_c (by decide)) (vp_c (by decide)) (vp_c (by decide)) (by decide) (by decide) (by decide) (by decide) (by decide) (Nat.le_trans (Nat.le_of_ble_eq_true rfl) hR.1) (Nat.le_trans (Nat.le_of_ble_eq_true rfl) hR.2) d_Play_become_126 (fun H locs hH => ?_)
  rw [hM11] at hH
  refine lv_aload_n hx hb d_Play_become_129 rfl (lv_at hl 1 rfl) ?_
  refine g_Play_30 S hX hH hZ hk1 d_Play_become_130 ?_
  refine lv_iconst (v := (0 : Int32)) hx hb d_Play_become_133 (by decide) ?_
  refine lv_aload_n hx hb d_Play_become_134 rfl (lv_at hl 0 rfl) ?_
  refine g_Play_30 S hX hH hZ hk d_Play_become_135 ?_
  refine lv_iconst (v := (0 : Int32)) hx hb d_Play_become_138 (by decide) ?_
  refine lv_bipush (v := (12 : Int32)) hx hb d_Play_become_139 (by decide) ?_
  obtain ⟨M12, hM12, hf0⟩ := o_l hf0
  refine q_copy (sp' := 0) (dp' := 0) (n' := 12) S hX hI hH (aa_Play_7 hZ hk1) (aa_Play_7 hZ hk) hl.1 w3_43 w2_48 w2_47 w1_8 (vp_c (by decide)) (vp_c (by decide)) (vp_c (by decide)) (by decide) (by decide) (by decide) (by decide) (by decide) (Nat.le_trans (Nat.le_of_ble_eq_true rfl) hR.1) (Nat.le_trans (Nat.le_of_ble_eq_true rfl) hR.2) d_Play_become_141 (fun H locs hH => ?_)
  rw [hM12] at hH
  obtain rfl := o_v hf0
  exact hQ _ _ _ _ hH d_Play_become_144
theorem c_Play_become (l : Launch) {Z : WD} (hI : wI Z) (hZ : IsC Z) (k : Nat) (a1 : Nat) (M : Mem) (hk : isPlay k) (hk1 : isPlay a1) {M' : Mem} (hf : f_Play_become k a1 M = some M') : Cv l Z y_Play_become b_Play_become 2 none 1 26 [.ref (Z.2.2.1 k), .ref (Z.2.2.1 a1)] M M' := by
  refine Met.ofW (cc := b_Play_become) (maxL := 2) (ret := none) (by decide) rfl ?_
  intro p e s m args below meth c s₁ B hml hv
  obtain ⟨rfl, hP, hX⟩ := hv
  have S : CallFix p m c b_Play_become 2 s ([.ref (Z.2.2.1 k), .ref (Z.2.2.1 a1)] : List Value).toArray gtb R_Play := ⟨B.exec, B.bytes, hml, findClass_of_methodNamed B.named, fun w hw => atoms_spec (ws := .code y_Play_become b_Play_become 2 none :: gtb) B.pre w (List.mem_cons_of_mem _ hw)⟩
  have hl := lv_entry ([.ref (Z.2.2.1 k), .ref (Z.2.2.1 a1)]) (n := 2) (Nat.le_of_ble_eq_true rfl)
  rw [lg_entry_eq]
  exact wk_Play_become hI hZ k a1 M hk hk1 S hX ⟨Nat.le_refl _, Nat.le_refl _⟩ (fun pc H locs ls hH d => q_rv S.1 S.2.1 B.returns B.notSynchronized hH rfl d) hf ⟨hP, va_S.rf⟩ hl
theorem cw_Play_62 {R : Room} {s : State} {args : Array Value} (ht : ∀ w ∈ gtb, w.before args s = true) (h1 : 0 + 1 ≤ R.frames) (h2 : 8 + (2 + 11) + 0 ≤ R.locals) : CallW R s args R_Play R_Play 62 y_Play_leastSetting b_Play_leastSetting 2 (some .int) (.code y_Play_leastSetting b_Play_leastSetting 2 (some .int) :: gtb) { frames := 0, cells := 0, slots := 0, locals := 0 } 0 0 1 := cwV 1 ht (gV w3_53 w3_32 w3_33 w1_2 w3_34) rfl rfl rfl ⟨rfl, by decide, by decide, by decide +kernel⟩ ⟨h1, h2⟩
theorem cw_Play_66 {R : Room} {s : State} {args : Array Value} (ht : ∀ w ∈ gtb, w.before args s = true) (h1 : 0 + 1 ≤ R.frames) (h2 : 8 + (2 + 11) + 0 ≤ R.locals) : CallW R s args R_Play R_Play 66 y_Play_mostSetting b_Play_mostSetting 2 (some .int) (.code y_Play_mostSetting b_Play_mostSetting 2 (some .int) :: gtb) { frames := 0, cells := 0, slots := 0, locals := 0 } 0 0 1 := cwV 1 ht (gV w3_54 w3_36 w3_37 w1_2 w3_38) rfl rfl rfl ⟨rfl, by decide, by decide, by decide +kernel⟩ ⟨h1, h2⟩
noncomputable def f_Play_hasSetting_J38 (k : Nat) (M : Mem) : Bool := false
noncomputable def f_Play_hasSetting (k : Nat) (M : Mem) (x1 : Int32) (x2 : Int32) : Bool := 
    if (M k 0) ≤ 0 then f_Play_hasSetting_J38 k M else 
    if x1 < 0 then f_Play_hasSetting_J38 k M else 
    if (5 : Int32) ≤ x1 then f_Play_hasSetting_J38 k M else 
    if x2 < (f_Play_leastSetting k x1) then f_Play_hasSetting_J38 k M else if (f_Play_mostSetting k M x1) < x2 then f_Play_hasSetting_J38 k M else true
set_option maxHeartbeats 4000000 in
theorem wk_Play_hasSetting {l : Launch} {Z : WD} (hI : wI Z) (hZ : IsC Z) (k : Nat) (M : Mem) (x1 : Int32) (x2 : Int32) (hk : isPlay k) {r : Bool} {p : Program} {e : Env} {R : Room} {s : State} {m : MethodId} {args : Array Value} {below : List Frame} {meth : Method} {c : Code} {H : Heap} {locs : List Loc} {ls : Array Slot} {Q : State → Prop} (S : CallFix p m c b_Play_hasSetting 3 s args gtb R_Play) (hX : wX Z s) (hR : 1 ≤ R.frames ∧ 21 ≤ R.locals) (hQ : ∀ (pc : Nat) (H : Heap) (locs : List Loc) (ls : Array Slot), HW Z M s H locs → decode b_Play_hasSetting pc = .ok (.ireturn, 1) → W p l e R s m args below meth c H locs 0 0 Q (F0 m pc ls [.int (bI r)])) (hf0 : f_Play_hasSetting k M x1 x2 = r) (hH : HW Z M s H locs) (hl : lv_has ls 3 [(0, .ref (Z.2.2.1 k)), (1, .int x1), (2, .int x2)]) : W p l e R s m args below meth c H locs 0 0 Q (F0 m 0 ls []) := by
  have hx := S.1
  have hb := S.2.1
  have hown := S.2.2.2.1
  have ht := S.2.2.2.2
  unfold f_Play_hasSetting at hf0
  have J38 : ∀ (H : Heap) (locs : List Loc) (ls : Array Slot), f_Play_hasSetting_J38 k M = r → HW Z M s H locs → lv_has ls 3 [] → W p l e R s m args below meth c H locs 0 0 Q (F0 m 38 ls []) := by
    intro H locs ls hf0 hH hl
    unfold f_Play_hasSetting_J38 at hf0
    refine lv_iconst (v := (0 : Int32)) hx hb d_Play_hasSetting_38 (by decide) ?_
    subst hf0
    exact hQ _ _ _ _ hH d_Play_hasSetting_39
  refine lv_aload_n hx hb d_Play_hasSetting_0 rfl (lv_at hl 0 rfl) ?_
  refine g_Play_36 S hX hH hZ hk d_Play_hasSetting_1 ?_
  refine lv_if_le (tgt := 38) hx hb d_Play_hasSetting_4 (by decide) (fun hc => ?_) (fun hc => ?_)
  · replace hf0 := o_t hc hf0
    exact J38 _ _ _ hf0 hH (lv_sub hl [] rfl)
  · replace hf0 := o_f hc hf0
    refine lv_iload_n hx hb d_Play_hasSetting_7 rfl (lv_at hl 1 rfl) ?_
    refine lv_if_lt (tgt := 38) hx hb d_Play_hasSetting_8 (by decide) (fun hc => ?_) (fun hc => ?_)
    · replace hf0 := o_t hc hf0
      exact J38 _ _ _ hf0 hH (lv_sub hl [] rfl)
    · replace hf0 := o_f hc hf0
      refine lv_iload_n hx hb d_Play_hasSetting_11 rfl (lv_at hl 1 rfl) ?_
      refine lv_iconst (v := (5 : Int32)) hx hb d_Play_hasSetting_12 (by decide) ?_
      refine lv_icmp_ge (tgt := 38) hx hb d_Play_hasSetting_13 (by decide) (fun hc => ?_) (fun hc => ?_)
      · replace hf0 := o_t hc hf0
        exact J38 _ _ _ hf0 hH (lv_sub hl [] rfl)
      · replace hf0 := o_f hc hf0
        refine lv_iload_n hx hb d_Play_hasSetting_16 rfl (lv_at hl 2 rfl) ?_
        refine lv_aload_n hx hb d_Play_hasSetting_17 rfl (lv_at hl 0 rfl) ?_
        refine lv_iload_n hx hb d_Play_hasSetting_18 rfl (lv_at hl 1 rfl) ?_
        refine q_cVi (As := [.int x1]) (rest := [.int x2]) S hX hH (c_Play_leastSetting l hI hZ k M x1 hk rfl) (cw_Play_62 S.2.2.2.2 (Nat.le_trans (Nat.le_of_ble_eq_true rfl) hR.1) (Nat.le_trans (Nat.le_of_ble_eq_true rfl) hR.2)) (rc_Play hX hH hZ hk) rfl hl.1 rfl (Nat.le_of_ble_eq_true rfl) d_Play_hasSetting_19 ⟨Nat.zero_le _, Nat.zero_le _⟩ (fun H locs hH => ?_)
        refine lv_icmp_lt (tgt := 38) hx hb d_Play_hasSetting_22 (by decide) (fun hc => ?_) (fun hc => ?_)
        · replace hf0 := o_t hc hf0
          exact J38 _ _ _ hf0 hH (lv_sub hl [] rfl)
        · replace hf0 := o_f hc hf0
          refine lv_iload_n hx hb d_Play_hasSetting_25 rfl (lv_at hl 2 rfl) ?_
          refine lv_aload_n hx hb d_Play_hasSetting_26 rfl (lv_at hl 0 rfl) ?_
          refine lv_iload_n hx hb d_Play_hasSetting_27 rfl (lv_at hl 1 rfl) ?_
          refine q_cVi (As := [.int x1]) (rest := [.int x2]) S hX hH (c_Play_mostSetting l hI hZ k M x1 hk rfl) (cw_Play_66 S.2.2.2.2 (Nat.le_trans (Nat.le_of_ble_eq_true rfl) hR.1) (Nat.le_trans (Nat.le_of_ble_eq_true rfl) hR.2)) (rc_Play hX hH hZ hk) rfl hl.1 rfl (Nat.le_of_ble_eq_true rfl) d_Play_hasSetting_28 ⟨Nat.zero_le _, Nat.zero_le _⟩ (fun H locs hH => ?_)
          refine lv_icmp_gt (tgt := 38) hx hb d_Play_hasSetting_31 (by decide) (fun hc => ?_) (fun hc => ?_)
          · replace hf0 := o_t hc hf0
            exact J38 _ _ _ hf0 hH (lv_sub hl [] rfl)
          · replace hf0 := o_f hc hf0
            refine lv_iconst (v := (1 : Int32)) hx hb d_Play_hasSetting_34 (by decide) ?_
            refine lv_goto (tgt := 39) hx hb d_Play_hasSetting_35 (by decide) ?_
            subst hf0
            exact hQ _ _ _ _ hH d_Play_hasSetting_39
theorem c_Play_hasSetting (l : Launch) {Z : WD} (hI : wI Z) (hZ : IsC Z) (k : Nat) (M : Mem) (x1 : Int32) (x2 : Int32) (hk : isPlay k) {r : Bool} (hf : f_Play_hasSetting k M x1 x2 = r) : Ci l Z y_Play_hasSetting b_Play_hasSetting 3 (some .boolean) 1 21 [.ref (Z.2.2.1 k), .int x1, .int x2] M M (bI r) := by
  refine Met.ofW (cc := b_Play_hasSetting) (maxL := 3) (ret := (some .boolean)) (by decide) rfl ?_
  intro p e s m args below meth c s₁ B hml hv
  obtain ⟨rfl, hP, hX⟩ := hv
  have S : CallFix p m c b_Play_hasSetting 3 s ([.ref (Z.2.2.1 k), .int x1, .int x2] : List Value).toArray gtb R_Play := ⟨B.exec, B.bytes, hml, findClass_of_methodNamed B.named, fun w hw => atoms_spec (ws := .code y_Play_hasSetting b_Play_hasSetting 3 (some .boolean) :: gtb) B.pre w (List.mem_cons_of_mem _ hw)⟩
  have hl := lv_entry ([.ref (Z.2.2.1 k), .int x1, .int x2]) (n := 3) (Nat.le_of_ble_eq_true rfl)
  rw [lg_entry_eq]
  exact wk_Play_hasSetting hI hZ k M x1 x2 hk S hX ⟨Nat.le_refl _, Nat.le_refl _⟩ (fun pc H locs ls hH d => q_rz S.1 S.2.1 B.returns B.notSynchronized hH rfl rfl d) hf ⟨hP, va_S.rf⟩ hl
noncomputable def f_Play_hasRoute_J36 (k : Nat) (M : Mem) : Bool := false
noncomputable def f_Play_hasRoute (k : Nat) (M : Mem) (x1 : Int32) (x2 : Int32) (x3 : Int32) : Bool := 
    if x1 < (1 : Int32) then f_Play_hasRoute_J36 k M else 
    if (8 : Int32) < x1 then f_Play_hasRoute_J36 k M else 
    if (bI (f_Play_hasParty k M x2)) = 0 then f_Play_hasRoute_J36 k M else 
    if (bI (f_Play_hasParty k M x3)) = 0 then f_Play_hasRoute_J36 k M else if x2 = x3 then f_Play_hasRoute_J36 k M else true
set_option maxHeartbeats 4000000 in
theorem wk_Play_hasRoute {l : Launch} {Z : WD} (hI : wI Z) (hZ : IsC Z) (k : Nat) (M : Mem) (x1 : Int32) (x2 : Int32) (x3 : Int32) (hk : isPlay k) {r : Bool} {p : Program} {e : Env} {R : Room} {s : State} {m : MethodId} {args : Array Value} {below : List Frame} {meth : Method} {c : Code} {H : Heap} {locs : List Loc} {ls : Array Slot} {Q : State → Prop} (S : CallFix p m c b_Play_hasRoute 4 s args gtb R_Play) (hX : wX Z s) (hR : 1 ≤ R.frames ∧ 21 ≤ R.locals) (hQ : ∀ (pc : Nat) (H : Heap) (locs : List Loc) (ls : Array Slot), HW Z M s H locs → decode b_Play_hasRoute pc = .ok (.ireturn, 1) → W p l e R s m args below meth c H locs 0 0 Q (F0 m pc ls [.int (bI r)])) (hf0 : f_Play_hasRoute k M x1 x2 x3 = r) (hH : HW Z M s H locs) (hl : lv_has ls 4 [(0, .ref (Z.2.2.1 k)), (1, .int x1), (2, .int x2), (3, .int x3)]) : W p l e R s m args below meth c H locs 0 0 Q (F0 m 0 ls []) := by
  have hx := S.1
  have hb := S.2.1
  have hown := S.2.2.2.1
  have ht := S.2.2.2.2
  unfold f_Play_hasRoute at hf0
  have J36 : ∀ (H : Heap) (locs : List Loc) (ls : Array Slot), f_Play_hasRoute_J36 k M = r → HW Z M s H locs → lv_has ls 4 [] → W p l e R s m args below meth c H locs 0 0 Q (F0 m 36 ls []) := by
    intro H locs ls hf0 hH hl
    unfold f_Play_hasRoute_J36 at hf0
    refine lv_iconst (v := (0 : Int32)) hx hb d_Play_hasRoute_36 (by decide) ?_
    subst hf0
    exact hQ _ _ _ _ hH d_Play_hasRoute_37
  refine lv_iload_n hx hb d_Play_hasRoute_0 rfl (lv_at hl 1 rfl) ?_
  refine lv_iconst (v := (1 : Int32)) hx hb d_Play_hasRoute_1 (by decide) ?_
  refine lv_icmp_lt (tgt := 36) hx hb d_Play_hasRoute_2 (by decide) (fun hc => ?_) (fun hc => ?_)
  · replace hf0 := o_t hc hf0
    exact J36 _ _ _ hf0 hH (lv_sub hl [] rfl)
  · replace hf0 := o_f hc hf0
    refine lv_iload_n hx hb d_Play_hasRoute_5 rfl (lv_at hl 1 rfl) ?_
    refine lv_bipush (v := (8 : Int32)) hx hb d_Play_hasRoute_6 (by decide) ?_
    refine lv_icmp_gt (tgt := 36) hx hb d_Play_hasRoute_8 (by decide) (fun hc => ?_) (fun hc => ?_)
    · replace hf0 := o_t hc hf0
      exact J36 _ _ _ hf0 hH (lv_sub hl [] rfl)
    · replace hf0 := o_f hc hf0
      refine lv_aload_n hx hb d_Play_hasRoute_11 rfl (lv_at hl 0 rfl) ?_
      refine lv_iload_n hx hb d_Play_hasRoute_12 rfl (lv_at hl 2 rfl) ?_
      refine q_cVi (As := [.int x2]) (rest := []) S hX hH (c_Play_hasParty l hI hZ k M x2 hk rfl) (cw_Play_58 S.2.2.2.2 (Nat.le_trans (Nat.le_of_ble_eq_true rfl) hR.1) (Nat.le_trans (Nat.le_of_ble_eq_true rfl) hR.2)) (rc_Play hX hH hZ hk) rfl hl.1 rfl (Nat.le_of_ble_eq_true rfl) d_Play_hasRoute_13 ⟨Nat.zero_le _, Nat.zero_le _⟩ (fun H locs hH => ?_)
      refine lv_if_eq (tgt := 36) hx hb d_Play_hasRoute_16 (by decide) (fun hc => ?_) (fun hc => ?_)
      · replace hf0 := o_t hc hf0
        exact J36 _ _ _ hf0 hH (lv_sub hl [] rfl)
      · replace hf0 := o_f hc hf0
        refine lv_aload_n hx hb d_Play_hasRoute_19 rfl (lv_at hl 0 rfl) ?_
        refine lv_iload_n hx hb d_Play_hasRoute_20 rfl (lv_at hl 3 rfl) ?_
        refine q_cVi (As := [.int x3]) (rest := []) S hX hH (c_Play_hasParty l hI hZ k M x3 hk rfl) (cw_Play_58 S.2.2.2.2 (Nat.le_trans (Nat.le_of_ble_eq_true rfl) hR.1) (Nat.le_trans (Nat.le_of_ble_eq_true rfl) hR.2)) (rc_Play hX hH hZ hk) rfl hl.1 rfl (Nat.le_of_ble_eq_true rfl) d_Play_hasRoute_21 ⟨Nat.zero_le _, Nat.zero_le _⟩ (fun H locs hH => ?_)
        refine lv_if_eq (tgt := 36) hx hb d_Play_hasRoute_24 (by decide) (fun hc => ?_) (fun hc => ?_)
        · replace hf0 := o_t hc hf0
          exact J36 _ _ _ hf0 hH (lv_sub hl [] rfl)
        · replace hf0 := o_f hc hf0
          refine lv_iload_n hx hb d_Play_hasRoute_27 rfl (lv_at hl 2 rfl) ?_
          refine lv_iload_n hx hb d_Play_hasRoute_28 rfl (lv_at hl 3 rfl) ?_
          refine lv_icmp_eq (tgt := 36) hx hb d_Play_hasRoute_29 (by decide) (fun hc => ?_) (fun hc => ?_)
          · replace hf0 := o_t hc hf0
            exact J36 _ _ _ hf0 hH (lv_sub hl [] rfl)
          · replace hf0 := o_f hc hf0
            refine lv_iconst (v := (1 : Int32)) hx hb d_Play_hasRoute_32 (by decide) ?_
            refine lv_goto (tgt := 37) hx hb d_Play_hasRoute_33 (by decide) ?_
            subst hf0
            exact hQ _ _ _ _ hH d_Play_hasRoute_37
theorem c_Play_hasRoute (l : Launch) {Z : WD} (hI : wI Z) (hZ : IsC Z) (k : Nat) (M : Mem) (x1 : Int32) (x2 : Int32) (x3 : Int32) (hk : isPlay k) {r : Bool} (hf : f_Play_hasRoute k M x1 x2 x3 = r) : Ci l Z y_Play_hasRoute b_Play_hasRoute 4 (some .boolean) 1 21 [.ref (Z.2.2.1 k), .int x1, .int x2, .int x3] M M (bI r) := by
  refine Met.ofW (cc := b_Play_hasRoute) (maxL := 4) (ret := (some .boolean)) (by decide) rfl ?_
  intro p e s m args below meth c s₁ B hml hv
  obtain ⟨rfl, hP, hX⟩ := hv
  have S : CallFix p m c b_Play_hasRoute 4 s ([.ref (Z.2.2.1 k), .int x1, .int x2, .int x3] : List Value).toArray gtb R_Play := ⟨B.exec, B.bytes, hml, findClass_of_methodNamed B.named, fun w hw => atoms_spec (ws := .code y_Play_hasRoute b_Play_hasRoute 4 (some .boolean) :: gtb) B.pre w (List.mem_cons_of_mem _ hw)⟩
  have hl := lv_entry ([.ref (Z.2.2.1 k), .int x1, .int x2, .int x3]) (n := 4) (Nat.le_of_ble_eq_true rfl)
  rw [lg_entry_eq]
  exact wk_Play_hasRoute hI hZ k M x1 x2 x3 hk S hX ⟨Nat.le_refl _, Nat.le_refl _⟩ (fun pc H locs ls hH d => q_rz S.1 S.2.1 B.returns B.notSynchronized hH rfl rfl d) hf ⟨hP, va_S.rf⟩ hl
theorem cw_Play_69 {R : Room} {s : State} {args : Array Value} (ht : ∀ w ∈ gtb, w.before args s = true) (h1 : 1 + 1 ≤ R.frames) (h2 : 8 + (3 + 11) + 21 ≤ R.locals) : CallB R s args R_Play 69 y_Chain_bearers b_Chain_bearers 3 (some .int) (.code y_Chain_bearers b_Chain_bearers 3 (some .int) :: gtb) { frames := 1, cells := 0, slots := 0, locals := 21 } 0 0 1 ∧ (Cond.static y_Chain_bearers).before args s = true := va_cwS 1 ht (gS w3_89 w2_237 w1_6 w2_238) rfl rfl rfl ⟨by decide, by decide, by decide +kernel⟩ ⟨h1, h2⟩
noncomputable def f_Play_hasMarks_J21 (k : Nat) (M : Mem) : Option (Bool) := some false
noncomputable def f_Play_hasMarks (k : Nat) (M : Mem) (x1 : Int32) : Option Bool := 
    if x1 = (-1 : Int32) then f_Play_hasMarks_J21 k M else 
    bnd (f_Chain_bearers x1) (fun y2 => if (y2 >>> ((M k 0) &&& 31)) = 0 then some true else f_Play_hasMarks_J21 k M)
set_option maxHeartbeats 4000000 in
theorem wk_Play_hasMarks {l : Launch} {Z : WD} (hI : wI Z) (hZ : IsC Z) (k : Nat) (M : Mem) (x1 : Int32) (hk : isPlay k) {r : Bool} {p : Program} {e : Env} {R : Room} {s : State} {m : MethodId} {args : Array Value} {below : List Frame} {meth : Method} {c : Code} {H : Heap} {locs : List Loc} {ls : Array Slot} {Q : State → Prop} (S : CallFix p m c b_Play_hasMarks 2 s args gtb R_Play) (hX : wX Z s) (hR : 2 ≤ R.frames ∧ 43 ≤ R.locals) (hQ : ∀ (pc : Nat) (H : Heap) (locs : List Loc) (ls : Array Slot), HW Z M s H locs → decode b_Play_hasMarks pc = .ok (.ireturn, 1) → W p l e R s m args below meth c H locs 0 0 Q (F0 m pc ls [.int (bI r)])) (hf0 : f_Play_hasMarks k M x1 = some r) (hH : HW Z M s H locs) (hl : lv_has ls 2 [(0, .ref (Z.2.2.1 k)), (1, .int x1)]) : W p l e R s m args below meth c H locs 0 0 Q (F0 m 0 ls []) := by
  have hx := S.1
  have hb := S.2.1
  have hown := S.2.2.2.1
  have ht := S.2.2.2.2
  unfold f_Play_hasMarks at hf0
  have J21 : ∀ (H : Heap) (locs : List Loc) (ls : Array Slot), f_Play_hasMarks_J21 k M = some r → HW Z M s H locs → lv_has ls 2 [] → W p l e R s m args below meth c H locs 0 0 Q (F0 m 21 ls []) := by
    intro H locs ls hf0 hH hl
    unfold f_Play_hasMarks_J21 at hf0
    refine lv_iconst (v := (0 : Int32)) hx hb d_Play_hasMarks_21 (by decide) ?_
    obtain rfl := o_v hf0
    exact hQ _ _ _ _ hH d_Play_hasMarks_22
  refine lv_iload_n hx hb d_Play_hasMarks_0 rfl (lv_at hl 1 rfl) ?_
  refine lv_iconst (v := (-1 : Int32)) hx hb d_Play_hasMarks_1 (by decide) ?_
  refine lv_icmp_eq (tgt := 21) hx hb d_Play_hasMarks_2 (by decide) (fun hc => ?_) (fun hc => ?_)
  · replace hf0 := o_t hc hf0
    exact J21 _ _ _ hf0 hH (lv_sub hl [] rfl)
  · replace hf0 := o_f hc hf0
    refine lv_iload_n hx hb d_Play_hasMarks_5 rfl (lv_at hl 1 rfl) ?_
    obtain ⟨y2, hc1, hf0⟩ := o_b hf0
    refine q_cSi (As := [.int x1]) (rest := []) S hX hH (c_Chain_bearers l hI M x1 hc1) (cw_Play_69 S.2.2.2.2 (Nat.le_trans (Nat.le_of_ble_eq_true rfl) hR.1) (Nat.le_trans (Nat.le_of_ble_eq_true rfl) hR.2)) rfl hl.1 rfl (Nat.le_of_ble_eq_true rfl) d_Play_hasMarks_6 ⟨Nat.zero_le _, Nat.zero_le _⟩ (fun H locs hH => ?_)
    refine lv_aload_n hx hb d_Play_hasMarks_9 rfl (lv_at hl 0 rfl) ?_
    refine g_Play_36 S hX hH hZ hk d_Play_hasMarks_10 ?_
    refine lv_ishr hx hb d_Play_hasMarks_13 ?_
    refine lv_if_ne (tgt := 21) hx hb d_Play_hasMarks_14 (by decide) (fun hc => ?_) (fun hc => ?_)
    · replace hf0 := o_f hc hf0
      exact J21 _ _ _ hf0 hH (lv_sub hl [] rfl)
    · replace hf0 := o_t hc hf0
      refine lv_iconst (v := (1 : Int32)) hx hb d_Play_hasMarks_17 (by decide) ?_
      refine lv_goto (tgt := 22) hx hb d_Play_hasMarks_18 (by decide) ?_
      obtain rfl := o_v hf0
      exact hQ _ _ _ _ hH d_Play_hasMarks_22
theorem c_Play_hasMarks (l : Launch) {Z : WD} (hI : wI Z) (hZ : IsC Z) (k : Nat) (M : Mem) (x1 : Int32) (hk : isPlay k) {r : Bool} (hf : f_Play_hasMarks k M x1 = some r) : Ci l Z y_Play_hasMarks b_Play_hasMarks 2 (some .boolean) 2 43 [.ref (Z.2.2.1 k), .int x1] M M (bI r) := by
  refine Met.ofW (cc := b_Play_hasMarks) (maxL := 2) (ret := (some .boolean)) (by decide) rfl ?_
  intro p e s m args below meth c s₁ B hml hv
  obtain ⟨rfl, hP, hX⟩ := hv
  have S : CallFix p m c b_Play_hasMarks 2 s ([.ref (Z.2.2.1 k), .int x1] : List Value).toArray gtb R_Play := ⟨B.exec, B.bytes, hml, findClass_of_methodNamed B.named, fun w hw => atoms_spec (ws := .code y_Play_hasMarks b_Play_hasMarks 2 (some .boolean) :: gtb) B.pre w (List.mem_cons_of_mem _ hw)⟩
  have hl := lv_entry ([.ref (Z.2.2.1 k), .int x1]) (n := 2) (Nat.le_of_ble_eq_true rfl)
  rw [lg_entry_eq]
  exact wk_Play_hasMarks hI hZ k M x1 hk S hX ⟨Nat.le_refl _, Nat.le_refl _⟩ (fun pc H locs ls hH d => q_rz S.1 S.2.1 B.returns B.notSynchronized hH rfl rfl d) hf ⟨hP, va_S.rf⟩ hl
noncomputable def f_Play_sizeOf (k : Nat) (M : Mem) (x1 : Int32) : Int32 := 
    if x1 = (0 : Int32) then M k 2 else if x1 = (1 : Int32) then M k 3 else if x1 = (2 : Int32) then M k 4 else (0 : Int32)
set_option maxHeartbeats 4000000 in
theorem wk_Play_sizeOf {l : Launch} {Z : WD} (hI : wI Z) (hZ : IsC Z) (k : Nat) (M : Mem) (x1 : Int32) (hk : isPlay k) {r : Int32} {p : Program} {e : Env} {R : Room} {s : State} {m : MethodId} {args : Array Value} {below : List Frame} {meth : Method} {c : Code} {H : Heap} {locs : List Loc} {ls : Array Slot} {Q : State → Prop} (S : CallFix p m c b_Play_sizeOf 2 s args gtb R_Play) (hX : wX Z s) (hR : 0 ≤ R.frames ∧ 0 ≤ R.locals) (hQ : ∀ (pc : Nat) (H : Heap) (locs : List Loc) (ls : Array Slot), HW Z M s H locs → decode b_Play_sizeOf pc = .ok (.ireturn, 1) → W p l e R s m args below meth c H locs 0 0 Q (F0 m pc ls [.int r])) (hf0 : f_Play_sizeOf k M x1 = r) (hH : HW Z M s H locs) (hl : lv_has ls 2 [(0, .ref (Z.2.2.1 k)), (1, .int x1)]) : W p l e R s m args below meth c H locs 0 0 Q (F0 m 0 ls []) := by
  have hx := S.1
  have hb := S.2.1
  have hown := S.2.2.2.1
  have ht := S.2.2.2.2
  unfold f_Play_sizeOf at hf0
  refine lv_iload_n hx hb d_Play_sizeOf_0 rfl (lv_at hl 1 rfl) ?_
  by_cases hcv0 : x1 = (0 : Int32)
  · replace hf0 := o_t hcv0 hf0
    refine lv_tableIn (tgt := 28) hx hb d_Play_sizeOf_1 (by rw [hcv0]; decide) (by rw [hcv0]; decide) (by rw [hcv0]; rfl) (by decide) ?_
    refine lv_aload_n hx hb d_Play_sizeOf_28 rfl (lv_at hl 0 rfl) ?_
    refine g_Play_43 S hX hH hZ hk d_Play_sizeOf_29 ?_
    subst hf0
    exact hQ _ _ _ _ hH d_Play_sizeOf_32
  replace hf0 := o_f hcv0 hf0
  by_cases hcv1 : x1 = (1 : Int32)
  · replace hf0 := o_t hcv1 hf0
    refine lv_tableIn (tgt := 33) hx hb d_Play_sizeOf_1 (by rw [hcv1]; decide) (by rw [hcv1]; decide) (by rw [hcv1]; rfl) (by decide) ?_
    refine lv_aload_n hx hb d_Play_sizeOf_33 rfl (lv_at hl 0 rfl) ?_
    refine g_Play_46 S hX hH hZ hk d_Play_sizeOf_34 ?_
    subst hf0
    exact hQ _ _ _ _ hH d_Play_sizeOf_37
  replace hf0 := o_f hcv1 hf0
  by_cases hcv2 : x1 = (2 : Int32)
  · replace hf0 := o_t hcv2 hf0
    refine lv_tableIn (tgt := 38) hx hb d_Play_sizeOf_1 (by rw [hcv2]; decide) (by rw [hcv2]; decide) (by rw [hcv2]; rfl) (by decide) ?_
    refine lv_aload_n hx hb d_Play_sizeOf_38 rfl (lv_at hl 0 rfl) ?_
    refine g_Play_49 S hX hH hZ hk d_Play_sizeOf_39 ?_
    subst hf0
    exact hQ _ _ _ _ hH d_Play_sizeOf_42
  replace hf0 := o_f hcv2 hf0
  refine lv_tableOut (tgt := 43) hx hb d_Play_sizeOf_1 (sw_out (fun v h1 h2 => by rcases (show v = 0 ∨ v = 1 ∨ v = 2 by omega) with rfl | rfl | rfl <;> assumption)) (by decide) ?_
  refine lv_iconst (v := (0 : Int32)) hx hb d_Play_sizeOf_43 (by decide) ?_
  subst hf0
  exact hQ _ _ _ _ hH d_Play_sizeOf_44
theorem c_Play_sizeOf (l : Launch) {Z : WD} (hI : wI Z) (hZ : IsC Z) (k : Nat) (M : Mem) (x1 : Int32) (hk : isPlay k) {r : Int32} (hf : f_Play_sizeOf k M x1 = r) : Ci l Z y_Play_sizeOf b_Play_sizeOf 2 (some .int) 0 0 [.ref (Z.2.2.1 k), .int x1] M M r := by
  refine Met.ofW (cc := b_Play_sizeOf) (maxL := 2) (ret := (some .int)) (by decide) rfl ?_
  intro p e s m args below meth c s₁ B hml hv
  obtain ⟨rfl, hP, hX⟩ := hv
  have S : CallFix p m c b_Play_sizeOf 2 s ([.ref (Z.2.2.1 k), .int x1] : List Value).toArray gtb R_Play := ⟨B.exec, B.bytes, hml, findClass_of_methodNamed B.named, fun w hw => atoms_spec (ws := .code y_Play_sizeOf b_Play_sizeOf 2 (some .int) :: gtb) B.pre w (List.mem_cons_of_mem _ hw)⟩
  have hl := lv_entry ([.ref (Z.2.2.1 k), .int x1]) (n := 2) (Nat.le_of_ble_eq_true rfl)
  rw [lg_entry_eq]
  exact wk_Play_sizeOf hI hZ k M x1 hk S hX ⟨Nat.le_refl _, Nat.le_refl _⟩ (fun pc H locs ls hH d => q_ri S.1 S.2.1 B.returns B.notSynchronized hH rfl rfl d) hf ⟨hP, va_S.rf⟩ hl
noncomputable def f_Play_closeGap_L8 (a0 n0 : Nat) (x2 : Int32) (M : Mem) : Option ((Int32 × Mem) ⊕ Mem) := if (nI n0) ≤ x2 then some (.inr M) else 
    gIn x2 n0 (gIn (x2 - (1 : Int32)) n0 (lt1 (upM M a0 ((x2 - (1 : Int32)).toNatClampNeg) (M a0 x2.toNatClampNeg)) (fun M3 => some (.inl (x2 + (1 : Int32), M3)))))
noncomputable def f_Play_closeGap_W8 (a0 n0 : Nat) (u : (Int32 × Mem)) : Option Mem := loop (fun t => f_Play_closeGap_L8 a0 n0 t.1 t.2) u
noncomputable def f_Play_closeGap_J8 (a0 n0 : Nat) (M : Mem) (x2 : Int32) : Option (Mem) := bnd (f_Play_closeGap_W8 a0 n0 (x2, M)) (fun e8 => some e8)
noncomputable def f_Play_closeGap (a0 n0 : Nat) (M : Mem) (x1 : Int32) : Option Mem := f_Play_closeGap_J8 a0 n0 M ((maI x1 (0 : Int32)) + (1 : Int32))
set_option maxHeartbeats 4000000 in
theorem wk_Play_closeGap {l : Launch} {Z : WD} (hI : wI Z) (a0 n0 : Nat) (M : Mem) (x1 : Int32) (ha0 : AA .int Z a0 n0) {M' : Mem} {p : Program} {e : Env} {R : Room} {s : State} {m : MethodId} {args : Array Value} {below : List Frame} {meth : Method} {c : Code} {H : Heap} {locs : List Loc} {ls : Array Slot} {Q : State → Prop} (S : CallFix p m c b_Play_closeGap 3 s args gtb R_Play) (hX : wX Z s) (hR : 1 ≤ R.frames ∧ 21 ≤ R.locals) (hQ : ∀ (pc : Nat) (H : Heap) (locs : List Loc) (ls : Array Slot), HW Z M' s H locs → decode b_Play_closeGap pc = .ok (.return_, 1) → W p l e R s m args below meth c H locs 0 0 Q (F0 m pc ls [])) (hf0 : f_Play_closeGap a0 n0 M x1 = some M') (hH : HW Z M s H locs) (hl : lv_has ls 3 [(0, .ref (Z.2.2.1 a0)), (1, .int x1)]) : W p l e R s m args below meth c H locs 0 0 Q (F0 m 0 ls []) := by
  have hx := S.1
  have hb := S.2.1
  have hown := S.2.2.2.1
  have ht := S.2.2.2.2
  unfold f_Play_closeGap at hf0
  have J8 : ∀ (M : Mem) (x2 : Int32) (H : Heap) (locs : List Loc) (ls : Array Slot), f_Play_closeGap_J8 a0 n0 M x2 = some M' → HW Z M s H locs → lv_has ls 3 [(0, .ref (Z.2.2.1 a0)), (2, .int x2)] → W p l e R s m args below meth c H locs 0 0 Q (F0 m 8 ls []) := by
    intro M x2 H locs ls hf0 hH hl
    unfold f_Play_closeGap_J8 at hf0
    obtain ⟨e8, he8, hf0⟩ := o_b hf0
    unfold f_Play_closeGap_W8 at he8
    refine loop_W (fun t => ∀ (H : Heap) (locs : List Loc) (ls : Array Slot), HW Z t.2 s H locs → lv_has ls 3 [(0, .ref (Z.2.2.1 a0)), (2, .int t.1)] → W p l e R s m args below meth c H locs 0 0 Q (F0 m 8 ls [])) ?_ he8 H locs ls hH hl
    rintro ⟨x2, M⟩ o1 hf1 hG1 hR1 H locs ls hH hl
    replace hH : HW Z M s H locs := hH
    replace hl : lv_has ls 3 [(0, .ref (Z.2.2.1 a0)), (2, .int x2)] := hl
    replace hf1 : f_Play_closeGap_L8 a0 n0 x2 M = some o1 := hf1
    unfold f_Play_closeGap_L8 at hf1
    refine lv_iload_n hx hb d_Play_closeGap_8 rfl (lv_at hl 1 rfl) ?_
    refine lv_aload_n hx hb d_Play_closeGap_9 rfl (lv_at hl 0 rfl) ?_
    refine q_alen hx hb hX hH ha0 d_Play_closeGap_10 ?_
    refine lv_icmp_ge (tgt := 28) hx hb d_Play_closeGap_11 (by decide) (fun hc => ?_) (fun hc => ?_)
    · replace hf1 := o_t hc hf1
      obtain rfl := hR1 _ (o_v hf1).symm
      obtain rfl := o_v hf0
      exact hQ _ _ _ _ hH d_Play_closeGap_28
    · replace hf1 := o_f hc hf1
      refine lv_aload_n hx hb d_Play_closeGap_14 rfl (lv_at hl 0 rfl) ?_
      refine lv_iload_n hx hb d_Play_closeGap_15 rfl (lv_at hl 1 rfl) ?_
      refine lv_iconst (v := (1 : Int32)) hx hb d_Play_closeGap_16 (by decide) ?_
      refine lv_isub hx hb d_Play_closeGap_17 ?_
      refine lv_aload_n hx hb d_Play_closeGap_18 rfl (lv_at hl 0 rfl) ?_
      refine lv_iload_n hx hb d_Play_closeGap_19 rfl (lv_at hl 1 rfl) ?_
      obtain ⟨hn1, hf1⟩ := o_in hf1
      refine q_iald (j := x2.toNatClampNeg) hx hb hX hH ha0 hn1 rfl d_Play_closeGap_20 ?_
      obtain ⟨hn2, hf1⟩ := o_in hf1
      obtain ⟨M3, hM3, hf1⟩ := o_l hf1
      refine q_iast (j := (x2 - (1 : Int32)).toNatClampNeg) hx hb hX hI hH ha0 hn2 rfl d_Play_closeGap_21 (fun H locs hH => ?_)
      rw [hM3] at hH
      refine lv_iinc (v := x2 + (1 : Int32)) (lv' := [(2, .int (x2 + (1 : Int32))), (0, .ref (Z.2.2.1 a0))]) hx hb d_Play_closeGap_22 hl (k := 1) rfl rfl (by decide) rfl (fun ls hl => ?_)
      refine lv_goto (tgt := 8) hx hb d_Play_closeGap_25 (by decide) ?_
      exact hG1 _ (o_v hf1).symm _ _ _ hH (lv_sub hl [1, 0] rfl)
  refine lv_iload_n hx hb d_Play_closeGap_0 rfl (lv_at hl 1 rfl) ?_
  refine lv_iconst (v := (0 : Int32)) hx hb d_Play_closeGap_1 (by decide) ?_
  refine q_max S hl.1 w3_107 w3_108 w1_9 w3_109 (Nat.le_trans (Nat.le_of_ble_eq_true rfl) hR.1) (Nat.le_trans (Nat.le_of_ble_eq_true rfl) hR.2) d_Play_closeGap_2 ?_
  refine lv_iconst (v := (1 : Int32)) hx hb d_Play_closeGap_5 (by decide) ?_
  refine lv_iadd hx hb d_Play_closeGap_6 ?_
  refine lv_istore_n (lv' := [(2, .int ((maI x1 (0 : Int32)) + (1 : Int32))), (0, .ref (Z.2.2.1 a0)), (1, .int x1)]) hx hb d_Play_closeGap_7 rfl hl (by decide) rfl (fun ls hl => ?_)
  exact J8 _ _ _ _ _ hf0 hH (lv_sub hl [1, 0] rfl)
theorem c_Play_closeGap (l : Launch) {Z : WD} (hI : wI Z) (a0 n0 : Nat) (M : Mem) (x1 : Int32) (ha0 : AA .int Z a0 n0) {M' : Mem} (hf : f_Play_closeGap a0 n0 M x1 = some M') : Cv l Z y_Play_closeGap b_Play_closeGap 3 none 1 21 [.ref (Z.2.2.1 a0), .int x1] M M' := by
  refine Met.ofW (cc := b_Play_closeGap) (maxL := 3) (ret := none) (by decide) rfl ?_
  intro p e s m args below meth c s₁ B hml hv
  obtain ⟨rfl, hP, hX⟩ := hv
  have S : CallFix p m c b_Play_closeGap 3 s ([.ref (Z.2.2.1 a0), .int x1] : List Value).toArray gtb R_Play := ⟨B.exec, B.bytes, hml, findClass_of_methodNamed B.named, fun w hw => atoms_spec (ws := .code y_Play_closeGap b_Play_closeGap 3 none :: gtb) B.pre w (List.mem_cons_of_mem _ hw)⟩
  have hl := lv_entry ([.ref (Z.2.2.1 a0), .int x1]) (n := 3) (Nat.le_of_ble_eq_true rfl)
  rw [lg_entry_eq]
  exact wk_Play_closeGap hI a0 n0 M x1 ha0 S hX ⟨Nat.le_refl _, Nat.le_refl _⟩ (fun pc H locs ls hH d => q_rv S.1 S.2.1 B.returns B.notSynchronized hH rfl d) hf ⟨hP, va_S.rf⟩ hl
theorem cw_Play_78 {R : Room} {s : State} {args : Array Value} (ht : ∀ w ∈ gtb, w.before args s = true) (h1 : 1 + 1 ≤ R.frames) (h2 : 8 + (3 + 11) + 21 ≤ R.locals) : CallB R s args R_Play 78 y_Play_closeGap b_Play_closeGap 3 none (.code y_Play_closeGap b_Play_closeGap 3 none :: gtb) { frames := 1, cells := 0, slots := 0, locals := 21 } 0 0 2 ∧ (Cond.static y_Play_closeGap).before args s = true := va_cwS 2 ht (gS w3_104 w3_105 w1_2 w3_106) rfl rfl rfl ⟨by decide, by decide, by decide +kernel⟩ ⟨h1, h2⟩
noncomputable def f_Play_remove (k : Nat) (M : Mem) (x1 : Int32) (x2 : Int32) : Option Mem := 
    if x1 = (0 : Int32) then 
    bnd (f_Play_closeGap (k + 2) 16 M x2) (fun M2 => 
    bnd (f_Play_closeGap (k + 3) 16 M2 x2) (fun M4 => 
    bnd (f_Play_closeGap (k + 4) 16 M4 x2) (fun M6 => lt1 (upM M6 k 2 ((M6 k 2) - (1 : Int32))) (fun M7 => some M7)))) else 
    if x1 = (1 : Int32) then 
    bnd (f_Play_closeGap (k + 5) 12 M x2) (fun M9 => lt1 (upM M9 k 3 ((M9 k 3) - (1 : Int32))) (fun M10 => some M10)) else 
    if x1 = (2 : Int32) then 
    bnd (f_Play_closeGap (k + 6) 12 M x2) (fun M12 => 
    bnd (f_Play_closeGap (k + 7) 12 M12 x2) (fun M14 => lt1 (upM M14 k 4 ((M14 k 4) - (1 : Int32))) (fun M15 => some M15))) else some M
set_option maxHeartbeats 4000000 in
theorem wk_Play_remove {l : Launch} {Z : WD} (hI : wI Z) (hZ : IsC Z) (k : Nat) (M : Mem) (x1 : Int32) (x2 : Int32) (hk : isPlay k) {M' : Mem} {p : Program} {e : Env} {R : Room} {s : State} {m : MethodId} {args : Array Value} {below : List Frame} {meth : Method} {c : Code} {H : Heap} {locs : List Loc} {ls : Array Slot} {Q : State → Prop} (S : CallFix p m c b_Play_remove 3 s args gtb R_Play) (hX : wX Z s) (hR : 2 ≤ R.frames ∧ 43 ≤ R.locals) (hQ : ∀ (pc : Nat) (H : Heap) (locs : List Loc) (ls : Array Slot), HW Z M' s H locs → decode b_Play_remove pc = .ok (.return_, 1) → W p l e R s m args below meth c H locs 0 0 Q (F0 m pc ls [])) (hf0 : f_Play_remove k M x1 x2 = some M') (hH : HW Z M s H locs) (hl : lv_has ls 3 [(0, .ref (Z.2.2.1 k)), (1, .int x1), (2, .int x2)]) : W p l e R s m args below meth c H locs 0 0 Q (F0 m 0 ls []) := by
  have hx := S.1
  have hb := S.2.1
  have hown := S.2.2.2.1
  have ht := S.2.2.2.2
  unfold f_Play_remove at hf0
  refine lv_iload_n hx hb d_Play_remove_0 rfl (lv_at hl 1 rfl) ?_
  by_cases hcv0 : x1 = (0 : Int32)
  · replace hf0 := o_t hcv0 hf0
    refine lv_tableIn (tgt := 28) hx hb d_Play_remove_1 (by rw [hcv0]; decide) (by rw [hcv0]; decide) (by rw [hcv0]; rfl) (by decide) ?_
    refine lv_aload_n hx hb d_Play_remove_28 rfl (lv_at hl 0 rfl) ?_
    refine g_Play_15 S hX hH hZ hk d_Play_remove_29 ?_
    refine lv_iload_n hx hb d_Play_remove_32 rfl (lv_at hl 2 rfl) ?_
    obtain ⟨M2, hc1, hf0⟩ := o_b hf0
    refine q_cSv (As := [.ref (Z.2.2.1 (k + 2)), .int x2]) (rest := []) S hX hH (c_Play_closeGap l hI (k + 2) 16 M x2 (aa_Play_2 hZ hk) hc1) (cw_Play_78 S.2.2.2.2 (Nat.le_trans (Nat.le_of_ble_eq_true rfl) hR.1) (Nat.le_trans (Nat.le_of_ble_eq_true rfl) hR.2)) rfl hl.1 rfl (Nat.le_of_ble_eq_true rfl) d_Play_remove_33 ⟨Nat.zero_le _, Nat.zero_le _⟩ (fun H locs hH => ?_)
    refine lv_aload_n hx hb d_Play_remove_36 rfl (lv_at hl 0 rfl) ?_
    refine g_Play_18 S hX hH hZ hk d_Play_remove_37 ?_
    refine lv_iload_n hx hb d_Play_remove_40 rfl (lv_at hl 2 rfl) ?_
    obtain ⟨M4, hc3, hf0⟩ := o_b hf0
    refine q_cSv (As := [.ref (Z.2.2.1 (k + 3)), .int x2]) (rest := []) S hX hH (c_Play_closeGap l hI (k + 3) 16 M2 x2 (aa_Play_3 hZ hk) hc3) (cw_Play_78 S.2.2.2.2 (Nat.le_trans (Nat.le_of_ble_eq_true rfl) hR.1) (Nat.le_trans (Nat.le_of_ble_eq_true rfl) hR.2)) rfl hl.1 rfl (Nat.le_of_ble_eq_true rfl) d_Play_remove_41 ⟨Nat.zero_le _, Nat.zero_le _⟩ (fun H locs hH => ?_)
    refine lv_aload_n hx hb d_Play_remove_44 rfl (lv_at hl 0 rfl) ?_
    refine g_Play_21 S hX hH hZ hk d_Play_remove_45 ?_
    refine lv_iload_n hx hb d_Play_remove_48 rfl (lv_at hl 2 rfl) ?_
    obtain ⟨M6, hc5, hf0⟩ := o_b hf0
    refine q_cSv (As := [.ref (Z.2.2.1 (k + 4)), .int x2]) (rest := []) S hX hH (c_Play_closeGap l hI (k + 4) 16 M4 x2 (aa_Play_4 hZ hk) hc5) (cw_Play_78 S.2.2.2.2 (Nat.le_trans (Nat.le_of_ble_eq_true rfl) hR.1) (Nat.le_trans (Nat.le_of_ble_eq_true rfl) hR.2)) rfl hl.1 rfl (Nat.le_of_ble_eq_true rfl) d_Play_remove_49 ⟨Nat.zero_le _, Nat.zero_le _⟩ (fun H locs hH => ?_)
    refine lv_aload_n hx hb d_Play_remove_52 rfl (lv_at hl 0 rfl) ?_
    refine lv_dup hx hb d_Play_remove_53 rfl ?_
    refine g_Play_43 S hX hH hZ hk d_Play_remove_54 ?_
    refine lv_iconst (v := (1 : Int32)) hx hb d_Play_remove_57 (by decide) ?_
    refine lv_isub hx hb d_Play_remove_58 ?_
    obtain ⟨M7, hM7, hf0⟩ := o_l hf0
    refine s_Play_43 S hX hI hH hZ hk d_Play_remove_59 (fun H locs hH => ?_)
    rw [hM7] at hH
    refine lv_goto (tgt := 115) hx hb d_Play_remove_62 (by decide) ?_
    obtain rfl := o_v hf0
    exact hQ _ _ _ _ hH d_Play_remove_115
  replace hf0 := o_f hcv0 hf0
  by_cases hcv1 : x1 = (1 : Int32)
  · replace hf0 := o_t hcv1 hf0
    refine lv_tableIn (tgt := 65) hx hb d_Play_remove_1 (by rw [hcv1]; decide) (by rw [hcv1]; decide) (by rw [hcv1]; rfl) (by decide) ?_
    refine lv_aload_n hx hb d_Play_remove_65 rfl (lv_at hl 0 rfl) ?_
    refine g_Play_24 S hX hH hZ hk d_Play_remove_66 ?_
    refine lv_iload_n hx hb d_Play_remove_69 rfl (lv_at hl 2 rfl) ?_
    obtain ⟨M9, hc8, hf0⟩ := o_b hf0
    refine q_cSv (As := [.ref (Z.2.2.1 (k + 5)), .int x2]) (rest := []) S hX hH (c_Play_closeGap l hI (k + 5) 12 M x2 (aa_Play_5 hZ hk) hc8) (cw_Play_78 S.2.2.2.2 (Nat.le_trans (Nat.le_of_ble_eq_true rfl) hR.1) (Nat.le_trans (Nat.le_of_ble_eq_true rfl) hR.2)) rfl hl.1 rfl (Nat.le_of_ble_eq_true rfl) d_Play_remove_70 ⟨Nat.zero_le _, Nat.zero_le _⟩ (fun H locs hH => ?_)
    refine lv_aload_n hx hb d_Play_remove_73 rfl (lv_at hl 0 rfl) ?_
    refine lv_dup hx hb d_Play_remove_74 rfl ?_
    refine g_Play_46 S hX hH hZ hk d_Play_remove_75 ?_
    refine lv_iconst (v := (1 : Int32)) hx hb d_Play_remove_78 (by decide) ?_
    refine lv_isub hx hb d_Play_remove_79 ?_
    obtain ⟨M10, hM10, hf0⟩ := o_l hf0
    refine s_Play_46 S hX hI hH hZ hk d_Play_remove_80 (fun H locs hH => ?_)
    rw [hM10] at hH
    refine lv_goto (tgt := 115) hx hb d_Play_remove_83 (by decide) ?_
    obtain rfl := o_v hf0
    exact hQ _ _ _ _ hH d_Play_remove_115
  replace hf0 := o_f hcv1 hf0
  by_cases hcv2 : x1 = (2 : Int32)
  · replace hf0 := o_t hcv2 hf0
    refine lv_tableIn (tgt := 86) hx hb d_Play_remove_1 (by rw [hcv2]; decide) (by rw [hcv2]; decide) (by rw [hcv2]; rfl) (by decide) ?_
    refine lv_aload_n hx hb d_Play_remove_86 rfl (lv_at hl 0 rfl) ?_
    refine g_Play_27 S hX hH hZ hk d_Play_remove_87 ?_
    refine lv_iload_n hx hb d_Play_remove_90 rfl (lv_at hl 2 rfl) ?_
    obtain ⟨M12, hc11, hf0⟩ := o_b hf0
    refine q_cSv (As := [.ref (Z.2.2.1 (k + 6)), .int x2]) (rest := []) S hX hH (c_Play_closeGap l hI (k + 6) 12 M x2 (aa_Play_6 hZ hk) hc11) (cw_Play_78 S.2.2.2.2 (Nat.le_trans (Nat.le_of_ble_eq_true rfl) hR.1) (Nat.le_trans (Nat.le_of_ble_eq_true rfl) hR.2)) rfl hl.1 rfl (Nat.le_of_ble_eq_true rfl) d_Play_remove_91 ⟨Nat.zero_le _, Nat.zero_le _⟩ (fun H locs hH => ?_)
    refine lv_aload_n hx hb d_Play_remove_94 rfl (lv_at hl 0 rfl) ?_
    refine g_Play_30 S hX hH hZ hk d_Play_remove_95 ?_
    refine lv_iload_n hx hb d_Play_remove_98 rfl (lv_at hl 2 rfl) ?_
    obtain ⟨M14, hc13, hf0⟩ := o_b hf0
    refine q_cSv (As := [.ref (Z.2.2.1 (k + 7)), .int x2]) (rest := []) S hX hH (c_Play_closeGap l hI (k + 7) 12 M12 x2 (aa_Play_7 hZ hk) hc13) (cw_Play_78 S.2.2.2.2 (Nat.le_trans (Nat.le_of_ble_eq_true rfl) hR.1) (Nat.le_trans (Nat.le_of_ble_eq_true rfl) hR.2)) rfl hl.1 rfl (Nat.le_of_ble_eq_true rfl) d_Play_remove_99 ⟨Nat.zero_le _, Nat.zero_le _⟩ (fun H locs hH => ?_)
    refine lv_aload_n hx hb d_Play_remove_102 rfl (lv_at hl 0 rfl) ?_
    refine lv_dup hx hb d_Play_remove_103 rfl ?_
    refine g_Play_49 S hX hH hZ hk d_Play_remove_104 ?_
    refine lv_iconst (v := (1 : Int32)) hx hb d_Play_remove_107 (by decide) ?_
    refine lv_isub hx hb d_Play_remove_108 ?_
    obtain ⟨M15, hM15, hf0⟩ := o_l hf0
    refine s_Play_49 S hX hI hH hZ hk d_Play_remove_109 (fun H locs hH => ?_)
    rw [hM15] at hH
    refine lv_goto (tgt := 115) hx hb d_Play_remove_112 (by decide) ?_
    obtain rfl := o_v hf0
    exact hQ _ _ _ _ hH d_Play_remove_115
  replace hf0 := o_f hcv2 hf0
  refine lv_tableOut (tgt := 115) hx hb d_Play_remove_1 (sw_out (fun v h1 h2 => by rcases (show v = 0 ∨ v = 1 ∨ v = 2 by omega) with rfl | rfl | rfl <;> assumption)) (by decide) ?_
  obtain rfl := o_v hf0
  exact hQ _ _ _ _ hH d_Play_remove_115
theorem c_Play_remove (l : Launch) {Z : WD} (hI : wI Z) (hZ : IsC Z) (k : Nat) (M : Mem) (x1 : Int32) (x2 : Int32) (hk : isPlay k) {M' : Mem} (hf : f_Play_remove k M x1 x2 = some M') : Cv l Z y_Play_remove b_Play_remove 3 none 2 43 [.ref (Z.2.2.1 k), .int x1, .int x2] M M' := by
  refine Met.ofW (cc := b_Play_remove) (maxL := 3) (ret := none) (by decide) rfl ?_
  intro p e s m args below meth c s₁ B hml hv
  obtain ⟨rfl, hP, hX⟩ := hv
  have S : CallFix p m c b_Play_remove 3 s ([.ref (Z.2.2.1 k), .int x1, .int x2] : List Value).toArray gtb R_Play := ⟨B.exec, B.bytes, hml, findClass_of_methodNamed B.named, fun w hw => atoms_spec (ws := .code y_Play_remove b_Play_remove 3 none :: gtb) B.pre w (List.mem_cons_of_mem _ hw)⟩
  have hl := lv_entry ([.ref (Z.2.2.1 k), .int x1, .int x2]) (n := 3) (Nat.le_of_ble_eq_true rfl)
  rw [lg_entry_eq]
  exact wk_Play_remove hI hZ k M x1 x2 hk S hX ⟨Nat.le_refl _, Nat.le_refl _⟩ (fun pc H locs ls hH d => q_rv S.1 S.2.1 B.returns B.notSynchronized hH rfl d) hf ⟨hP, va_S.rf⟩ hl
noncomputable def f_Play_honest (k : Nat) (M : Mem) : Int32 := (((1 : Int32) <<< ((M k 0) &&& 31)) - (1 : Int32)) &&& ((M k 1) ^^^ (-1 : Int32))
set_option maxHeartbeats 4000000 in
theorem wk_Play_honest {l : Launch} {Z : WD} (hI : wI Z) (hZ : IsC Z) (k : Nat) (M : Mem) (hk : isPlay k) {r : Int32} {p : Program} {e : Env} {R : Room} {s : State} {m : MethodId} {args : Array Value} {below : List Frame} {meth : Method} {c : Code} {H : Heap} {locs : List Loc} {ls : Array Slot} {Q : State → Prop} (S : CallFix p m c b_Play_honest 1 s args gtb R_Play) (hX : wX Z s) (hR : 0 ≤ R.frames ∧ 0 ≤ R.locals) (hQ : ∀ (pc : Nat) (H : Heap) (locs : List Loc) (ls : Array Slot), HW Z M s H locs → decode b_Play_honest pc = .ok (.ireturn, 1) → W p l e R s m args below meth c H locs 0 0 Q (F0 m pc ls [.int r])) (hf0 : f_Play_honest k M = r) (hH : HW Z M s H locs) (hl : lv_has ls 1 [(0, .ref (Z.2.2.1 k))]) : W p l e R s m args below meth c H locs 0 0 Q (F0 m 0 ls []) := by
  have hx := S.1
  have hb := S.2.1
  have hown := S.2.2.2.1
  have ht := S.2.2.2.2
  unfold f_Play_honest at hf0
  refine lv_iconst (v := (1 : Int32)) hx hb d_Play_honest_0 (by decide) ?_
  refine lv_aload_n hx hb d_Play_honest_1 rfl (lv_at hl 0 rfl) ?_
  refine g_Play_36 S hX hH hZ hk d_Play_honest_2 ?_
  refine lv_ishl hx hb d_Play_honest_5 ?_
  refine lv_iconst (v := (1 : Int32)) hx hb d_Play_honest_6 (by decide) ?_
  refine lv_isub hx hb d_Play_honest_7 ?_
  refine lv_aload_n hx hb d_Play_honest_8 rfl (lv_at hl 0 rfl) ?_
  refine g_Play_40 S hX hH hZ hk d_Play_honest_9 ?_
  refine lv_iconst (v := (-1 : Int32)) hx hb d_Play_honest_12 (by decide) ?_
  refine lv_ixor hx hb d_Play_honest_13 ?_
  refine lv_iand hx hb d_Play_honest_14 ?_
  subst hf0
  exact hQ _ _ _ _ hH d_Play_honest_15
theorem c_Play_honest (l : Launch) {Z : WD} (hI : wI Z) (hZ : IsC Z) (k : Nat) (M : Mem) (hk : isPlay k) {r : Int32} (hf : f_Play_honest k M = r) : Ci l Z y_Play_honest b_Play_honest 1 (some .int) 0 0 [.ref (Z.2.2.1 k)] M M r := by
  refine Met.ofW (cc := b_Play_honest) (maxL := 1) (ret := (some .int)) (by decide) rfl ?_
  intro p e s m args below meth c s₁ B hml hv
  obtain ⟨rfl, hP, hX⟩ := hv
  have S : CallFix p m c b_Play_honest 1 s ([.ref (Z.2.2.1 k)] : List Value).toArray gtb R_Play := ⟨B.exec, B.bytes, hml, findClass_of_methodNamed B.named, fun w hw => atoms_spec (ws := .code y_Play_honest b_Play_honest 1 (some .int) :: gtb) B.pre w (List.mem_cons_of_mem _ hw)⟩
  have hl := lv_entry ([.ref (Z.2.2.1 k)]) (n := 1) (Nat.le_of_ble_eq_true rfl)
  rw [lg_entry_eq]
  exact wk_Play_honest hI hZ k M hk S hX ⟨Nat.le_refl _, Nat.le_refl _⟩ (fun pc H locs ls hH d => q_ri S.1 S.2.1 B.returns B.notSynchronized hH rfl rfl d) hf ⟨hP, va_S.rf⟩ hl
theorem cw_Play_101 {R : Room} {s : State} {args : Array Value} (ht : ∀ w ∈ gtb, w.before args s = true) (h1 : 1 + 1 ≤ R.frames) (h2 : 8 + (2 + 11) + 21 ≤ R.locals) : CallW R s args R_Play R_Play 101 y_Play_isLiar b_Play_isLiar 2 (some .boolean) (.code y_Play_isLiar b_Play_isLiar 2 (some .boolean) :: gtb) { frames := 1, cells := 0, slots := 0, locals := 21 } 0 0 1 := cwV 1 ht (gV w3_142 w1_222 w1_223 w1_2 w1_224) rfl rfl rfl ⟨rfl, by decide, by decide, by decide +kernel⟩ ⟨h1, h2⟩
theorem cw_Play_104 {R : Room} {s : State} {args : Array Value} (ht : ∀ w ∈ gtb, w.before args s = true) (h1 : 0 + 1 ≤ R.frames) (h2 : 8 + (1 + 11) + 0 ≤ R.locals) : CallB R s args R_Play 104 y_Chain_size b_Chain_size 1 (some .int) (.code y_Chain_size b_Chain_size 1 (some .int) :: gtb) { frames := 0, cells := 0, slots := 0, locals := 0 } 0 0 1 ∧ (Cond.static y_Chain_size).before args s = true := va_cwS 1 ht (gS w3_143 w2_8 w1_6 w2_9) rfl rfl rfl ⟨by decide, by decide, by decide +kernel⟩ ⟨h1, h2⟩
theorem cw_Play_98 {R : Room} {s : State} {args : Array Value} (ht : ∀ w ∈ gtb, w.before args s = true) (h1 : 1 + 1 ≤ R.frames) (h2 : 8 + (3 + 11) + 20 ≤ R.locals) : CallB R s args R_Play 98 y_Chain_with b_Chain_with 3 (some .int) (.code y_Chain_with b_Chain_with 3 (some .int) :: gtb) { frames := 1, cells := 0, slots := 0, locals := 20 } 0 0 2 ∧ (Cond.static y_Chain_with).before args s = true := va_cwS 2 ht (gS w3_141 w2_5 w1_6 w2_6) rfl rfl rfl ⟨by decide, by decide, by decide +kernel⟩ ⟨h1, h2⟩
noncomputable def f_Play_liarsChain_L16 (k : Nat) (M : Mem) (x1 : Int32) (x2 : Int32) (x3 : Int32) (x4 : Int32) : Option ((Int32 × Int32) ⊕ Int32) := if (M k 0) ≤ x4 then some (.inr x3) else 
    if (bI (f_Play_isLiar k M x4)) = 0 then some (.inl (x3, x4 + (1 : Int32))) else 
    if x4 = x2 then some (.inl (x3, x4 + (1 : Int32))) else 
    if x1 ≤ (f_Chain_size x3) then some (.inl (x3, x4 + (1 : Int32))) else some (.inl (f_Chain_with x3 x4, x4 + (1 : Int32)))
noncomputable def f_Play_liarsChain_W16 (k : Nat) (M : Mem) (x1 : Int32) (x2 : Int32) (u : (Int32 × Int32)) : Option Int32 := loop (fun t => f_Play_liarsChain_L16 k M x1 x2 t.1 t.2) u
noncomputable def f_Play_liarsChain_J16 (k : Nat) (M : Mem) (x1 : Int32) (x2 : Int32) (x3 : Int32) (x4 : Int32) : Option (Int32) := bnd (f_Play_liarsChain_W16 k M x1 x2 (x3, x4)) (fun e16 => some e16)
noncomputable def f_Play_liarsChain (k : Nat) (M : Mem) (x1 : Int32) : Option Int32 := f_Play_liarsChain_J16 k M x1 (M (k + 1) 0) (f_Chain_with (0 : Int32) (M (k + 1) 0)) (0 : Int32)
set_option maxHeartbeats 4000000 in
theorem wk_Play_liarsChain {l : Launch} {Z : WD} (hI : wI Z) (hZ : IsC Z) (k : Nat) (M : Mem) (x1 : Int32) (hk : isPlay k) {r : Int32} {p : Program} {e : Env} {R : Room} {s : State} {m : MethodId} {args : Array Value} {below : List Frame} {meth : Method} {c : Code} {H : Heap} {locs : List Loc} {ls : Array Slot} {Q : State → Prop} (S : CallFix p m c b_Play_liarsChain 5 s args gtb R_Play) (hX : wX Z s) (hR : 2 ≤ R.frames ∧ 42 ≤ R.locals) (hQ : ∀ (pc : Nat) (H : Heap) (locs : List Loc) (ls : Array Slot), HW Z M s H locs → decode b_Play_liarsChain pc = .ok (.ireturn, 1) → W p l e R s m args below meth c H locs 0 0 Q (F0 m pc ls [.int r])) (hf0 : f_Play_liarsChain k M x1 = some r) (hH : HW Z M s H locs) (hl : lv_has ls 5 [(0, .ref (Z.2.2.1 k)), (1, .int x1)]) : W p l e R s m args below meth c H locs 0 0 Q (F0 m 0 ls []) := by
  have hx := S.1
  have hb := S.2.1
  have hown := S.2.2.2.1
  have ht := S.2.2.2.2
  unfold f_Play_liarsChain at hf0
  have J16 : ∀ (x1 : Int32) (x2 : Int32) (x3 : Int32) (x4 : Int32) (H : Heap) (locs : List Loc) (ls : Array Slot), f_Play_liarsChain_J16 k M x1 x2 x3 x4 = some r → HW Z M s H locs → lv_has ls 5 [(0, .ref (Z.2.2.1 k)), (1, .int x1), (2, .int x2), (3, .int x3), (4, .int x4)] → W p l e R s m args below meth c H locs 0 0 Q (F0 m 16 ls []) := by
    intro x1 x2 x3 x4 H locs ls hf0 hH hl
    unfold f_Play_liarsChain_J16 at hf0
    obtain ⟨e16, he16, hf0⟩ := o_b hf0
    unfold f_Play_liarsChain_W16 at he16
    refine loop_W (fun t => ∀ (H : Heap) (locs : List Loc) (ls : Array Slot), HW Z M s H locs → lv_has ls 5 [(0, .ref (Z.2.2.1 k)), (1, .int x1), (2, .int x2), (3, .int t.1), (4, .int t.2)] → W p l e R s m args below meth c H locs 0 0 Q (F0 m 16 ls [])) ?_ he16 H locs ls hH hl
    rintro ⟨x3, x4⟩ o1 hf1 hG1 hR1 H locs ls hH hl
    replace hH : HW Z M s H locs := hH
    replace hl : lv_has ls 5 [(0, .ref (Z.2.2.1 k)), (1, .int x1), (2, .int x2), (3, .int x3), (4, .int x4)] := hl
    replace hf1 : f_Play_liarsChain_L16 k M x1 x2 x3 x4 = some o1 := hf1
    unfold f_Play_liarsChain_L16 at hf1
    refine lv_iload hx hb d_Play_liarsChain_16 (lv_at hl 4 rfl) ?_
    refine lv_aload_n hx hb d_Play_liarsChain_18 rfl (lv_at hl 0 rfl) ?_
    refine g_Play_36 S hX hH hZ hk d_Play_liarsChain_19 ?_
    refine lv_icmp_ge (tgt := 61) hx hb d_Play_liarsChain_22 (by decide) (fun hc => ?_) (fun hc => ?_)
    · replace hf1 := o_t hc hf1
      refine lv_iload_n hx hb d_Play_liarsChain_61 rfl (lv_at hl 3 rfl) ?_
      obtain rfl := hR1 _ (o_v hf1).symm
      obtain rfl := o_v hf0
      exact hQ _ _ _ _ hH d_Play_liarsChain_62
    · replace hf1 := o_f hc hf1
      refine lv_aload_n hx hb d_Play_liarsChain_25 rfl (lv_at hl 0 rfl) ?_
      refine lv_iload hx hb d_Play_liarsChain_26 (lv_at hl 4 rfl) ?_
      refine q_cVi (As := [.int x4]) (rest := []) S hX hH (c_Play_isLiar l hI hZ k M x4 hk rfl) (cw_Play_101 S.2.2.2.2 (Nat.le_trans (Nat.le_of_ble_eq_true rfl) hR.1) (Nat.le_trans (Nat.le_of_ble_eq_true rfl) hR.2)) (rc_Play hX hH hZ hk) rfl hl.1 rfl (Nat.le_of_ble_eq_true rfl) d_Play_liarsChain_28 ⟨Nat.zero_le _, Nat.zero_le _⟩ (fun H locs hH => ?_)
      refine lv_if_eq (tgt := 55) hx hb d_Play_liarsChain_31 (by decide) (fun hc => ?_) (fun hc => ?_)
      · replace hf1 := o_t hc hf1
        refine lv_iinc (v := x4 + (1 : Int32)) (lv' := [(4, .int (x4 + (1 : Int32))), (0, .ref (Z.2.2.1 k)), (1, .int x1), (2, .int x2), (3, .int x3)]) hx hb d_Play_liarsChain_55 hl (k := 4) rfl rfl (by decide) rfl (fun ls hl => ?_)
        refine lv_goto (tgt := 16) hx hb d_Play_liarsChain_58 (by decide) ?_
        exact hG1 _ (o_v hf1).symm _ _ _ hH (lv_sub hl [1, 2, 3, 4, 0] rfl)
      · replace hf1 := o_f hc hf1
        refine lv_iload hx hb d_Play_liarsChain_34 (lv_at hl 4 rfl) ?_
        refine lv_iload_n hx hb d_Play_liarsChain_36 rfl (lv_at hl 2 rfl) ?_
        refine lv_icmp_eq (tgt := 55) hx hb d_Play_liarsChain_37 (by decide) (fun hc => ?_) (fun hc => ?_)
        · replace hf1 := o_t hc hf1
          refine lv_iinc (v := x4 + (1 : Int32)) (lv' := [(4, .int (x4 + (1 : Int32))), (0, .ref (Z.2.2.1 k)), (1, .int x1), (2, .int x2), (3, .int x3)]) hx hb d_Play_liarsChain_55 hl (k := 4) rfl rfl (by decide) rfl (fun ls hl => ?_)
          refine lv_goto (tgt := 16) hx hb d_Play_liarsChain_58 (by decide) ?_
          exact hG1 _ (o_v hf1).symm _ _ _ hH (lv_sub hl [1, 2, 3, 4, 0] rfl)
        · replace hf1 := o_f hc hf1
          refine lv_iload_n hx hb d_Play_liarsChain_40 rfl (lv_at hl 3 rfl) ?_
          refine q_cSi (As := [.int x3]) (rest := []) S hX hH (c_Chain_size l hI M x3 rfl) (cw_Play_104 S.2.2.2.2 (Nat.le_trans (Nat.le_of_ble_eq_true rfl) hR.1) (Nat.le_trans (Nat.le_of_ble_eq_true rfl) hR.2)) rfl hl.1 rfl (Nat.le_of_ble_eq_true rfl) d_Play_liarsChain_41 ⟨Nat.zero_le _, Nat.zero_le _⟩ (fun H locs hH => ?_)
          refine lv_iload_n hx hb d_Play_liarsChain_44 rfl (lv_at hl 1 rfl) ?_
          refine lv_icmp_ge (tgt := 55) hx hb d_Play_liarsChain_45 (by decide) (fun hc => ?_) (fun hc => ?_)
          · replace hf1 := o_t hc hf1
            refine lv_iinc (v := x4 + (1 : Int32)) (lv' := [(4, .int (x4 + (1 : Int32))), (0, .ref (Z.2.2.1 k)), (1, .int x1), (2, .int x2), (3, .int x3)]) hx hb d_Play_liarsChain_55 hl (k := 4) rfl rfl (by decide) rfl (fun ls hl => ?_)
            refine lv_goto (tgt := 16) hx hb d_Play_liarsChain_58 (by decide) ?_
            exact hG1 _ (o_v hf1).symm _ _ _ hH (lv_sub hl [1, 2, 3, 4, 0] rfl)
          · replace hf1 := o_f hc hf1
            refine lv_iload_n hx hb d_Play_liarsChain_48 rfl (lv_at hl 3 rfl) ?_
            refine lv_iload hx hb d_Play_liarsChain_49 (lv_at hl 4 rfl) ?_
            refine q_cSi (As := [.int x3, .int x4]) (rest := []) S hX hH (c_Chain_with l hI M x3 x4 rfl) (cw_Play_98 S.2.2.2.2 (Nat.le_trans (Nat.le_of_ble_eq_true rfl) hR.1) (Nat.le_trans (Nat.le_of_ble_eq_true rfl) hR.2)) rfl hl.1 rfl (Nat.le_of_ble_eq_true rfl) d_Play_liarsChain_51 ⟨Nat.zero_le _, Nat.zero_le _⟩ (fun H locs hH => ?_)
            refine lv_istore_n (lv' := [(3, .int (f_Chain_with x3 x4)), (0, .ref (Z.2.2.1 k)), (1, .int x1), (2, .int x2), (4, .int x4)]) hx hb d_Play_liarsChain_54 rfl hl (by decide) rfl (fun ls hl => ?_)
            refine lv_iinc (v := x4 + (1 : Int32)) (lv' := [(4, .int (x4 + (1 : Int32))), (3, .int (f_Chain_with x3 x4)), (0, .ref (Z.2.2.1 k)), (1, .int x1), (2, .int x2)]) hx hb d_Play_liarsChain_55 hl (k := 4) rfl rfl (by decide) rfl (fun ls hl => ?_)
            refine lv_goto (tgt := 16) hx hb d_Play_liarsChain_58 (by decide) ?_
            exact hG1 _ (o_v hf1).symm _ _ _ hH (lv_sub hl [2, 3, 4, 1, 0] rfl)
  refine lv_aload_n hx hb d_Play_liarsChain_0 rfl (lv_at hl 0 rfl) ?_
  refine g_Play_9 S hX hH hZ hk d_Play_liarsChain_1 ?_
  refine lv_iconst (v := (0 : Int32)) hx hb d_Play_liarsChain_4 (by decide) ?_
  refine q_iald (j := 0) hx hb hX hH (aa_Play_1 hZ hk) (vp_c (by decide)) (by decide) d_Play_liarsChain_5 ?_
  refine lv_istore_n (lv' := [(2, .int (M (k + 1) 0)), (0, .ref (Z.2.2.1 k)), (1, .int x1)]) hx hb d_Play_liarsChain_6 rfl hl (by decide) rfl (fun ls hl => ?_)
  refine lv_iconst (v := (0 : Int32)) hx hb d_Play_liarsChain_7 (by decide) ?_
  refine lv_iload_n hx hb d_Play_liarsChain_8 rfl (lv_at hl 0 rfl) ?_
  refine q_cSi (As := [.int (0 : Int32), .int (M (k + 1) 0)]) (rest := []) S hX hH (c_Chain_with l hI M (0 : Int32) (M (k + 1) 0) rfl) (cw_Play_98 S.2.2.2.2 (Nat.le_trans (Nat.le_of_ble_eq_true rfl) hR.1) (Nat.le_trans (Nat.le_of_ble_eq_true rfl) hR.2)) rfl hl.1 rfl (Nat.le_of_ble_eq_true rfl) d_Play_liarsChain_9 ⟨Nat.zero_le _, Nat.zero_le _⟩ (fun H locs hH => ?_)
  refine lv_istore_n (lv' := [(3, .int (f_Chain_with (0 : Int32) (M (k + 1) 0))), (2, .int (M (k + 1) 0)), (0, .ref (Z.2.2.1 k)), (1, .int x1)]) hx hb d_Play_liarsChain_12 rfl hl (by decide) rfl (fun ls hl => ?_)
  refine lv_iconst (v := (0 : Int32)) hx hb d_Play_liarsChain_13 (by decide) ?_
  refine lv_istore (lv' := [(4, .int (0 : Int32)), (3, .int (f_Chain_with (0 : Int32) (M (k + 1) 0))), (2, .int (M (k + 1) 0)), (0, .ref (Z.2.2.1 k)), (1, .int x1)]) hx hb d_Play_liarsChain_14 hl (by decide) rfl (fun ls hl => ?_)
  exact J16 _ _ _ _ _ _ _ hf0 hH (lv_sub hl [3, 4, 2, 1, 0] rfl)
theorem c_Play_liarsChain (l : Launch) {Z : WD} (hI : wI Z) (hZ : IsC Z) (k : Nat) (M : Mem) (x1 : Int32) (hk : isPlay k) {r : Int32} (hf : f_Play_liarsChain k M x1 = some r) : Ci l Z y_Play_liarsChain b_Play_liarsChain 5 (some .int) 2 42 [.ref (Z.2.2.1 k), .int x1] M M r := by
  refine Met.ofW (cc := b_Play_liarsChain) (maxL := 5) (ret := (some .int)) (by decide) rfl ?_
  intro p e s m args below meth c s₁ B hml hv
  obtain ⟨rfl, hP, hX⟩ := hv
  have S : CallFix p m c b_Play_liarsChain 5 s ([.ref (Z.2.2.1 k), .int x1] : List Value).toArray gtb R_Play := ⟨B.exec, B.bytes, hml, findClass_of_methodNamed B.named, fun w hw => atoms_spec (ws := .code y_Play_liarsChain b_Play_liarsChain 5 (some .int) :: gtb) B.pre w (List.mem_cons_of_mem _ hw)⟩
  have hl := lv_entry ([.ref (Z.2.2.1 k), .int x1]) (n := 5) (Nat.le_of_ble_eq_true rfl)
  rw [lg_entry_eq]
  exact wk_Play_liarsChain hI hZ k M x1 hk S hX ⟨Nat.le_refl _, Nat.le_refl _⟩ (fun pc H locs ls hH d => q_ri S.1 S.2.1 B.returns B.notSynchronized hH rfl rfl d) hf ⟨hP, va_S.rf⟩ hl
theorem cw_Play_92 {R : Room} {s : State} {args : Array Value} (ht : ∀ w ∈ gtb, w.before args s = true) (h1 : 1 + 1 ≤ R.frames) (h2 : 8 + (3 + 11) + 22 ≤ R.locals) : CallB R s args R_Play 92 y_Route_traded b_Route_traded 3 (some .int) (.code y_Route_traded b_Route_traded 3 (some .int) :: gtb) { frames := 1, cells := 0, slots := 0, locals := 22 } 0 0 3 ∧ (Cond.static y_Route_traded).before args s = true := va_cwS 3 ht (gS w3_160 w3_161 w1_7 w3_162) rfl rfl rfl ⟨by decide, by decide, by decide +kernel⟩ ⟨h1, h2⟩
theorem cw_Play_97 {R : Room} {s : State} {args : Array Value} (ht : ∀ w ∈ gtb, w.before args s = true) (h1 : 2 + 1 ≤ R.frames) (h2 : 8 + (5 + 11) + 42 ≤ R.locals) : CallB R s args R_Play 97 y_Chain_traded b_Chain_traded 5 (some .int) (.code y_Chain_traded b_Chain_traded 5 (some .int) :: gtb) { frames := 2, cells := 0, slots := 0, locals := 42 } 0 0 3 ∧ (Cond.static y_Chain_traded).before args s = true := va_cwS 3 ht (gS w3_168 w3_169 w1_6 w3_170) rfl rfl rfl ⟨by decide, by decide, by decide +kernel⟩ ⟨h1, h2⟩
theorem cw_Play_88 {R : Room} {s : State} {args : Array Value} (ht : ∀ w ∈ gtb, w.before args s = true) (hn : ∀ q ∈ nestRefs, va_Nw (.methodLinkNest q.1 q.2.1 q.2.2.1 q.2.2.2) s) (h1 : 0 + 1 ≤ R.frames) (h2 : 8 + (3 + 11) + 0 ≤ R.locals) : va_CN R s args R_Play 88 y_MC_swapped R_MC b_MC_swapped 3 (some .int) (.code y_MC_swapped b_MC_swapped 3 (some .int) :: gtb) { frames := 0, cells := 0, slots := 0, locals := 0 } 0 0 3 ∧ (Cond.static y_MC_swapped).before args s = true ∧ True := ⟨va_cnB 3 ht (gN w3_159) rfl rfl rfl (hn ("MarkedChains$Play", 88, y_MC_swapped, "MarkedChains") (by decide)) (ht _ w1_1) ⟨by decide, by decide, by decide +kernel⟩ ⟨h1, h2⟩, ht _ w3_158, trivial⟩
noncomputable def f_Play_swap_L145 (k : Nat) (x1 : Int32) (x2 : Int32) (x4 : Int32) (M : Mem) : Option ((Int32 × Mem) ⊕ Mem) := if (M k 4) ≤ x4 then some (.inr M) else 
    gIn x4 12 (lt1 (upM M (k + 6) x4.toNatClampNeg (f_Route_traded (M (k + 6) x4.toNatClampNeg) x1 x2)) (fun M2 => some (.inl (x4 + (1 : Int32), M2))))
noncomputable def f_Play_swap_W145 (k : Nat) (x1 : Int32) (x2 : Int32) (u : (Int32 × Mem)) : Option Mem := loop (fun t => f_Play_swap_L145 k x1 x2 t.1 t.2) u
noncomputable def f_Play_swap_J145 (k : Nat) (M : Mem) (x1 : Int32) (x2 : Int32) (x4 : Int32) : Option (Mem) := bnd (f_Play_swap_W145 k x1 x2 (x4, M)) (fun e145 => some e145)
noncomputable def f_Play_swap_L108 (k : Nat) (x1 : Int32) (x2 : Int32) (x4 : Int32) (M : Mem) : Option ((Int32 × Mem) ⊕ Mem) := if (M k 3) ≤ x4 then some (.inr M) else 
    gIn x4 12 (lt1 (upM M (k + 5) x4.toNatClampNeg (f_Route_traded (M (k + 5) x4.toNatClampNeg) x1 x2)) (fun M4 => some (.inl (x4 + (1 : Int32), M4))))
noncomputable def f_Play_swap_W108 (k : Nat) (x1 : Int32) (x2 : Int32) (u : (Int32 × Mem)) : Option Mem := loop (fun t => f_Play_swap_L108 k x1 x2 t.1 t.2) u
noncomputable def f_Play_swap_J108 (k : Nat) (M : Mem) (x1 : Int32) (x2 : Int32) (x4 : Int32) : Option (Mem) := bnd (f_Play_swap_W108 k x1 x2 (x4, M)) (fun e108 => f_Play_swap_J145 k e108 x1 x2 (0 : Int32))
noncomputable def f_Play_swap_L52 (k : Nat) (x1 : Int32) (x2 : Int32) (x4 : Int32) (M : Mem) : Option ((Int32 × Mem) ⊕ Mem) := if (M k 2) ≤ x4 then some (.inr M) else 
    gIn x4 16 (lt1 (upM M (k + 2) x4.toNatClampNeg (f_Route_traded (M (k + 2) x4.toNatClampNeg) x1 x2)) (fun M6 => 
    bnd (f_Chain_traded (M6 (k + 4) x4.toNatClampNeg) x1 x2) (fun y8 => lt1 (upM M6 (k + 4) x4.toNatClampNeg y8) (fun M9 => some (.inl (x4 + (1 : Int32), M9))))))
noncomputable def f_Play_swap_W52 (k : Nat) (x1 : Int32) (x2 : Int32) (u : (Int32 × Mem)) : Option Mem := loop (fun t => f_Play_swap_L52 k x1 x2 t.1 t.2) u
noncomputable def f_Play_swap_J52 (k : Nat) (M : Mem) (x1 : Int32) (x2 : Int32) (x4 : Int32) : Option (Mem) := bnd (f_Play_swap_W52 k x1 x2 (x4, M)) (fun e52 => f_Play_swap_J108 k e52 x1 x2 (0 : Int32))
noncomputable def f_Play_swap (k : Nat) (M : Mem) (x1 : Int32) (x2 : Int32) : Option Mem := 
    lt1 (upM M (k + 1) 0 (f_MC_swapped (M (k + 1) 0) x1 x2)) (fun M10 => 
    lt1 ((((M10 k 1) >>> (x1 &&& 31)) ^^^ ((M10 k 1) >>> (x2 &&& 31))) &&& (1 : Int32)) (fun y11 => lt1 (upM M10 k 1 ((M10 k 1) ^^^ ((y11 <<< (x1 &&& 31)) ||| (y11 <<< (x2 &&& 31))))) (fun M12 => f_Play_swap_J52 k M12 x1 x2 (0 : Int32))))
set_option maxHeartbeats 4000000 in
theorem wk_Play_swap {l : Launch} {Z : WD} (hI : wI Z) (hZ : IsC Z) (k : Nat) (M : Mem) (x1 : Int32) (x2 : Int32) (hk : isPlay k) {M' : Mem} {p : Program} {e : Env} {R : Room} {s : State} {m : MethodId} {args : Array Value} {below : List Frame} {meth : Method} {c : Code} {H : Heap} {locs : List Loc} {ls : Array Slot} {Q : State → Prop} (S : CallFix p m c b_Play_swap 5 s args gtb R_Play) (hX : wX Z s) (hR : 3 ≤ R.frames ∧ 66 ≤ R.locals) (hQ : ∀ (pc : Nat) (H : Heap) (locs : List Loc) (ls : Array Slot), HW Z M' s H locs → decode b_Play_swap pc = .ok (.return_, 1) → W p l e R s m args below meth c H locs 0 0 Q (F0 m pc ls [])) (hf0 : f_Play_swap k M x1 x2 = some M') (hH : HW Z M s H locs) (hl : lv_has ls 5 [(0, .ref (Z.2.2.1 k)), (1, .int x1), (2, .int x2)]) : W p l e R s m args below meth c H locs 0 0 Q (F0 m 0 ls []) := by
  have hx := S.1
  have hb := S.2.1
  have hown := S.2.2.2.1
  have ht := S.2.2.2.2
  unfold f_Play_swap at hf0
  have J145 : ∀ (M : Mem) (x1 : Int32) (x2 : Int32) (x4 : Int32) (H : Heap) (locs : List Loc) (ls : Array Slot), f_Play_swap_J145 k M x1 x2 x4 = some M' → HW Z M s H locs → lv_has ls 5 [(0, .ref (Z.2.2.1 k)), (1, .int x1), (2, .int x2), (4, .int x4)] → W p l e R s m args below meth c H locs 0 0 Q (F0 m 145 ls []) := by
    intro M x1 x2 x4 H locs ls hf0 hH hl
    unfold f_Play_swap_J145 at hf0
    obtain ⟨e145, he145, hf0⟩ := o_b hf0
    unfold f_Play_swap_W145 at he145
    refine loop_W (fun t => ∀ (H : Heap) (locs : List Loc) (ls : Array Slot), HW Z t.2 s H locs → lv_has ls 5 [(0, .ref (Z.2.2.1 k)), (1, .int x1), (2, .int x2), (4, .int t.1)] → W p l e R s m args below meth c H locs 0 0 Q (F0 m 145 ls [])) ?_ he145 H locs ls hH hl
    rintro ⟨x4, M⟩ o1 hf1 hG1 hR1 H locs ls hH hl
    replace hH : HW Z M s H locs := hH
    replace hl : lv_has ls 5 [(0, .ref (Z.2.2.1 k)), (1, .int x1), (2, .int x2), (4, .int x4)] := hl
    replace hf1 : f_Play_swap_L145 k x1 x2 x4 M = some o1 := hf1
    unfold f_Play_swap_L145 at hf1
    refine lv_iload hx hb d_Play_swap_145 (lv_at hl 3 rfl) ?_
    refine lv_aload_n hx hb d_Play_swap_147 rfl (lv_at hl 0 rfl) ?_
    refine g_Play_49 S hX hH hZ hk d_Play_swap_148 ?_
    refine lv_icmp_ge (tgt := 179) hx hb d_Play_swap_151 (by decide) (fun hc => ?_) (fun hc => ?_)
    · replace hf1 := o_t hc hf1
      obtain rfl := hR1 _ (o_v hf1).symm
      obtain rfl := o_v hf0
      exact hQ _ _ _ _ hH d_Play_swap_179
    · replace hf1 := o_f hc hf1
      refine lv_aload_n hx hb d_Play_swap_154 rfl (lv_at hl 0 rfl) ?_
      refine g_Play_27 S hX hH hZ hk d_Play_swap_155 ?_
      refine lv_iload hx hb d_Play_swap_158 (lv_at hl 3 rfl) ?_
      refine lv_aload_n hx hb d_Play_swap_160 rfl (lv_at hl 0 rfl) ?_
      refine g_Play_27 S hX hH hZ hk d_Play_swap_161 ?_
      refine lv_iload hx hb d_Play_swap_164 (lv_at hl 3 rfl) ?_
      obtain ⟨hn1, hf1⟩ := o_in hf1
      refine q_iald (j := x4.toNatClampNeg) hx hb hX hH (aa_Play_6 hZ hk) hn1 rfl d_Play_swap_166 ?_
      refine lv_iload_n hx hb d_Play_swap_167 rfl (lv_at hl 1 rfl) ?_
      refine lv_iload_n hx hb d_Play_swap_168 rfl (lv_at hl 2 rfl) ?_
      refine q_cSi (As := [.int (M (k + 6) x4.toNatClampNeg), .int x1, .int x2]) (rest := [.int x4, .ref (Z.2.2.1 (k + 6))]) S hX hH (c_Route_traded l hI M (M (k + 6) x4.toNatClampNeg) x1 x2 rfl) (cw_Play_92 S.2.2.2.2 (Nat.le_trans (Nat.le_of_ble_eq_true rfl) hR.1) (Nat.le_trans (Nat.le_of_ble_eq_true rfl) hR.2)) rfl hl.1 rfl (Nat.le_of_ble_eq_true rfl) d_Play_swap_169 ⟨Nat.zero_le _, Nat.zero_le _⟩ (fun H locs hH => ?_)
      obtain ⟨M2, hM2, hf1⟩ := o_l hf1
      refine q_iast (j := x4.toNatClampNeg) hx hb hX hI hH (aa_Play_6 hZ hk) hn1 rfl d_Play_swap_172 (fun H locs hH => ?_)
      rw [hM2] at hH
      refine lv_iinc (v := x4 + (1 : Int32)) (lv' := [(4, .int (x4 + (1 : Int32))), (0, .ref (Z.2.2.1 k)), (1, .int x1), (2, .int x2)]) hx hb d_Play_swap_173 hl (k := 3) rfl rfl (by decide) rfl (fun ls hl => ?_)
      refine lv_goto (tgt := 145) hx hb d_Play_swap_176 (by decide) ?_
      exact hG1 _ (o_v hf1).symm _ _ _ hH (lv_sub hl [1, 2, 3, 0] rfl)
  have J108 : ∀ (M : Mem) (x1 : Int32) (x2 : Int32) (x4 : Int32) (H : Heap) (locs : List Loc) (ls : Array Slot), f_Play_swap_J108 k M x1 x2 x4 = some M' → HW Z M s H locs → lv_has ls 5 [(0, .ref (Z.2.2.1 k)), (1, .int x1), (2, .int x2), (4, .int x4)] → W p l e R s m args below meth c H locs 0 0 Q (F0 m 108 ls []) := by
    intro M x1 x2 x4 H locs ls hf0 hH hl
    unfold f_Play_swap_J108 at hf0
    obtain ⟨e108, he108, hf0⟩ := o_b hf0
    have KX108 : ∀ (H : Heap) (locs : List Loc) (ls : Array Slot), HW Z e108 s H locs → lv_has ls 5 [(0, .ref (Z.2.2.1 k)), (1, .int x1), (2, .int x2)] → W p l e R s m args below meth c H locs 0 0 Q (F0 m 142 ls []) := by
      intro H locs ls hH hl
      refine lv_iconst (v := (0 : Int32)) hx hb d_Play_swap_142 (by decide) ?_
      refine lv_istore (lv' := [(4, .int (0 : Int32)), (0, .ref (Z.2.2.1 k)), (1, .int x1), (2, .int x2)]) hx hb d_Play_swap_143 hl (by decide) rfl (fun ls hl => ?_)
      exact J145 _ _ _ _ _ _ _ hf0 hH (lv_sub hl [1, 2, 3, 0] rfl)
    unfold f_Play_swap_W108 at he108
    refine loop_W (fun t => ∀ (H : Heap) (locs : List Loc) (ls : Array Slot), HW Z t.2 s H locs → lv_has ls 5 [(0, .ref (Z.2.2.1 k)), (1, .int x1), (2, .int x2), (4, .int t.1)] → W p l e R s m args below meth c H locs 0 0 Q (F0 m 108 ls [])) ?_ he108 H locs ls hH hl
    rintro ⟨x4, M⟩ o1 hf1 hG1 hR1 H locs ls hH hl
    replace hH : HW Z M s H locs := hH
    replace hl : lv_has ls 5 [(0, .ref (Z.2.2.1 k)), (1, .int x1), (2, .int x2), (4, .int x4)] := hl
    replace hf1 : f_Play_swap_L108 k x1 x2 x4 M = some o1 := hf1
    unfold f_Play_swap_L108 at hf1
    refine lv_iload hx hb d_Play_swap_108 (lv_at hl 3 rfl) ?_
    refine lv_aload_n hx hb d_Play_swap_110 rfl (lv_at hl 0 rfl) ?_
    refine g_Play_46 S hX hH hZ hk d_Play_swap_111 ?_
    refine lv_icmp_ge (tgt := 142) hx hb d_Play_swap_114 (by decide) (fun hc => ?_) (fun hc => ?_)
    · replace hf1 := o_t hc hf1
      obtain rfl := hR1 _ (o_v hf1).symm
      exact KX108 _ _ _ hH (lv_sub hl [0, 1, 2] rfl)
    · replace hf1 := o_f hc hf1
      refine lv_aload_n hx hb d_Play_swap_117 rfl (lv_at hl 0 rfl) ?_
      refine g_Play_24 S hX hH hZ hk d_Play_swap_118 ?_
      refine lv_iload hx hb d_Play_swap_121 (lv_at hl 3 rfl) ?_
      refine lv_aload_n hx hb d_Play_swap_123 rfl (lv_at hl 0 rfl) ?_
      refine g_Play_24 S hX hH hZ hk d_Play_swap_124 ?_
      refine lv_iload hx hb d_Play_swap_127 (lv_at hl 3 rfl) ?_
      obtain ⟨hn3, hf1⟩ := o_in hf1
      refine q_iald (j := x4.toNatClampNeg) hx hb hX hH (aa_Play_5 hZ hk) hn3 rfl d_Play_swap_129 ?_
      refine lv_iload_n hx hb d_Play_swap_130 rfl (lv_at hl 1 rfl) ?_
      refine lv_iload_n hx hb d_Play_swap_131 rfl (lv_at hl 2 rfl) ?_
      refine q_cSi (As := [.int (M (k + 5) x4.toNatClampNeg), .int x1, .int x2]) (rest := [.int x4, .ref (Z.2.2.1 (k + 5))]) S hX hH (c_Route_traded l hI M (M (k + 5) x4.toNatClampNeg) x1 x2 rfl) (cw_Play_92 S.2.2.2.2 (Nat.le_trans (Nat.le_of_ble_eq_true rfl) hR.1) (Nat.le_trans (Nat.le_of_ble_eq_true rfl) hR.2)) rfl hl.1 rfl (Nat.le_of_ble_eq_true rfl) d_Play_swap_132 ⟨Nat.zero_le _, Nat.zero_le _⟩ (fun H locs hH => ?_)
      obtain ⟨M4, hM4, hf1⟩ := o_l hf1
      refine q_iast (j := x4.toNatClampNeg) hx hb hX hI hH (aa_Play_5 hZ hk) hn3 rfl d_Play_swap_135 (fun H locs hH => ?_)
      rw [hM4] at hH
      refine lv_iinc (v := x4 + (1 : Int32)) (lv' := [(4, .int (x4 + (1 : Int32))), (0, .ref (Z.2.2.1 k)), (1, .int x1), (2, .int x2)]) hx hb d_Play_swap_136 hl (k := 3) rfl rfl (by decide) rfl (fun ls hl => ?_)
      refine lv_goto (tgt := 108) hx hb d_Play_swap_139 (by decide) ?_
      exact hG1 _ (o_v hf1).symm _ _ _ hH (lv_sub hl [1, 2, 3, 0] rfl)
  have J52 : ∀ (M : Mem) (x1 : Int32) (x2 : Int32) (x4 : Int32) (H : Heap) (locs : List Loc) (ls : Array Slot), f_Play_swap_J52 k M x1 x2 x4 = some M' → HW Z M s H locs → lv_has ls 5 [(0, .ref (Z.2.2.1 k)), (1, .int x1), (2, .int x2), (4, .int x4)] → W p l e R s m args below meth c H locs 0 0 Q (F0 m 52 ls []) := by
    intro M x1 x2 x4 H locs ls hf0 hH hl
    unfold f_Play_swap_J52 at hf0
    obtain ⟨e52, he52, hf0⟩ := o_b hf0
    have KX52 : ∀ (H : Heap) (locs : List Loc) (ls : Array Slot), HW Z e52 s H locs → lv_has ls 5 [(0, .ref (Z.2.2.1 k)), (1, .int x1), (2, .int x2)] → W p l e R s m args below meth c H locs 0 0 Q (F0 m 105 ls []) := by
      intro H locs ls hH hl
      refine lv_iconst (v := (0 : Int32)) hx hb d_Play_swap_105 (by decide) ?_
      refine lv_istore (lv' := [(4, .int (0 : Int32)), (0, .ref (Z.2.2.1 k)), (1, .int x1), (2, .int x2)]) hx hb d_Play_swap_106 hl (by decide) rfl (fun ls hl => ?_)
      exact J108 _ _ _ _ _ _ _ hf0 hH (lv_sub hl [1, 2, 3, 0] rfl)
    unfold f_Play_swap_W52 at he52
    refine loop_W (fun t => ∀ (H : Heap) (locs : List Loc) (ls : Array Slot), HW Z t.2 s H locs → lv_has ls 5 [(0, .ref (Z.2.2.1 k)), (1, .int x1), (2, .int x2), (4, .int t.1)] → W p l e R s m args below meth c H locs 0 0 Q (F0 m 52 ls [])) ?_ he52 H locs ls hH hl
    rintro ⟨x4, M⟩ o1 hf1 hG1 hR1 H locs ls hH hl
    replace hH : HW Z M s H locs := hH
    replace hl : lv_has ls 5 [(0, .ref (Z.2.2.1 k)), (1, .int x1), (2, .int x2), (4, .int x4)] := hl
    replace hf1 : f_Play_swap_L52 k x1 x2 x4 M = some o1 := hf1
    unfold f_Play_swap_L52 at hf1
    refine lv_iload hx hb d_Play_swap_52 (lv_at hl 3 rfl) ?_
    refine lv_aload_n hx hb d_Play_swap_54 rfl (lv_at hl 0 rfl) ?_
    refine g_Play_43 S hX hH hZ hk d_Play_swap_55 ?_
    refine lv_icmp_ge (tgt := 105) hx hb d_Play_swap_58 (by decide) (fun hc => ?_) (fun hc => ?_)
    · replace hf1 := o_t hc hf1
      obtain rfl := hR1 _ (o_v hf1).symm
      exact KX52 _ _ _ hH (lv_sub hl [0, 1, 2] rfl)
    · replace hf1 := o_f hc hf1
      refine lv_aload_n hx hb d_Play_swap_61 rfl (lv_at hl 0 rfl) ?_
      refine g_Play_15 S hX hH hZ hk d_Play_swap_62 ?_
      refine lv_iload hx hb d_Play_swap_65 (lv_at hl 3 rfl) ?_
      refine lv_aload_n hx hb d_Play_swap_67 rfl (lv_at hl 0 rfl) ?_
      refine g_Play_15 S hX hH hZ hk d_Play_swap_68 ?_
      refine lv_iload hx hb d_Play_swap_71 (lv_at hl 3 rfl) ?_
      obtain ⟨hn5, hf1⟩ := o_in hf1
      refine q_iald (j := x4.toNatClampNeg) hx hb hX hH (aa_Play_2 hZ hk) hn5 rfl d_Play_swap_73 ?_
      refine lv_iload_n hx hb d_Play_swap_74 rfl (lv_at hl 1 rfl) ?_
      refine lv_iload_n hx hb d_Play_swap_75 rfl (lv_at hl 2 rfl) ?_
      refine q_cSi (As := [.int (M (k + 2) x4.toNatClampNeg), .int x1, .int x2]) (rest := [.int x4, .ref (Z.2.2.1 (k + 2))]) S hX hH (c_Route_traded l hI M (M (k + 2) x4.toNatClampNeg) x1 x2 rfl) (cw_Play_92 S.2.2.2.2 (Nat.le_trans (Nat.le_of_ble_eq_true rfl) hR.1) (Nat.le_trans (Nat.le_of_ble_eq_true rfl) hR.2)) rfl hl.1 rfl (Nat.le_of_ble_eq_true rfl) d_Play_swap_76 ⟨Nat.zero_le _, Nat.zero_le _⟩ (fun H locs hH => ?_)
      obtain ⟨M6, hM6, hf1⟩ := o_l hf1
      refine q_iast (j := x4.toNatClampNeg) hx hb hX hI hH (aa_Play_2 hZ hk) hn5 rfl d_Play_swap_79 (fun H locs hH => ?_)
      rw [hM6] at hH
      refine lv_aload_n hx hb d_Play_swap_80 rfl (lv_at hl 0 rfl) ?_
      refine g_Play_21 S hX hH hZ hk d_Play_swap_81 ?_
      refine lv_iload hx hb d_Play_swap_84 (lv_at hl 3 rfl) ?_
      refine lv_aload_n hx hb d_Play_swap_86 rfl (lv_at hl 0 rfl) ?_
      refine g_Play_21 S hX hH hZ hk d_Play_swap_87 ?_
      refine lv_iload hx hb d_Play_swap_90 (lv_at hl 3 rfl) ?_
      refine q_iald (j := x4.toNatClampNeg) hx hb hX hH (aa_Play_4 hZ hk) hn5 rfl d_Play_swap_92 ?_
      refine lv_iload_n hx hb d_Play_swap_93 rfl (lv_at hl 1 rfl) ?_
      refine lv_iload_n hx hb d_Play_swap_94 rfl (lv_at hl 2 rfl) ?_
      obtain ⟨y8, hc7, hf1⟩ := o_b hf1
      refine q_cSi (As := [.int (M6 (k + 4) x4.toNatClampNeg), .int x1, .int x2]) (rest := [.int x4, .ref (Z.2.2.1 (k + 4))]) S hX hH (c_Chain_traded l hI M6 (M6 (k + 4) x4.toNatClampNeg) x1 x2 hc7) (cw_Play_97 S.2.2.2.2 (Nat.le_trans (Nat.le_of_ble_eq_true rfl) hR.1) (Nat.le_trans (Nat.le_of_ble_eq_true rfl) hR.2)) rfl hl.1 rfl (Nat.le_of_ble_eq_true rfl) d_Play_swap_95 ⟨Nat.zero_le _, Nat.zero_le _⟩ (fun H locs hH => ?_)
      obtain ⟨M9, hM9, hf1⟩ := o_l hf1
      refine q_iast (j := x4.toNatClampNeg) hx hb hX hI hH (aa_Play_4 hZ hk) hn5 rfl d_Play_swap_98 (fun H locs hH => ?_)
      rw [hM9] at hH
      refine lv_iinc (v := x4 + (1 : Int32)) (lv' := [(4, .int (x4 + (1 : Int32))), (0, .ref (Z.2.2.1 k)), (1, .int x1), (2, .int x2)]) hx hb d_Play_swap_99 hl (k := 3) rfl rfl (by decide) rfl (fun ls hl => ?_)
      refine lv_goto (tgt := 52) hx hb d_Play_swap_102 (by decide) ?_
      exact hG1 _ (o_v hf1).symm _ _ _ hH (lv_sub hl [1, 2, 3, 0] rfl)
  refine lv_aload_n hx hb d_Play_swap_0 rfl (lv_at hl 0 rfl) ?_
  refine g_Play_9 S hX hH hZ hk d_Play_swap_1 ?_
  refine lv_iconst (v := (0 : Int32)) hx hb d_Play_swap_4 (by decide) ?_
  refine lv_aload_n hx hb d_Play_swap_5 rfl (lv_at hl 0 rfl) ?_
  refine g_Play_9 S hX hH hZ hk d_Play_swap_6 ?_
  refine lv_iconst (v := (0 : Int32)) hx hb d_Play_swap_9 (by decide) ?_
  refine q_iald (j := 0) hx hb hX hH (aa_Play_1 hZ hk) (vp_c (by decide)) (by decide) d_Play_swap_10 ?_
  refine lv_iload_n hx hb d_Play_swap_11 rfl (lv_at hl 1 rfl) ?_
  refine lv_iload_n hx hb d_Play_swap_12 rfl (lv_at hl 2 rfl) ?_
  refine q_cNi (As := [.int (M (k + 1) 0), .int x1, .int x2]) (rest := [.int (0 : Int32), .ref (Z.2.2.1 (k + 1))]) S hX hH (c_MC_swapped l hI M (M (k + 1) 0) x1 x2 rfl) (cw_Play_88 S.2.2.2.2 hX.2.1 (Nat.le_trans (Nat.le_of_ble_eq_true rfl) hR.1) (Nat.le_trans (Nat.le_of_ble_eq_true rfl) hR.2)) rfl hl.1 rfl (Nat.le_of_ble_eq_true rfl) d_Play_swap_13 ⟨Nat.zero_le _, Nat.zero_le _⟩ (fun H locs hH => ?_)
  obtain ⟨M10, hM10, hf0⟩ := o_l hf0
  refine q_iast (j := 0) hx hb hX hI hH (aa_Play_1 hZ hk) (vp_c (by decide)) (by decide) d_Play_swap_16 (fun H locs hH => ?_)
  rw [hM10] at hH
  refine lv_aload_n hx hb d_Play_swap_17 rfl (lv_at hl 0 rfl) ?_
  refine g_Play_40 S hX hH hZ hk d_Play_swap_18 ?_
  refine lv_iload_n hx hb d_Play_swap_21 rfl (lv_at hl 1 rfl) ?_
  refine lv_ishr hx hb d_Play_swap_22 ?_
  refine lv_aload_n hx hb d_Play_swap_23 rfl (lv_at hl 0 rfl) ?_
  refine g_Play_40 S hX hH hZ hk d_Play_swap_24 ?_
  refine lv_iload_n hx hb d_Play_swap_27 rfl (lv_at hl 2 rfl) ?_
  refine lv_ishr hx hb d_Play_swap_28 ?_
  refine lv_ixor hx hb d_Play_swap_29 ?_
  refine lv_iconst (v := (1 : Int32)) hx hb d_Play_swap_30 (by decide) ?_
  refine lv_iand hx hb d_Play_swap_31 ?_
  obtain ⟨y11, hy11, hf0⟩ := o_l hf0
  refine lv_nm hy11 ?_
  refine lv_istore_n (lv' := [(3, .int y11), (0, .ref (Z.2.2.1 k)), (1, .int x1), (2, .int x2)]) hx hb d_Play_swap_32 rfl hl (by decide) rfl (fun ls hl => ?_)
  refine lv_aload_n hx hb d_Play_swap_33 rfl (lv_at hl 1 rfl) ?_
  refine lv_dup hx hb d_Play_swap_34 rfl ?_
  refine g_Play_40 S hX hH hZ hk d_Play_swap_35 ?_
  refine lv_iload_n hx hb d_Play_swap_38 rfl (lv_at hl 0 rfl) ?_
  refine lv_iload_n hx hb d_Play_swap_39 rfl (lv_at hl 2 rfl) ?_
  refine lv_ishl hx hb d_Play_swap_40 ?_
  refine lv_iload_n hx hb d_Play_swap_41 rfl (lv_at hl 0 rfl) ?_
  refine lv_iload_n hx hb d_Play_swap_42 rfl (lv_at hl 3 rfl) ?_
  refine lv_ishl hx hb d_Play_swap_43 ?_
  refine lv_ior hx hb d_Play_swap_44 ?_
  refine lv_ixor hx hb d_Play_swap_45 ?_
  obtain ⟨M12, hM12, hf0⟩ := o_l hf0
  refine s_Play_40 S hX hI hH hZ hk d_Play_swap_46 (fun H locs hH => ?_)
  rw [hM12] at hH
  refine lv_iconst (v := (0 : Int32)) hx hb d_Play_swap_49 (by decide) ?_
  refine lv_istore (lv' := [(4, .int (0 : Int32)), (3, .int y11), (0, .ref (Z.2.2.1 k)), (1, .int x1), (2, .int x2)]) hx hb d_Play_swap_50 hl (by decide) rfl (fun ls hl => ?_)
  exact J52 _ _ _ _ _ _ _ hf0 hH (lv_sub hl [2, 3, 4, 0] rfl)
theorem c_Play_swap (l : Launch) {Z : WD} (hI : wI Z) (hZ : IsC Z) (k : Nat) (M : Mem) (x1 : Int32) (x2 : Int32) (hk : isPlay k) {M' : Mem} (hf : f_Play_swap k M x1 x2 = some M') : Cv l Z y_Play_swap b_Play_swap 5 none 3 66 [.ref (Z.2.2.1 k), .int x1, .int x2] M M' := by
  refine Met.ofW (cc := b_Play_swap) (maxL := 5) (ret := none) (by decide) rfl ?_
  intro p e s m args below meth c s₁ B hml hv
  obtain ⟨rfl, hP, hX⟩ := hv
  have S : CallFix p m c b_Play_swap 5 s ([.ref (Z.2.2.1 k), .int x1, .int x2] : List Value).toArray gtb R_Play := ⟨B.exec, B.bytes, hml, findClass_of_methodNamed B.named, fun w hw => atoms_spec (ws := .code y_Play_swap b_Play_swap 5 none :: gtb) B.pre w (List.mem_cons_of_mem _ hw)⟩
  have hl := lv_entry ([.ref (Z.2.2.1 k), .int x1, .int x2]) (n := 5) (Nat.le_of_ble_eq_true rfl)
  rw [lg_entry_eq]
  exact wk_Play_swap hI hZ k M x1 x2 hk S hX ⟨Nat.le_refl _, Nat.le_refl _⟩ (fun pc H locs ls hH d => q_rv S.1 S.2.1 B.returns B.notSynchronized hH rfl d) hf ⟨hP, va_S.rf⟩ hl
theorem cw_Play_114 {R : Room} {s : State} {args : Array Value} (ht : ∀ w ∈ gtb, w.before args s = true) (h1 : 0 + 1 ≤ R.frames) (h2 : 8 + (1 + 11) + 0 ≤ R.locals) : CallB R s args R_Play 114 y_Route_fromOf b_Route_fromOf 1 (some .int) (.code y_Route_fromOf b_Route_fromOf 1 (some .int) :: gtb) { frames := 0, cells := 0, slots := 0, locals := 0 } 0 0 1 ∧ (Cond.static y_Route_fromOf).before args s = true := va_cwS 1 ht (gS w4_43 w2_33 w1_7 w2_34) rfl rfl rfl ⟨by decide, by decide, by decide +kernel⟩ ⟨h1, h2⟩
theorem cw_Play_120 {R : Room} {s : State} {args : Array Value} (ht : ∀ w ∈ gtb, w.before args s = true) (h1 : 0 + 1 ≤ R.frames) (h2 : 8 + (1 + 11) + 0 ≤ R.locals) : CallB R s args R_Play 120 y_Route_roundOf b_Route_roundOf 1 (some .int) (.code y_Route_roundOf b_Route_roundOf 1 (some .int) :: gtb) { frames := 0, cells := 0, slots := 0, locals := 0 } 0 0 1 ∧ (Cond.static y_Route_roundOf).before args s = true := va_cwS 1 ht (gS w4_42 w2_18 w1_7 w2_19) rfl rfl rfl ⟨by decide, by decide, by decide +kernel⟩ ⟨h1, h2⟩
noncomputable def f_Play_idlePlans_J56 (k : Nat) (M : Mem) (x1 : Int32) (x2 : Int32) : Option ((Int32 × Int32) ⊕ Int32) := some (.inl (x1 ||| ((1 : Int32) <<< (x2 &&& 31)), x2 + (1 : Int32)))
noncomputable def f_Play_idlePlans_J35 (k : Nat) (M : Mem) (x1 : Int32) (x2 : Int32) (s0 : Int32) : Option ((Int32 × Int32) ⊕ Int32) := if s0 = 0 then 
    gIn x2 16 (if (bI (f_Play_isLiar k M (f_Route_fromOf (M (k + 2) x2.toNatClampNeg)))) = 0 then f_Play_idlePlans_J56 k M x1 x2 else some (.inl (x1, x2 + (1 : Int32)))) else f_Play_idlePlans_J56 k M x1 x2
noncomputable def f_Play_idlePlans_L4 (k : Nat) (M : Mem) (x1 : Int32) (x2 : Int32) : Option ((Int32 × Int32) ⊕ Int32) := if (M k 2) ≤ x2 then some (.inr x1) else 
    gIn x2 16 (if (f_Route_roundOf (M (k + 2) x2.toNatClampNeg)) ≤ (M (k + 1) 2) then f_Play_idlePlans_J35 k M x1 x2 (0 : Int32) else f_Play_idlePlans_J35 k M x1 x2 (1 : Int32))
noncomputable def f_Play_idlePlans_W4 (k : Nat) (M : Mem) (u : (Int32 × Int32)) : Option Int32 := loop (fun t => f_Play_idlePlans_L4 k M t.1 t.2) u
noncomputable def f_Play_idlePlans_J4 (k : Nat) (M : Mem) (x1 : Int32) (x2 : Int32) : Option (Int32) := bnd (f_Play_idlePlans_W4 k M (x1, x2)) (fun e4 => some e4)
noncomputable def f_Play_idlePlans (k : Nat) (M : Mem) : Option Int32 := f_Play_idlePlans_J4 k M (0 : Int32) (0 : Int32)
set_option maxHeartbeats 4000000 in
theorem wk_Play_idlePlans {l : Launch} {Z : WD} (hI : wI Z) (hZ : IsC Z) (k : Nat) (M : Mem) (hk : isPlay k) {r : Int32} {p : Program} {e : Env} {R : Room} {s : State} {m : MethodId} {args : Array Value} {below : List Frame} {meth : Method} {c : Code} {H : Heap} {locs : List Loc} {ls : Array Slot} {Q : State → Prop} (S : CallFix p m c b_Play_idlePlans 4 s args gtb R_Play) (hX : wX Z s) (hR : 2 ≤ R.frames ∧ 42 ≤ R.locals) (hQ : ∀ (pc : Nat) (H : Heap) (locs : List Loc) (ls : Array Slot), HW Z M s H locs → decode b_Play_idlePlans pc = .ok (.ireturn, 1) → W p l e R s m args below meth c H locs 0 0 Q (F0 m pc ls [.int r])) (hf0 : f_Play_idlePlans k M = some r) (hH : HW Z M s H locs) (hl : lv_has ls 4 [(0, .ref (Z.2.2.1 k))]) : W p l e R s m args below meth c H locs 0 0 Q (F0 m 0 ls []) := by
  have hx := S.1
  have hb := S.2.1
  have hown := S.2.2.2.1
  have ht := S.2.2.2.2
  unfold f_Play_idlePlans at hf0
  have J4 : ∀ (x1 : Int32) (x2 : Int32) (H : Heap) (locs : List Loc) (ls : Array Slot), f_Play_idlePlans_J4 k M x1 x2 = some r → HW Z M s H locs → lv_has ls 4 [(0, .ref (Z.2.2.1 k)), (1, .int x1), (2, .int x2)] → W p l e R s m args below meth c H locs 0 0 Q (F0 m 4 ls []) := by
    intro x1 x2 H locs ls hf0 hH hl
    unfold f_Play_idlePlans_J4 at hf0
    obtain ⟨e4, he4, hf0⟩ := o_b hf0
    unfold f_Play_idlePlans_W4 at he4
    refine loop_W (fun t => ∀ (H : Heap) (locs : List Loc) (ls : Array Slot), HW Z M s H locs → lv_has ls 4 [(0, .ref (Z.2.2.1 k)), (1, .int t.1), (2, .int t.2)] → W p l e R s m args below meth c H locs 0 0 Q (F0 m 4 ls [])) ?_ he4 H locs ls hH hl
    rintro ⟨x1, x2⟩ o1 hf1 hG1 hR1 H locs ls hH hl
    replace hH : HW Z M s H locs := hH
    replace hl : lv_has ls 4 [(0, .ref (Z.2.2.1 k)), (1, .int x1), (2, .int x2)] := hl
    replace hf1 : f_Play_idlePlans_L4 k M x1 x2 = some o1 := hf1
    unfold f_Play_idlePlans_L4 at hf1
    have J56 : ∀ (x1 : Int32) (x2 : Int32) (H : Heap) (locs : List Loc) (ls : Array Slot), f_Play_idlePlans_J56 k M x1 x2 = some o1 → HW Z M s H locs → lv_has ls 4 [(0, .ref (Z.2.2.1 k)), (1, .int x1), (2, .int x2)] → W p l e R s m args below meth c H locs 0 0 Q (F0 m 56 ls []) := by
      intro x1 x2 H locs ls hf1 hH hl
      unfold f_Play_idlePlans_J56 at hf1
      refine lv_iload_n hx hb d_Play_idlePlans_56 rfl (lv_at hl 1 rfl) ?_
      refine lv_iconst (v := (1 : Int32)) hx hb d_Play_idlePlans_57 (by decide) ?_
      refine lv_iload_n hx hb d_Play_idlePlans_58 rfl (lv_at hl 2 rfl) ?_
      refine lv_ishl hx hb d_Play_idlePlans_59 ?_
      refine lv_ior hx hb d_Play_idlePlans_60 ?_
      refine lv_istore_n (lv' := [(1, .int (x1 ||| ((1 : Int32) <<< (x2 &&& 31)))), (0, .ref (Z.2.2.1 k)), (2, .int x2)]) hx hb d_Play_idlePlans_61 rfl hl (by decide) rfl (fun ls hl => ?_)
      refine lv_iinc (v := x2 + (1 : Int32)) (lv' := [(2, .int (x2 + (1 : Int32))), (1, .int (x1 ||| ((1 : Int32) <<< (x2 &&& 31)))), (0, .ref (Z.2.2.1 k))]) hx hb d_Play_idlePlans_62 hl (k := 2) rfl rfl (by decide) rfl (fun ls hl => ?_)
      refine lv_goto (tgt := 4) hx hb d_Play_idlePlans_65 (by decide) ?_
      exact hG1 _ (o_v hf1).symm _ _ _ hH (lv_sub hl [2, 1, 0] rfl)
    have J35 : ∀ (x1 : Int32) (x2 : Int32) (s0 : Int32) (H : Heap) (locs : List Loc) (ls : Array Slot), f_Play_idlePlans_J35 k M x1 x2 s0 = some o1 → HW Z M s H locs → lv_has ls 4 [(0, .ref (Z.2.2.1 k)), (1, .int x1), (2, .int x2)] → W p l e R s m args below meth c H locs 0 0 Q (F0 m 35 ls [.int s0]) := by
      intro x1 x2 s0 H locs ls hf1 hH hl
      unfold f_Play_idlePlans_J35 at hf1
      refine lv_istore_n (lv' := [(3, .int s0), (0, .ref (Z.2.2.1 k)), (1, .int x1), (2, .int x2)]) hx hb d_Play_idlePlans_35 rfl hl (by decide) rfl (fun ls hl => ?_)
      refine lv_iload_n hx hb d_Play_idlePlans_36 rfl (lv_at hl 0 rfl) ?_
      refine lv_if_ne (tgt := 56) hx hb d_Play_idlePlans_37 (by decide) (fun hc => ?_) (fun hc => ?_)
      · replace hf1 := o_f hc hf1
        exact J56 _ _ _ _ _ hf1 hH (lv_sub hl [1, 2, 3] rfl)
      · replace hf1 := o_t hc hf1
        refine lv_aload_n hx hb d_Play_idlePlans_40 rfl (lv_at hl 1 rfl) ?_
        refine lv_aload_n hx hb d_Play_idlePlans_41 rfl (lv_at hl 1 rfl) ?_
        refine g_Play_15 S hX hH hZ hk d_Play_idlePlans_42 ?_
        refine lv_iload_n hx hb d_Play_idlePlans_45 rfl (lv_at hl 3 rfl) ?_
        obtain ⟨hn1, hf1⟩ := o_in hf1
        refine q_iald (j := x2.toNatClampNeg) hx hb hX hH (aa_Play_2 hZ hk) hn1 rfl d_Play_idlePlans_46 ?_
        refine q_cSi (As := [.int (M (k + 2) x2.toNatClampNeg)]) (rest := [.ref (Z.2.2.1 k)]) S hX hH (c_Route_fromOf l hI M (M (k + 2) x2.toNatClampNeg) rfl) (cw_Play_114 S.2.2.2.2 (Nat.le_trans (Nat.le_of_ble_eq_true rfl) hR.1) (Nat.le_trans (Nat.le_of_ble_eq_true rfl) hR.2)) rfl hl.1 rfl (Nat.le_of_ble_eq_true rfl) d_Play_idlePlans_47 ⟨Nat.zero_le _, Nat.zero_le _⟩ (fun H locs hH => ?_)
        refine q_cVi (As := [.int (f_Route_fromOf (M (k + 2) x2.toNatClampNeg))]) (rest := []) S hX hH (c_Play_isLiar l hI hZ k M (f_Route_fromOf (M (k + 2) x2.toNatClampNeg)) hk rfl) (cw_Play_101 S.2.2.2.2 (Nat.le_trans (Nat.le_of_ble_eq_true rfl) hR.1) (Nat.le_trans (Nat.le_of_ble_eq_true rfl) hR.2)) (rc_Play hX hH hZ hk) rfl hl.1 rfl (Nat.le_of_ble_eq_true rfl) d_Play_idlePlans_50 ⟨Nat.zero_le _, Nat.zero_le _⟩ (fun H locs hH => ?_)
        refine lv_if_ne (tgt := 62) hx hb d_Play_idlePlans_53 (by decide) (fun hc => ?_) (fun hc => ?_)
        · replace hf1 := o_f hc hf1
          refine lv_iinc (v := x2 + (1 : Int32)) (lv' := [(2, .int (x2 + (1 : Int32))), (3, .int s0), (0, .ref (Z.2.2.1 k)), (1, .int x1)]) hx hb d_Play_idlePlans_62 hl (k := 3) rfl rfl (by decide) rfl (fun ls hl => ?_)
          refine lv_goto (tgt := 4) hx hb d_Play_idlePlans_65 (by decide) ?_
          exact hG1 _ (o_v hf1).symm _ _ _ hH (lv_sub hl [2, 3, 0] rfl)
        · replace hf1 := o_t hc hf1
          exact J56 _ _ _ _ _ hf1 hH (lv_sub hl [1, 2, 3] rfl)
    refine lv_iload_n hx hb d_Play_idlePlans_4 rfl (lv_at hl 2 rfl) ?_
    refine lv_aload_n hx hb d_Play_idlePlans_5 rfl (lv_at hl 0 rfl) ?_
    refine g_Play_43 S hX hH hZ hk d_Play_idlePlans_6 ?_
    refine lv_icmp_ge (tgt := 68) hx hb d_Play_idlePlans_9 (by decide) (fun hc => ?_) (fun hc => ?_)
    · replace hf1 := o_t hc hf1
      refine lv_iload_n hx hb d_Play_idlePlans_68 rfl (lv_at hl 1 rfl) ?_
      obtain rfl := hR1 _ (o_v hf1).symm
      obtain rfl := o_v hf0
      exact hQ _ _ _ _ hH d_Play_idlePlans_69
    · replace hf1 := o_f hc hf1
      refine lv_aload_n hx hb d_Play_idlePlans_12 rfl (lv_at hl 0 rfl) ?_
      refine g_Play_15 S hX hH hZ hk d_Play_idlePlans_13 ?_
      refine lv_iload_n hx hb d_Play_idlePlans_16 rfl (lv_at hl 2 rfl) ?_
      obtain ⟨hn2, hf1⟩ := o_in hf1
      refine q_iald (j := x2.toNatClampNeg) hx hb hX hH (aa_Play_2 hZ hk) hn2 rfl d_Play_idlePlans_17 ?_
      refine q_cSi (As := [.int (M (k + 2) x2.toNatClampNeg)]) (rest := []) S hX hH (c_Route_roundOf l hI M (M (k + 2) x2.toNatClampNeg) rfl) (cw_Play_120 S.2.2.2.2 (Nat.le_trans (Nat.le_of_ble_eq_true rfl) hR.1) (Nat.le_trans (Nat.le_of_ble_eq_true rfl) hR.2)) rfl hl.1 rfl (Nat.le_of_ble_eq_true rfl) d_Play_idlePlans_18 ⟨Nat.zero_le _, Nat.zero_le _⟩ (fun H locs hH => ?_)
      refine lv_aload_n hx hb d_Play_idlePlans_21 rfl (lv_at hl 0 rfl) ?_
      refine g_Play_9 S hX hH hZ hk d_Play_idlePlans_22 ?_
      refine lv_iconst (v := (2 : Int32)) hx hb d_Play_idlePlans_25 (by decide) ?_
      refine q_iald (j := 2) hx hb hX hH (aa_Play_1 hZ hk) (vp_c (by decide)) (by decide) d_Play_idlePlans_26 ?_
      refine lv_icmp_le (tgt := 34) hx hb d_Play_idlePlans_27 (by decide) (fun hc => ?_) (fun hc => ?_)
      · replace hf1 := o_t hc hf1
        refine lv_iconst (v := (0 : Int32)) hx hb d_Play_idlePlans_34 (by decide) ?_
        exact J35 _ _ _ _ _ _ hf1 hH (lv_sub hl [0, 1, 2] rfl)
      · replace hf1 := o_f hc hf1
        refine lv_iconst (v := (1 : Int32)) hx hb d_Play_idlePlans_30 (by decide) ?_
        refine lv_goto (tgt := 35) hx hb d_Play_idlePlans_31 (by decide) ?_
        exact J35 _ _ _ _ _ _ hf1 hH (lv_sub hl [0, 1, 2] rfl)
  refine lv_iconst (v := (0 : Int32)) hx hb d_Play_idlePlans_0 (by decide) ?_
  refine lv_istore_n (lv' := [(1, .int (0 : Int32)), (0, .ref (Z.2.2.1 k))]) hx hb d_Play_idlePlans_1 rfl hl (by decide) rfl (fun ls hl => ?_)
  refine lv_iconst (v := (0 : Int32)) hx hb d_Play_idlePlans_2 (by decide) ?_
  refine lv_istore_n (lv' := [(2, .int (0 : Int32)), (1, .int (0 : Int32)), (0, .ref (Z.2.2.1 k))]) hx hb d_Play_idlePlans_3 rfl hl (by decide) rfl (fun ls hl => ?_)
  exact J4 _ _ _ _ _ hf0 hH (lv_sub hl [2, 1, 0] rfl)
theorem c_Play_idlePlans (l : Launch) {Z : WD} (hI : wI Z) (hZ : IsC Z) (k : Nat) (M : Mem) (hk : isPlay k) {r : Int32} (hf : f_Play_idlePlans k M = some r) : Ci l Z y_Play_idlePlans b_Play_idlePlans 4 (some .int) 2 42 [.ref (Z.2.2.1 k)] M M r := by
  refine Met.ofW (cc := b_Play_idlePlans) (maxL := 4) (ret := (some .int)) (by decide) rfl ?_
  intro p e s m args below meth c s₁ B hml hv
  obtain ⟨rfl, hP, hX⟩ := hv
  have S : CallFix p m c b_Play_idlePlans 4 s ([.ref (Z.2.2.1 k)] : List Value).toArray gtb R_Play := ⟨B.exec, B.bytes, hml, findClass_of_methodNamed B.named, fun w hw => atoms_spec (ws := .code y_Play_idlePlans b_Play_idlePlans 4 (some .int) :: gtb) B.pre w (List.mem_cons_of_mem _ hw)⟩
  have hl := lv_entry ([.ref (Z.2.2.1 k)]) (n := 4) (Nat.le_of_ble_eq_true rfl)
  rw [lg_entry_eq]
  exact wk_Play_idlePlans hI hZ k M hk S hX ⟨Nat.le_refl _, Nat.le_refl _⟩ (fun pc H locs ls hH d => q_ri S.1 S.2.1 B.returns B.notSynchronized hH rfl rfl d) hf ⟨hP, va_S.rf⟩ hl
theorem cw_Play_117 {R : Room} {s : State} {args : Array Value} (ht : ∀ w ∈ gtb, w.before args s = true) (h1 : 0 + 1 ≤ R.frames) (h2 : 8 + (1 + 11) + 0 ≤ R.locals) : CallB R s args R_Play 117 y_Route_toOf b_Route_toOf 1 (some .int) (.code y_Route_toOf b_Route_toOf 1 (some .int) :: gtb) { frames := 0, cells := 0, slots := 0, locals := 0 } 0 0 1 ∧ (Cond.static y_Route_toOf).before args s = true := va_cwS 1 ht (gS w4_89 w2_54 w1_7 w2_55) rfl rfl rfl ⟨by decide, by decide, by decide +kernel⟩ ⟨h1, h2⟩
noncomputable def f_Play_endsOf (x0 : Int32) : Int32 := ((1 : Int32) <<< ((f_Route_fromOf x0) &&& 31)) ||| ((1 : Int32) <<< ((f_Route_toOf x0) &&& 31))
set_option maxHeartbeats 4000000 in
theorem wk_Play_endsOf {l : Launch} {Z : WD} (hI : wI Z) (M : Mem) (x0 : Int32) {r : Int32} {p : Program} {e : Env} {R : Room} {s : State} {m : MethodId} {args : Array Value} {below : List Frame} {meth : Method} {c : Code} {H : Heap} {locs : List Loc} {ls : Array Slot} {Q : State → Prop} (S : CallFix p m c b_Play_endsOf 1 s args gtb R_Play) (hX : wX Z s) (hR : 1 ≤ R.frames ∧ 20 ≤ R.locals) (hQ : ∀ (pc : Nat) (H : Heap) (locs : List Loc) (ls : Array Slot), HW Z M s H locs → decode b_Play_endsOf pc = .ok (.ireturn, 1) → W p l e R s m args below meth c H locs 0 0 Q (F0 m pc ls [.int r])) (hf0 : f_Play_endsOf x0 = r) (hH : HW Z M s H locs) (hl : lv_has ls 1 [(0, .int x0)]) : W p l e R s m args below meth c H locs 0 0 Q (F0 m 0 ls []) := by
  have hx := S.1
  have hb := S.2.1
  have hown := S.2.2.2.1
  have ht := S.2.2.2.2
  unfold f_Play_endsOf at hf0
  refine lv_iconst (v := (1 : Int32)) hx hb d_Play_endsOf_0 (by decide) ?_
  refine lv_iload_n hx hb d_Play_endsOf_1 rfl (lv_at hl 0 rfl) ?_
  refine q_cSi (As := [.int x0]) (rest := [.int (1 : Int32)]) S hX hH (c_Route_fromOf l hI M x0 rfl) (cw_Play_114 S.2.2.2.2 (Nat.le_trans (Nat.le_of_ble_eq_true rfl) hR.1) (Nat.le_trans (Nat.le_of_ble_eq_true rfl) hR.2)) rfl hl.1 rfl (Nat.le_of_ble_eq_true rfl) d_Play_endsOf_2 ⟨Nat.zero_le _, Nat.zero_le _⟩ (fun H locs hH => ?_)
  refine lv_ishl hx hb d_Play_endsOf_5 ?_
  refine lv_iconst (v := (1 : Int32)) hx hb d_Play_endsOf_6 (by decide) ?_
  refine lv_iload_n hx hb d_Play_endsOf_7 rfl (lv_at hl 0 rfl) ?_
  refine q_cSi (As := [.int x0]) (rest := [.int (1 : Int32), .int ((1 : Int32) <<< ((f_Route_fromOf x0) &&& 31))]) S hX hH (c_Route_toOf l hI M x0 rfl) (cw_Play_117 S.2.2.2.2 (Nat.le_trans (Nat.le_of_ble_eq_true rfl) hR.1) (Nat.le_trans (Nat.le_of_ble_eq_true rfl) hR.2)) rfl hl.1 rfl (Nat.le_of_ble_eq_true rfl) d_Play_endsOf_8 ⟨Nat.zero_le _, Nat.zero_le _⟩ (fun H locs hH => ?_)
  refine lv_ishl hx hb d_Play_endsOf_11 ?_
  refine lv_ior hx hb d_Play_endsOf_12 ?_
  subst hf0
  exact hQ _ _ _ _ hH d_Play_endsOf_13
theorem c_Play_endsOf (l : Launch) {Z : WD} (hI : wI Z) (M : Mem) (x0 : Int32) {r : Int32} (hf : f_Play_endsOf x0 = r) : Ci l Z y_Play_endsOf b_Play_endsOf 1 (some .int) 1 20 [.int x0] M M r := by
  refine Met.ofW (cc := b_Play_endsOf) (maxL := 1) (ret := (some .int)) (by decide) rfl ?_
  intro p e s m args below meth c s₁ B hml hv
  obtain ⟨rfl, hP, hX⟩ := hv
  have S : CallFix p m c b_Play_endsOf 1 s ([.int x0] : List Value).toArray gtb R_Play := ⟨B.exec, B.bytes, hml, findClass_of_methodNamed B.named, fun w hw => atoms_spec (ws := .code y_Play_endsOf b_Play_endsOf 1 (some .int) :: gtb) B.pre w (List.mem_cons_of_mem _ hw)⟩
  have hl := lv_entry ([.int x0]) (n := 1) (Nat.le_of_ble_eq_true rfl)
  rw [lg_entry_eq]
  exact wk_Play_endsOf hI M x0 S hX ⟨Nat.le_refl _, Nat.le_refl _⟩ (fun pc H locs ls hH d => q_ri S.1 S.2.1 B.returns B.notSynchronized hH rfl rfl d) hf ⟨hP, va_S.rf⟩ hl
theorem cw_Play_110 {R : Room} {s : State} {args : Array Value} (ht : ∀ w ∈ gtb, w.before args s = true) (h1 : 0 + 1 ≤ R.frames) (h2 : 8 + (1 + 11) + 0 ≤ R.locals) : CallW R s args R_Play R_Play 110 y_Play_honest b_Play_honest 1 (some .int) (.code y_Play_honest b_Play_honest 1 (some .int) :: gtb) { frames := 0, cells := 0, slots := 0, locals := 0 } 0 0 0 := cwV 0 ht (gV w4_90 w3_133 w3_134 w1_2 w3_135) rfl rfl rfl ⟨rfl, by decide, by decide, by decide +kernel⟩ ⟨h1, h2⟩
theorem cw_Play_107 {R : Room} {s : State} {args : Array Value} (ht : ∀ w ∈ gtb, w.before args s = true) (h1 : 1 + 1 ≤ R.frames) (h2 : 8 + (1 + 11) + 20 ≤ R.locals) : CallB R s args R_Play 107 y_Play_endsOf b_Play_endsOf 1 (some .int) (.code y_Play_endsOf b_Play_endsOf 1 (some .int) :: gtb) { frames := 1, cells := 0, slots := 0, locals := 20 } 0 0 1 ∧ (Cond.static y_Play_endsOf).before args s = true := va_cwS 1 ht (gS w4_86 w4_87 w1_2 w4_88) rfl rfl rfl ⟨by decide, by decide, by decide +kernel⟩ ⟨h1, h2⟩
noncomputable def f_Play_soundParties_L32 (k : Nat) (M : Mem) (x1 : Int32) (x2 : Int32) : Option ((Int32 × Int32) ⊕ Int32) := if (M k 4) ≤ x2 then some (.inr ((f_Play_honest k M) &&& (x1 ^^^ (-1 : Int32)))) else gIn x2 12 (some (.inl (x1 ||| (f_Play_endsOf (M (k + 6) x2.toNatClampNeg)), x2 + (1 : Int32))))
noncomputable def f_Play_soundParties_W32 (k : Nat) (M : Mem) (u : (Int32 × Int32)) : Option Int32 := loop (fun t => f_Play_soundParties_L32 k M t.1 t.2) u
noncomputable def f_Play_soundParties_J32 (k : Nat) (M : Mem) (x1 : Int32) (x2 : Int32) : Option (Int32) := bnd (f_Play_soundParties_W32 k M (x1, x2)) (fun e32 => some e32)
noncomputable def f_Play_soundParties_L4 (k : Nat) (M : Mem) (x1 : Int32) (x2 : Int32) : Option ((Int32 × Int32) ⊕ Int32) := if (M k 3) ≤ x2 then some (.inr x1) else gIn x2 12 (some (.inl (x1 ||| (f_Play_endsOf (M (k + 5) x2.toNatClampNeg)), x2 + (1 : Int32))))
noncomputable def f_Play_soundParties_W4 (k : Nat) (M : Mem) (u : (Int32 × Int32)) : Option Int32 := loop (fun t => f_Play_soundParties_L4 k M t.1 t.2) u
noncomputable def f_Play_soundParties_J4 (k : Nat) (M : Mem) (x1 : Int32) (x2 : Int32) : Option (Int32) := bnd (f_Play_soundParties_W4 k M (x1, x2)) (fun e4 => f_Play_soundParties_J32 k M e4 (0 : Int32))
noncomputable def f_Play_soundParties (k : Nat) (M : Mem) : Option Int32 := f_Play_soundParties_J4 k M (0 : Int32) (0 : Int32)
set_option maxHeartbeats 4000000 in
theorem wk_Play_soundParties {l : Launch} {Z : WD} (hI : wI Z) (hZ : IsC Z) (k : Nat) (M : Mem) (hk : isPlay k) {r : Int32} {p : Program} {e : Env} {R : Room} {s : State} {m : MethodId} {args : Array Value} {below : List Frame} {meth : Method} {c : Code} {H : Heap} {locs : List Loc} {ls : Array Slot} {Q : State → Prop} (S : CallFix p m c b_Play_soundParties 3 s args gtb R_Play) (hX : wX Z s) (hR : 2 ≤ R.frames ∧ 40 ≤ R.locals) (hQ : ∀ (pc : Nat) (H : Heap) (locs : List Loc) (ls : Array Slot), HW Z M s H locs → decode b_Play_soundParties pc = .ok (.ireturn, 1) → W p l e R s m args below meth c H locs 0 0 Q (F0 m pc ls [.int r])) (hf0 : f_Play_soundParties k M = some r) (hH : HW Z M s H locs) (hl : lv_has ls 3 [(0, .ref (Z.2.2.1 k))]) : W p l e R s m args below meth c H locs 0 0 Q (F0 m 0 ls []) := by
  have hx := S.1
  have hb := S.2.1
  have hown := S.2.2.2.1
  have ht := S.2.2.2.2
  unfold f_Play_soundParties at hf0
  have J32 : ∀ (x1 : Int32) (x2 : Int32) (H : Heap) (locs : List Loc) (ls : Array Slot), f_Play_soundParties_J32 k M x1 x2 = some r → HW Z M s H locs → lv_has ls 3 [(0, .ref (Z.2.2.1 k)), (1, .int x1), (2, .int x2)] → W p l e R s m args below meth c H locs 0 0 Q (F0 m 32 ls []) := by
    intro x1 x2 H locs ls hf0 hH hl
    unfold f_Play_soundParties_J32 at hf0
    obtain ⟨e32, he32, hf0⟩ := o_b hf0
    unfold f_Play_soundParties_W32 at he32
    refine loop_W (fun t => ∀ (H : Heap) (locs : List Loc) (ls : Array Slot), HW Z M s H locs → lv_has ls 3 [(0, .ref (Z.2.2.1 k)), (1, .int t.1), (2, .int t.2)] → W p l e R s m args below meth c H locs 0 0 Q (F0 m 32 ls [])) ?_ he32 H locs ls hH hl
    rintro ⟨x1, x2⟩ o1 hf1 hG1 hR1 H locs ls hH hl
    replace hH : HW Z M s H locs := hH
    replace hl : lv_has ls 3 [(0, .ref (Z.2.2.1 k)), (1, .int x1), (2, .int x2)] := hl
    replace hf1 : f_Play_soundParties_L32 k M x1 x2 = some o1 := hf1
    unfold f_Play_soundParties_L32 at hf1
    refine lv_iload_n hx hb d_Play_soundParties_32 rfl (lv_at hl 2 rfl) ?_
    refine lv_aload_n hx hb d_Play_soundParties_33 rfl (lv_at hl 0 rfl) ?_
    refine g_Play_49 S hX hH hZ hk d_Play_soundParties_34 ?_
    refine lv_icmp_ge (tgt := 58) hx hb d_Play_soundParties_37 (by decide) (fun hc => ?_) (fun hc => ?_)
    · replace hf1 := o_t hc hf1
      refine lv_aload_n hx hb d_Play_soundParties_58 rfl (lv_at hl 0 rfl) ?_
      refine q_cVi (As := []) (rest := []) S hX hH (c_Play_honest l hI hZ k M hk rfl) (cw_Play_110 S.2.2.2.2 (Nat.le_trans (Nat.le_of_ble_eq_true rfl) hR.1) (Nat.le_trans (Nat.le_of_ble_eq_true rfl) hR.2)) (rc_Play hX hH hZ hk) rfl hl.1 rfl (Nat.le_of_ble_eq_true rfl) d_Play_soundParties_59 ⟨Nat.zero_le _, Nat.zero_le _⟩ (fun H locs hH => ?_)
      refine lv_iload_n hx hb d_Play_soundParties_62 rfl (lv_at hl 1 rfl) ?_
      refine lv_iconst (v := (-1 : Int32)) hx hb d_Play_soundParties_63 (by decide) ?_
      refine lv_ixor hx hb d_Play_soundParties_64 ?_
      refine lv_iand hx hb d_Play_soundParties_65 ?_
      obtain rfl := hR1 _ (o_v hf1).symm
      obtain rfl := o_v hf0
      exact hQ _ _ _ _ hH d_Play_soundParties_66
    · replace hf1 := o_f hc hf1
      refine lv_iload_n hx hb d_Play_soundParties_40 rfl (lv_at hl 1 rfl) ?_
      refine lv_aload_n hx hb d_Play_soundParties_41 rfl (lv_at hl 0 rfl) ?_
      refine g_Play_27 S hX hH hZ hk d_Play_soundParties_42 ?_
      refine lv_iload_n hx hb d_Play_soundParties_45 rfl (lv_at hl 2 rfl) ?_
      obtain ⟨hn1, hf1⟩ := o_in hf1
      refine q_iald (j := x2.toNatClampNeg) hx hb hX hH (aa_Play_6 hZ hk) hn1 rfl d_Play_soundParties_46 ?_
      refine q_cSi (As := [.int (M (k + 6) x2.toNatClampNeg)]) (rest := [.int x1]) S hX hH (c_Play_endsOf l hI M (M (k + 6) x2.toNatClampNeg) rfl) (cw_Play_107 S.2.2.2.2 (Nat.le_trans (Nat.le_of_ble_eq_true rfl) hR.1) (Nat.le_trans (Nat.le_of_ble_eq_true rfl) hR.2)) rfl hl.1 rfl (Nat.le_of_ble_eq_true rfl) d_Play_soundParties_47 ⟨Nat.zero_le _, Nat.zero_le _⟩ (fun H locs hH => ?_)
      refine lv_ior hx hb d_Play_soundParties_50 ?_
      refine lv_istore_n (lv' := [(1, .int (x1 ||| (f_Play_endsOf (M (k + 6) x2.toNatClampNeg)))), (0, .ref (Z.2.2.1 k)), (2, .int x2)]) hx hb d_Play_soundParties_51 rfl hl (by decide) rfl (fun ls hl => ?_)
      refine lv_iinc (v := x2 + (1 : Int32)) (lv' := [(2, .int (x2 + (1 : Int32))), (1, .int (x1 ||| (f_Play_endsOf (M (k + 6) x2.toNatClampNeg)))), (0, .ref (Z.2.2.1 k))]) hx hb d_Play_soundParties_52 hl (k := 2) rfl rfl (by decide) rfl (fun ls hl => ?_)
      refine lv_goto (tgt := 32) hx hb d_Play_soundParties_55 (by decide) ?_
      exact hG1 _ (o_v hf1).symm _ _ _ hH (lv_sub hl [2, 1, 0] rfl)
  have J4 : ∀ (x1 : Int32) (x2 : Int32) (H : Heap) (locs : List Loc) (ls : Array Slot), f_Play_soundParties_J4 k M x1 x2 = some r → HW Z M s H locs → lv_has ls 3 [(0, .ref (Z.2.2.1 k)), (1, .int x1), (2, .int x2)] → W p l e R s m args below meth c H locs 0 0 Q (F0 m 4 ls []) := by
    intro x1 x2 H locs ls hf0 hH hl
    unfold f_Play_soundParties_J4 at hf0
    obtain ⟨e4, he4, hf0⟩ := o_b hf0
    have KX4 : ∀ (H : Heap) (locs : List Loc) (ls : Array Slot), HW Z M s H locs → lv_has ls 3 [(0, .ref (Z.2.2.1 k)), (1, .int e4)] → W p l e R s m args below meth c H locs 0 0 Q (F0 m 30 ls []) := by
      intro H locs ls hH hl
      refine lv_iconst (v := (0 : Int32)) hx hb d_Play_soundParties_30 (by decide) ?_
      refine lv_istore_n (lv' := [(2, .int (0 : Int32)), (0, .ref (Z.2.2.1 k)), (1, .int e4)]) hx hb d_Play_soundParties_31 rfl hl (by decide) rfl (fun ls hl => ?_)
      exact J32 _ _ _ _ _ hf0 hH (lv_sub hl [1, 2, 0] rfl)
    unfold f_Play_soundParties_W4 at he4
    refine loop_W (fun t => ∀ (H : Heap) (locs : List Loc) (ls : Array Slot), HW Z M s H locs → lv_has ls 3 [(0, .ref (Z.2.2.1 k)), (1, .int t.1), (2, .int t.2)] → W p l e R s m args below meth c H locs 0 0 Q (F0 m 4 ls [])) ?_ he4 H locs ls hH hl
    rintro ⟨x1, x2⟩ o1 hf1 hG1 hR1 H locs ls hH hl
    replace hH : HW Z M s H locs := hH
    replace hl : lv_has ls 3 [(0, .ref (Z.2.2.1 k)), (1, .int x1), (2, .int x2)] := hl
    replace hf1 : f_Play_soundParties_L4 k M x1 x2 = some o1 := hf1
    unfold f_Play_soundParties_L4 at hf1
    refine lv_iload_n hx hb d_Play_soundParties_4 rfl (lv_at hl 2 rfl) ?_
    refine lv_aload_n hx hb d_Play_soundParties_5 rfl (lv_at hl 0 rfl) ?_
    refine g_Play_46 S hX hH hZ hk d_Play_soundParties_6 ?_
    refine lv_icmp_ge (tgt := 30) hx hb d_Play_soundParties_9 (by decide) (fun hc => ?_) (fun hc => ?_)
    · replace hf1 := o_t hc hf1
      obtain rfl := hR1 _ (o_v hf1).symm
      exact KX4 _ _ _ hH (lv_sub hl [0, 1] rfl)
    · replace hf1 := o_f hc hf1
      refine lv_iload_n hx hb d_Play_soundParties_12 rfl (lv_at hl 1 rfl) ?_
      refine lv_aload_n hx hb d_Play_soundParties_13 rfl (lv_at hl 0 rfl) ?_
      refine g_Play_24 S hX hH hZ hk d_Play_soundParties_14 ?_
      refine lv_iload_n hx hb d_Play_soundParties_17 rfl (lv_at hl 2 rfl) ?_
      obtain ⟨hn2, hf1⟩ := o_in hf1
      refine q_iald (j := x2.toNatClampNeg) hx hb hX hH (aa_Play_5 hZ hk) hn2 rfl d_Play_soundParties_18 ?_
      refine q_cSi (As := [.int (M (k + 5) x2.toNatClampNeg)]) (rest := [.int x1]) S hX hH (c_Play_endsOf l hI M (M (k + 5) x2.toNatClampNeg) rfl) (cw_Play_107 S.2.2.2.2 (Nat.le_trans (Nat.le_of_ble_eq_true rfl) hR.1) (Nat.le_trans (Nat.le_of_ble_eq_true rfl) hR.2)) rfl hl.1 rfl (Nat.le_of_ble_eq_true rfl) d_Play_soundParties_19 ⟨Nat.zero_le _, Nat.zero_le _⟩ (fun H locs hH => ?_)
      refine lv_ior hx hb d_Play_soundParties_22 ?_
      refine lv_istore_n (lv' := [(1, .int (x1 ||| (f_Play_endsOf (M (k + 5) x2.toNatClampNeg)))), (0, .ref (Z.2.2.1 k)), (2, .int x2)]) hx hb d_Play_soundParties_23 rfl hl (by decide) rfl (fun ls hl => ?_)
      refine lv_iinc (v := x2 + (1 : Int32)) (lv' := [(2, .int (x2 + (1 : Int32))), (1, .int (x1 ||| (f_Play_endsOf (M (k + 5) x2.toNatClampNeg)))), (0, .ref (Z.2.2.1 k))]) hx hb d_Play_soundParties_24 hl (k := 2) rfl rfl (by decide) rfl (fun ls hl => ?_)
      refine lv_goto (tgt := 4) hx hb d_Play_soundParties_27 (by decide) ?_
      exact hG1 _ (o_v hf1).symm _ _ _ hH (lv_sub hl [2, 1, 0] rfl)
  refine lv_iconst (v := (0 : Int32)) hx hb d_Play_soundParties_0 (by decide) ?_
  refine lv_istore_n (lv' := [(1, .int (0 : Int32)), (0, .ref (Z.2.2.1 k))]) hx hb d_Play_soundParties_1 rfl hl (by decide) rfl (fun ls hl => ?_)
  refine lv_iconst (v := (0 : Int32)) hx hb d_Play_soundParties_2 (by decide) ?_
  refine lv_istore_n (lv' := [(2, .int (0 : Int32)), (1, .int (0 : Int32)), (0, .ref (Z.2.2.1 k))]) hx hb d_Play_soundParties_3 rfl hl (by decide) rfl (fun ls hl => ?_)
  exact J4 _ _ _ _ _ hf0 hH (lv_sub hl [2, 1, 0] rfl)
theorem c_Play_soundParties (l : Launch) {Z : WD} (hI : wI Z) (hZ : IsC Z) (k : Nat) (M : Mem) (hk : isPlay k) {r : Int32} (hf : f_Play_soundParties k M = some r) : Ci l Z y_Play_soundParties b_Play_soundParties 3 (some .int) 2 40 [.ref (Z.2.2.1 k)] M M r := by
  refine Met.ofW (cc := b_Play_soundParties) (maxL := 3) (ret := (some .int)) (by decide) rfl ?_
  intro p e s m args below meth c s₁ B hml hv
  obtain ⟨rfl, hP, hX⟩ := hv
  have S : CallFix p m c b_Play_soundParties 3 s ([.ref (Z.2.2.1 k)] : List Value).toArray gtb R_Play := ⟨B.exec, B.bytes, hml, findClass_of_methodNamed B.named, fun w hw => atoms_spec (ws := .code y_Play_soundParties b_Play_soundParties 3 (some .int) :: gtb) B.pre w (List.mem_cons_of_mem _ hw)⟩
  have hl := lv_entry ([.ref (Z.2.2.1 k)]) (n := 3) (Nat.le_of_ble_eq_true rfl)
  rw [lg_entry_eq]
  exact wk_Play_soundParties hI hZ k M hk S hX ⟨Nat.le_refl _, Nat.le_refl _⟩ (fun pc H locs ls hH d => q_ri S.1 S.2.1 B.returns B.notSynchronized hH rfl rfl d) hf ⟨hP, va_S.rf⟩ hl
