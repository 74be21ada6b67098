theorem cw_MC_293 {R : Room} {s : State} {args : Array Value} (ht : ∀ w ∈ gtb, w.before args s = true) (h1 : 1 + 1 ≤ R.frames) (h2 : 8 + (3 + 11) + 23 ≤ R.locals) : CallW R s args R_MC R_Run 293 y_Run_prepare b_Run_prepare 3 none (.code y_Run_prepare b_Run_prepare 3 none :: gtb) { frames := 1, cells := 0, slots := 0, locals := 23 } 0 0 1 := cwV 1 ht (gV w1_206 w1_207 w1_208 w1_4 w1_209) rfl rfl rfl ⟨rfl, by decide, by decide, by decide +kernel⟩ ⟨h1, h2⟩
theorem cw_MC_299 {R : Room} {s : State} {args : Array Value} (ht : ∀ w ∈ gtb, w.before args s = true) (h1 : 4 + 1 ≤ R.frames) (h2 : 8 + (2 + 11) + 94 ≤ R.locals) : CallW R s args R_MC R_Run 299 y_Run_play b_Run_play 2 none (.code y_Run_play b_Run_play 2 none :: gtb) { frames := 4, cells := 0, slots := 0, locals := 94 } 0 0 0 := cwV 0 ht (gV w1_213 w1_214 w1_215 w1_4 w1_216) rfl rfl rfl ⟨rfl, by decide, by decide, by decide +kernel⟩ ⟨h1, h2⟩
noncomputable def f_MC_replay (M : Mem) : Option Mem := bnd (f_Run_prepare 112 M (0 : Int32)) (fun M2 => bnd (f_Run_play 112 M2) (fun M4 => some M4))
set_option maxHeartbeats 4000000 in
theorem wk_MC_replay {l : Launch} {Z : WD} (hI : wI Z) (hZ : IsC Z) (M : Mem) {M' : Mem} {p : Program} {e : Env} {R : Room} {s : State} {m : MethodId} {args : Array Value} {below : List Frame} {meth : Method} {c : Code} {H : Heap} {locs : List Loc} {ls : Array Slot} {Q : State → Prop} (S : CallFix p m c b_MC_replay 1 s args gtb R_MC) (hX : wX Z s) (hR : 5 ≤ R.frames ∧ 115 ≤ R.locals) (hQ : ∀ (pc : Nat) (H : Heap) (locs : List Loc) (ls : Array Slot), HW Z M' s H locs → decode b_MC_replay pc = .ok (.return_, 1) → W p l e R s m args below meth c H locs 0 0 Q (F0 m pc ls [])) (hf0 : f_MC_replay M = some M') (hH : HW Z M s H locs) (hl : lv_has ls 1 [(0, .ref (Z.2.2.1 138))]) : W p l e R s m args below meth c H locs 0 0 Q (F0 m 0 ls []) := by
  have hx := S.1
  have hb := S.2.1
  have hown := S.2.2.2.1
  have ht := S.2.2.2.2
  unfold f_MC_replay at hf0
  refine lv_aload_n hx hb d_MC_replay_0 rfl (lv_at hl 0 rfl) ?_
  refine g_MC_28 S hX hH hZ d_MC_replay_1 ?_
  refine lv_iconst (v := (0 : Int32)) hx hb d_MC_replay_4 (by decide) ?_
  obtain ⟨M2, hc1, hf0⟩ := o_b hf0
  refine q_cVv (As := [.int (0 : Int32)]) (rest := []) S hX hH (c_Run_prepare l hI hZ 112 M (0 : Int32) isRun_112 hc1) (cw_MC_293 S.2.2.2.2 (Nat.le_trans (Nat.le_of_ble_eq_true rfl) hR.1) (Nat.le_trans (Nat.le_of_ble_eq_true rfl) hR.2)) (rc_Run hX hH hZ isRun_112) rfl hl.1 rfl (Nat.le_of_ble_eq_true rfl) d_MC_replay_5 ⟨Nat.zero_le _, Nat.zero_le _⟩ (fun H locs hH => ?_)
  refine lv_aload_n hx hb d_MC_replay_8 rfl (lv_at hl 0 rfl) ?_
  refine g_MC_28 S hX hH hZ d_MC_replay_9 ?_
  obtain ⟨M4, hc3, hf0⟩ := o_b hf0
  refine q_cVv (As := []) (rest := []) S hX hH (c_Run_play l hI hZ 112 M2 isRun_112 hc3) (cw_MC_299 S.2.2.2.2 (Nat.le_trans (Nat.le_of_ble_eq_true rfl) hR.1) (Nat.le_trans (Nat.le_of_ble_eq_true rfl) hR.2)) (rc_Run hX hH hZ isRun_112) rfl hl.1 rfl (Nat.le_of_ble_eq_true rfl) d_MC_replay_12 ⟨Nat.zero_le _, Nat.zero_le _⟩ (fun H locs hH => ?_)
  obtain rfl := o_v hf0
  exact hQ _ _ _ _ hH d_MC_replay_15
theorem c_MC_replay (l : Launch) {Z : WD} (hI : wI Z) (hZ : IsC Z) (M : Mem) {M' : Mem} (hf : f_MC_replay M = some M') : Cv l Z y_MC_replay b_MC_replay 1 none 5 115 [.ref (Z.2.2.1 138)] M M' := by
  refine Met.ofW (cc := b_MC_replay) (maxL := 1) (ret := none) (by decide) rfl ?_
  intro p e s m args below meth c s₁ B hml hv
  obtain ⟨rfl, hP, hX⟩ := hv
  have S : CallFix p m c b_MC_replay 1 s ([.ref (Z.2.2.1 138)] : List Value).toArray gtb R_MC := ⟨B.exec, B.bytes, hml, findClass_of_methodNamed B.named, fun w hw => atoms_spec (ws := .code y_MC_replay b_MC_replay 1 none :: gtb) B.pre w (List.mem_cons_of_mem _ hw)⟩
  have hl := lv_entry ([.ref (Z.2.2.1 138)]) (n := 1) (Nat.le_of_ble_eq_true rfl)
  rw [lg_entry_eq]
  exact wk_MC_replay hI hZ M S hX ⟨Nat.le_refl _, Nat.le_refl _⟩ (fun pc H locs ls hH d => q_rv S.1 S.2.1 B.returns B.notSynchronized hH rfl d) hf ⟨hP, va_S.rf⟩ hl
theorem cw_MC_55 {R : Room} {s : State} {args : Array Value} (ht : ∀ w ∈ gtb, w.before args s = true) (h1 : 0 + 1 ≤ R.frames) (h2 : 8 + (3 + 11) + 0 ≤ R.locals) : CallW R s args R_MC R_Tape 55 y_Tape_append b_Tape_append 3 none (.code y_Tape_append b_Tape_append 3 none :: gtb) { frames := 0, cells := 0, slots := 0, locals := 0 } 0 0 1 := cwV 1 ht (gV w2_100 w2_101 w2_102 w1_3 w2_103) rfl rfl rfl ⟨rfl, by decide, by decide, by decide +kernel⟩ ⟨h1, h2⟩
noncomputable def f_MC_feed (M : Mem) (x1 : Int32) (x2 : Int32) (x3 : Int32) (x4 : Int32) (x5 : Int32) : Option (Int32 × Mem) := 
    if ((M 136 2) + (20 : Int32)) ≤ (400 : Int32) then 
    bnd (f_Tape_append M x1) (fun M2 => 
    bnd (f_Tape_append M2 x2) (fun M4 => 
    bnd (f_Tape_append M4 x3) (fun M6 => bnd (f_Tape_append M6 x4) (fun M8 => bnd (f_Tape_append M8 x5) (fun M10 => some (M10 136 2, M10)))))) else some ((-1 : Int32), M)
set_option maxHeartbeats 4000000 in
theorem wk_MC_feed {l : Launch} {Z : WD} (hI : wI Z) (hZ : IsC Z) (M : Mem) (x1 : Int32) (x2 : Int32) (x3 : Int32) (x4 : Int32) (x5 : Int32) {r : Int32} {M' : Mem} {p : Program} {e : Env} {R : Room} {s : State} {m : MethodId} {args : Array Value} {below : List Frame} {meth : Method} {c : Code} {H : Heap} {locs : List Loc} {ls : Array Slot} {Q : State → Prop} (S : CallFix p m c b_MC_feed 6 s args gtb R_MC) (hX : wX Z s) (hR : 1 ≤ R.frames ∧ 22 ≤ R.locals) (hQ : ∀ (pc : Nat) (H : Heap) (locs : List Loc) (ls : Array Slot), HW Z M' s H locs → decode b_MC_feed pc = .ok (.ireturn, 1) → W p l e R s m args below meth c H locs 0 0 Q (F0 m pc ls [.int r])) (hf0 : f_MC_feed M x1 x2 x3 x4 x5 = some (r, M')) (hH : HW Z M s H locs) (hl : lv_has ls 6 [(0, .ref (Z.2.2.1 138)), (1, .int x1), (2, .int x2), (3, .int x3), (4, .int x4), (5, .int x5)]) : W p l e R s m args below meth c H locs 0 0 Q (F0 m 0 ls []) := by
  have hx := S.1
  have hb := S.2.1
  have hown := S.2.2.2.1
  have ht := S.2.2.2.2
  unfold f_MC_feed at hf0
  refine lv_aload_n hx hb d_MC_feed_0 rfl (lv_at hl 0 rfl) ?_
  refine g_MC_19 S hX hH hZ d_MC_feed_1 ?_
  refine g_MC_52 S hX hH hZ d_MC_feed_4 ?_
  refine lv_bipush (v := (20 : Int32)) hx hb d_MC_feed_7 (by decide) ?_
  refine lv_iadd hx hb d_MC_feed_9 ?_
  refine lv_sipush (v := (400 : Int32)) hx hb d_MC_feed_10 (by decide) ?_
  refine lv_icmp_le (tgt := 18) hx hb d_MC_feed_13 (by decide) (fun hc => ?_) (fun hc => ?_)
  · replace hf0 := o_t hc hf0
    refine lv_aload_n hx hb d_MC_feed_18 rfl (lv_at hl 0 rfl) ?_
    refine g_MC_19 S hX hH hZ d_MC_feed_19 ?_
    refine lv_iload_n hx hb d_MC_feed_22 rfl (lv_at hl 1 rfl) ?_
    obtain ⟨M2, hc1, hf0⟩ := o_b hf0
    refine q_cVv (As := [.int x1]) (rest := []) S hX hH (c_Tape_append l hI hZ M x1 hc1) (cw_MC_55 S.2.2.2.2 (Nat.le_trans (Nat.le_of_ble_eq_true rfl) hR.1) (Nat.le_trans (Nat.le_of_ble_eq_true rfl) hR.2)) (rc_Tape hX hH hZ) rfl hl.1 rfl (Nat.le_of_ble_eq_true rfl) d_MC_feed_23 ⟨Nat.zero_le _, Nat.zero_le _⟩ (fun H locs hH => ?_)
    refine lv_aload_n hx hb d_MC_feed_26 rfl (lv_at hl 0 rfl) ?_
    refine g_MC_19 S hX hH hZ d_MC_feed_27 ?_
    refine lv_iload_n hx hb d_MC_feed_30 rfl (lv_at hl 2 rfl) ?_
    obtain ⟨M4, hc3, hf0⟩ := o_b hf0
    refine q_cVv (As := [.int x2]) (rest := []) S hX hH (c_Tape_append l hI hZ M2 x2 hc3) (cw_MC_55 S.2.2.2.2 (Nat.le_trans (Nat.le_of_ble_eq_true rfl) hR.1) (Nat.le_trans (Nat.le_of_ble_eq_true rfl) hR.2)) (rc_Tape hX hH hZ) rfl hl.1 rfl (Nat.le_of_ble_eq_true rfl) d_MC_feed_31 ⟨Nat.zero_le _, Nat.zero_le _⟩ (fun H locs hH => ?_)
    refine lv_aload_n hx hb d_MC_feed_34 rfl (lv_at hl 0 rfl) ?_
    refine g_MC_19 S hX hH hZ d_MC_feed_35 ?_
    refine lv_iload_n hx hb d_MC_feed_38 rfl (lv_at hl 3 rfl) ?_
    obtain ⟨M6, hc5, hf0⟩ := o_b hf0
    refine q_cVv (As := [.int x3]) (rest := []) S hX hH (c_Tape_append l hI hZ M4 x3 hc5) (cw_MC_55 S.2.2.2.2 (Nat.le_trans (Nat.le_of_ble_eq_true rfl) hR.1) (Nat.le_trans (Nat.le_of_ble_eq_true rfl) hR.2)) (rc_Tape hX hH hZ) rfl hl.1 rfl (Nat.le_of_ble_eq_true rfl) d_MC_feed_39 ⟨Nat.zero_le _, Nat.zero_le _⟩ (fun H locs hH => ?_)
    refine lv_aload_n hx hb d_MC_feed_42 rfl (lv_at hl 0 rfl) ?_
    refine g_MC_19 S hX hH hZ d_MC_feed_43 ?_
    refine lv_iload hx hb d_MC_feed_46 (lv_at hl 4 rfl) ?_
    obtain ⟨M8, hc7, hf0⟩ := o_b hf0
    refine q_cVv (As := [.int x4]) (rest := []) S hX hH (c_Tape_append l hI hZ M6 x4 hc7) (cw_MC_55 S.2.2.2.2 (Nat.le_trans (Nat.le_of_ble_eq_true rfl) hR.1) (Nat.le_trans (Nat.le_of_ble_eq_true rfl) hR.2)) (rc_Tape hX hH hZ) rfl hl.1 rfl (Nat.le_of_ble_eq_true rfl) d_MC_feed_48 ⟨Nat.zero_le _, Nat.zero_le _⟩ (fun H locs hH => ?_)
    refine lv_aload_n hx hb d_MC_feed_51 rfl (lv_at hl 0 rfl) ?_
    refine g_MC_19 S hX hH hZ d_MC_feed_52 ?_
    refine lv_iload hx hb d_MC_feed_55 (lv_at hl 5 rfl) ?_
    obtain ⟨M10, hc9, hf0⟩ := o_b hf0
    refine q_cVv (As := [.int x5]) (rest := []) S hX hH (c_Tape_append l hI hZ M8 x5 hc9) (cw_MC_55 S.2.2.2.2 (Nat.le_trans (Nat.le_of_ble_eq_true rfl) hR.1) (Nat.le_trans (Nat.le_of_ble_eq_true rfl) hR.2)) (rc_Tape hX hH hZ) rfl hl.1 rfl (Nat.le_of_ble_eq_true rfl) d_MC_feed_57 ⟨Nat.zero_le _, Nat.zero_le _⟩ (fun H locs hH => ?_)
    refine lv_aload_n hx hb d_MC_feed_60 rfl (lv_at hl 0 rfl) ?_
    refine g_MC_19 S hX hH hZ d_MC_feed_61 ?_
    refine g_MC_52 S hX hH hZ d_MC_feed_64 ?_
    obtain ⟨rfl, rfl⟩ := o_p hf0
    exact hQ _ _ _ _ hH d_MC_feed_67
  · replace hf0 := o_f hc hf0
    refine lv_iconst (v := (-1 : Int32)) hx hb d_MC_feed_16 (by decide) ?_
    obtain ⟨rfl, rfl⟩ := o_p hf0
    exact hQ _ _ _ _ hH d_MC_feed_17
theorem c_MC_feed (l : Launch) {Z : WD} (hI : wI Z) (hZ : IsC Z) (M : Mem) (x1 : Int32) (x2 : Int32) (x3 : Int32) (x4 : Int32) (x5 : Int32) {r : Int32} {M' : Mem} (hf : f_MC_feed M x1 x2 x3 x4 x5 = some (r, M')) : Ci l Z y_MC_feed b_MC_feed 6 (some .int) 1 22 [.ref (Z.2.2.1 138), .int x1, .int x2, .int x3, .int x4, .int x5] M M' r := by
  refine Met.ofW (cc := b_MC_feed) (maxL := 6) (ret := (some .int)) (by decide) rfl ?_
  intro p e s m args below meth c s₁ B hml hv
  obtain ⟨rfl, hP, hX⟩ := hv
  have S : CallFix p m c b_MC_feed 6 s ([.ref (Z.2.2.1 138), .int x1, .int x2, .int x3, .int x4, .int x5] : List Value).toArray gtb R_MC := ⟨B.exec, B.bytes, hml, findClass_of_methodNamed B.named, fun w hw => atoms_spec (ws := .code y_MC_feed b_MC_feed 6 (some .int) :: gtb) B.pre w (List.mem_cons_of_mem _ hw)⟩
  have hl := lv_entry ([.ref (Z.2.2.1 138), .int x1, .int x2, .int x3, .int x4, .int x5]) (n := 6) (Nat.le_of_ble_eq_true rfl)
  rw [lg_entry_eq]
  exact wk_MC_feed hI hZ M x1 x2 x3 x4 x5 S hX ⟨Nat.le_refl _, Nat.le_refl _⟩ (fun pc H locs ls hH d => q_ri S.1 S.2.1 B.returns B.notSynchronized hH rfl rfl d) hf ⟨hP, va_S.rf⟩ hl
noncomputable def f_MC_end (M : Mem) (x1 : Int32) : Option (Int32 × Mem) := 
    if x1 < 0 then some ((-1 : Int32), M) else if x1 ≤ (M 136 2) then lt1 (upM M 136 2 x1) (fun M1 => some (x1, M1)) else some ((-1 : Int32), M)
set_option maxHeartbeats 4000000 in
theorem wk_MC_end {l : Launch} {Z : WD} (hI : wI Z) (hZ : IsC Z) (M : Mem) (x1 : Int32) {r : Int32} {M' : Mem} {p : Program} {e : Env} {R : Room} {s : State} {m : MethodId} {args : Array Value} {below : List Frame} {meth : Method} {c : Code} {H : Heap} {locs : List Loc} {ls : Array Slot} {Q : State → Prop} (S : CallFix p m c b_MC_end 2 s args gtb R_MC) (hX : wX Z s) (hR : 0 ≤ R.frames ∧ 0 ≤ R.locals) (hQ : ∀ (pc : Nat) (H : Heap) (locs : List Loc) (ls : Array Slot), HW Z M' s H locs → decode b_MC_end pc = .ok (.ireturn, 1) → W p l e R s m args below meth c H locs 0 0 Q (F0 m pc ls [.int r])) (hf0 : f_MC_end M x1 = some (r, M')) (hH : HW Z M s H locs) (hl : lv_has ls 2 [(0, .ref (Z.2.2.1 138)), (1, .int x1)]) : W p l e R s m args below meth c H locs 0 0 Q (F0 m 0 ls []) := by
  have hx := S.1
  have hb := S.2.1
  have hown := S.2.2.2.1
  have ht := S.2.2.2.2
  unfold f_MC_end at hf0
  refine lv_iload_n hx hb d_MC_end_0 rfl (lv_at hl 1 rfl) ?_
  refine lv_if_lt (tgt := 15) hx hb d_MC_end_1 (by decide) (fun hc => ?_) (fun hc => ?_)
  · replace hf0 := o_t hc hf0
    refine lv_iconst (v := (-1 : Int32)) hx hb d_MC_end_15 (by decide) ?_
    obtain ⟨rfl, rfl⟩ := o_p hf0
    exact hQ _ _ _ _ hH d_MC_end_16
  · replace hf0 := o_f hc hf0
    refine lv_iload_n hx hb d_MC_end_4 rfl (lv_at hl 1 rfl) ?_
    refine lv_aload_n hx hb d_MC_end_5 rfl (lv_at hl 0 rfl) ?_
    refine g_MC_19 S hX hH hZ d_MC_end_6 ?_
    refine g_MC_52 S hX hH hZ d_MC_end_9 ?_
    refine lv_icmp_le (tgt := 17) hx hb d_MC_end_12 (by decide) (fun hc => ?_) (fun hc => ?_)
    · replace hf0 := o_t hc hf0
      refine lv_aload_n hx hb d_MC_end_17 rfl (lv_at hl 0 rfl) ?_
      refine g_MC_19 S hX hH hZ d_MC_end_18 ?_
      refine lv_iload_n hx hb d_MC_end_21 rfl (lv_at hl 1 rfl) ?_
      obtain ⟨M1, hM1, hf0⟩ := o_l hf0
      refine s_MC_52 S hX hI hH hZ d_MC_end_22 (fun H locs hH => ?_)
      rw [hM1] at hH
      refine lv_iload_n hx hb d_MC_end_25 rfl (lv_at hl 1 rfl) ?_
      obtain ⟨rfl, rfl⟩ := o_p hf0
      exact hQ _ _ _ _ hH d_MC_end_26
    · replace hf0 := o_f hc hf0
      refine lv_iconst (v := (-1 : Int32)) hx hb d_MC_end_15 (by decide) ?_
      obtain ⟨rfl, rfl⟩ := o_p hf0
      exact hQ _ _ _ _ hH d_MC_end_16
theorem c_MC_end (l : Launch) {Z : WD} (hI : wI Z) (hZ : IsC Z) (M : Mem) (x1 : Int32) {r : Int32} {M' : Mem} (hf : f_MC_end M x1 = some (r, M')) : Ci l Z y_MC_end b_MC_end 2 (some .int) 0 0 [.ref (Z.2.2.1 138), .int x1] M M' r := by
  refine Met.ofW (cc := b_MC_end) (maxL := 2) (ret := (some .int)) (by decide) rfl ?_
  intro p e s m args below meth c s₁ B hml hv
  obtain ⟨rfl, hP, hX⟩ := hv
  have S : CallFix p m c b_MC_end 2 s ([.ref (Z.2.2.1 138), .int x1] : List Value).toArray gtb R_MC := ⟨B.exec, B.bytes, hml, findClass_of_methodNamed B.named, fun w hw => atoms_spec (ws := .code y_MC_end b_MC_end 2 (some .int) :: gtb) B.pre w (List.mem_cons_of_mem _ hw)⟩
  have hl := lv_entry ([.ref (Z.2.2.1 138), .int x1]) (n := 2) (Nat.le_of_ble_eq_true rfl)
  rw [lg_entry_eq]
  exact wk_MC_end hI hZ M x1 S hX ⟨Nat.le_refl _, Nat.le_refl _⟩ (fun pc H locs ls hH d => q_ri S.1 S.2.1 B.returns B.notSynchronized hH rfl rfl d) hf ⟨hP, va_S.rf⟩ hl
theorem cw_MC_59 {R : Room} {s : State} {args : Array Value} (ht : ∀ w ∈ gtb, w.before args s = true) (h1 : 7 + 1 ≤ R.frames) (h2 : 8 + (2 + 11) + 148 ≤ R.locals) : CallW R s args R_MC R_Tape 59 y_Tape_read b_Tape_read 2 none (.code y_Tape_read b_Tape_read 2 none :: gtb) { frames := 7, cells := 0, slots := 0, locals := 148 } 0 0 0 := cwV 0 ht (gV w2_112 w2_113 w2_114 w1_3 w2_115) rfl rfl rfl ⟨rfl, by decide, by decide, by decide +kernel⟩ ⟨h1, h2⟩
theorem cw_MC_68 {R : Room} {s : State} {args : Array Value} (ht : ∀ w ∈ gtb, w.before args s = true) (h1 : 1 + 1 ≤ R.frames) (h2 : 8 + (2 + 11) + 26 ≤ R.locals) : CallW R s args R_MC R_Play 68 y_Play_become b_Play_become 2 none (.code y_Play_become b_Play_become 2 none :: gtb) { frames := 1, cells := 0, slots := 0, locals := 26 } 0 0 1 := cwV 1 ht (gV w3_39 w3_40 w3_41 w1_2 w3_42) rfl rfl rfl ⟨rfl, by decide, by decide, by decide +kernel⟩ ⟨h1, h2⟩
theorem cw_MC_49 {R : Room} {s : State} {args : Array Value} (ht : ∀ w ∈ gtb, w.before args s = true) (h1 : 5 + 1 ≤ R.frames) (h2 : 8 + (1 + 11) + 115 ≤ R.locals) : CallW R s args R_MC R_MC 49 y_MC_replay b_MC_replay 1 none (.code y_MC_replay b_MC_replay 1 none :: gtb) { frames := 5, cells := 0, slots := 0, locals := 115 } 0 0 0 := cwV 0 ht (gV w1_202 w1_204 ws_MC_replay w1_1 w1_205) rfl rfl rfl ⟨rfl, by decide, by decide, by decide +kernel⟩ ⟨h1, h2⟩
noncomputable def f_MC_tell (M : Mem) : Option (Int32 × Mem) := 
    bnd (f_Tape_read M) (fun M2 => 
    lt1 (upM M2 136 2 (0 : Int32)) (fun M3 => 
    if (M3 136 3) = 0 then 
    bnd (f_Play_become 0 8 M3) (fun M5 => lt1 (upM M5 138 6 (0 : Int32)) (fun M6 => bnd (f_MC_replay M6) (fun M8 => some (M8 0 0, M8)))) else some ((-2 : Int32) - (M3 136 3), M3)))
set_option maxHeartbeats 4000000 in
theorem wk_MC_tell {l : Launch} {Z : WD} (hI : wI Z) (hZ : IsC Z) (M : Mem) {r : Int32} {M' : Mem} {p : Program} {e : Env} {R : Room} {s : State} {m : MethodId} {args : Array Value} {below : List Frame} {meth : Method} {c : Code} {H : Heap} {locs : List Loc} {ls : Array Slot} {Q : State → Prop} (S : CallFix p m c b_MC_tell 1 s args gtb R_MC) (hX : wX Z s) (hR : 8 ≤ R.frames ∧ 169 ≤ R.locals) (hQ : ∀ (pc : Nat) (H : Heap) (locs : List Loc) (ls : Array Slot), HW Z M' s H locs → decode b_MC_tell pc = .ok (.ireturn, 1) → W p l e R s m args below meth c H locs 0 0 Q (F0 m pc ls [.int r])) (hf0 : f_MC_tell M = some (r, M')) (hH : HW Z M s H locs) (hl : lv_has ls 1 [(0, .ref (Z.2.2.1 138))]) : W p l e R s m args below meth c H locs 0 0 Q (F0 m 0 ls []) := by
  have hx := S.1
  have hb := S.2.1
  have hown := S.2.2.2.1
  have ht := S.2.2.2.2
  unfold f_MC_tell at hf0
  refine lv_aload_n hx hb d_MC_tell_0 rfl (lv_at hl 0 rfl) ?_
  refine g_MC_19 S hX hH hZ d_MC_tell_1 ?_
  obtain ⟨M2, hc1, hf0⟩ := o_b hf0
  refine q_cVv (As := []) (rest := []) S hX hH (c_Tape_read l hI hZ M hc1) (cw_MC_59 S.2.2.2.2 (Nat.le_trans (Nat.le_of_ble_eq_true rfl) hR.1) (Nat.le_trans (Nat.le_of_ble_eq_true rfl) hR.2)) (rc_Tape hX hH hZ) rfl hl.1 rfl (Nat.le_of_ble_eq_true rfl) d_MC_tell_4 ⟨Nat.zero_le _, Nat.zero_le _⟩ (fun H locs hH => ?_)
  refine lv_aload_n hx hb d_MC_tell_7 rfl (lv_at hl 0 rfl) ?_
  refine g_MC_19 S hX hH hZ d_MC_tell_8 ?_
  refine lv_iconst (v := (0 : Int32)) hx hb d_MC_tell_11 (by decide) ?_
  obtain ⟨M3, hM3, hf0⟩ := o_l hf0
  refine s_MC_52 S hX hI hH hZ d_MC_tell_12 (fun H locs hH => ?_)
  rw [hM3] at hH
  refine lv_aload_n hx hb d_MC_tell_15 rfl (lv_at hl 0 rfl) ?_
  refine g_MC_19 S hX hH hZ d_MC_tell_16 ?_
  refine g_MC_62 S hX hH hZ d_MC_tell_19 ?_
  refine lv_if_eq (tgt := 36) hx hb d_MC_tell_22 (by decide) (fun hc => ?_) (fun hc => ?_)
  · replace hf0 := o_t hc hf0
    refine lv_aload_n hx hb d_MC_tell_36 rfl (lv_at hl 0 rfl) ?_
    refine g_MC_10 S hX hH hZ d_MC_tell_37 ?_
    refine lv_aload_n hx hb d_MC_tell_40 rfl (lv_at hl 0 rfl) ?_
    refine g_MC_19 S hX hH hZ d_MC_tell_41 ?_
    refine g_MC_65 S hX hH hZ d_MC_tell_44 ?_
    obtain ⟨M5, hc4, hf0⟩ := o_b hf0
    refine q_cVv (As := [.ref (Z.2.2.1 8)]) (rest := []) S hX hH (c_Play_become l hI hZ 0 8 M3 isPlay_0 isPlay_8 hc4) (cw_MC_68 S.2.2.2.2 (Nat.le_trans (Nat.le_of_ble_eq_true rfl) hR.1) (Nat.le_trans (Nat.le_of_ble_eq_true rfl) hR.2)) (rc_Play hX hH hZ isPlay_0) rfl hl.1 rfl (Nat.le_of_ble_eq_true rfl) d_MC_tell_47 ⟨Nat.zero_le _, Nat.zero_le _⟩ (fun H locs hH => ?_)
    refine lv_aload_n hx hb d_MC_tell_50 rfl (lv_at hl 0 rfl) ?_
    refine lv_iconst (v := (0 : Int32)) hx hb d_MC_tell_51 (by decide) ?_
    obtain ⟨M6, hM6, hf0⟩ := o_l hf0
    refine s_MC_42 S hX hI hH hZ d_MC_tell_52 (fun H locs hH => ?_)
    rw [hM6] at hH
    refine lv_aload_n hx hb d_MC_tell_55 rfl (lv_at hl 0 rfl) ?_
    obtain ⟨M8, hc7, hf0⟩ := o_b hf0
    refine q_cVv (As := []) (rest := []) S hX hH (c_MC_replay l hI hZ M6 hc7) (cw_MC_49 S.2.2.2.2 (Nat.le_trans (Nat.le_of_ble_eq_true rfl) hR.1) (Nat.le_trans (Nat.le_of_ble_eq_true rfl) hR.2)) (rc_MC hX hH hZ) rfl hl.1 rfl (Nat.le_of_ble_eq_true rfl) d_MC_tell_56 ⟨Nat.zero_le _, Nat.zero_le _⟩ (fun H locs hH => ?_)
    refine lv_aload_n hx hb d_MC_tell_59 rfl (lv_at hl 0 rfl) ?_
    refine g_MC_10 S hX hH hZ d_MC_tell_60 ?_
    refine g_MC_71 S hX hH hZ isPlay_0 d_MC_tell_63 ?_
    obtain ⟨rfl, rfl⟩ := o_p hf0
    exact hQ _ _ _ _ hH d_MC_tell_66
  · replace hf0 := o_f hc hf0
    refine lv_bipush (v := (-2 : Int32)) hx hb d_MC_tell_25 (by decide) ?_
    refine lv_aload_n hx hb d_MC_tell_27 rfl (lv_at hl 0 rfl) ?_
    refine g_MC_19 S hX hH hZ d_MC_tell_28 ?_
    refine g_MC_62 S hX hH hZ d_MC_tell_31 ?_
    refine lv_isub hx hb d_MC_tell_34 ?_
    obtain ⟨rfl, rfl⟩ := o_p hf0
    exact hQ _ _ _ _ hH d_MC_tell_35
theorem c_MC_tell (l : Launch) {Z : WD} (hI : wI Z) (hZ : IsC Z) (M : Mem) {r : Int32} {M' : Mem} (hf : f_MC_tell M = some (r, M')) : Ci l Z y_MC_tell b_MC_tell 1 (some .int) 8 169 [.ref (Z.2.2.1 138)] M M' r := by
  refine Met.ofW (cc := b_MC_tell) (maxL := 1) (ret := (some .int)) (by decide) rfl ?_
  intro p e s m args below meth c s₁ B hml hv
  obtain ⟨rfl, hP, hX⟩ := hv
  have S : CallFix p m c b_MC_tell 1 s ([.ref (Z.2.2.1 138)] : List Value).toArray gtb R_MC := ⟨B.exec, B.bytes, hml, findClass_of_methodNamed B.named, fun w hw => atoms_spec (ws := .code y_MC_tell b_MC_tell 1 (some .int) :: gtb) B.pre w (List.mem_cons_of_mem _ hw)⟩
  have hl := lv_entry ([.ref (Z.2.2.1 138)]) (n := 1) (Nat.le_of_ble_eq_true rfl)
  rw [lg_entry_eq]
  exact wk_MC_tell hI hZ M S hX ⟨Nat.le_refl _, Nat.le_refl _⟩ (fun pc H locs ls hH d => q_ri S.1 S.2.1 B.returns B.notSynchronized hH rfl rfl d) hf ⟨hP, va_S.rf⟩ hl
noncomputable def f_MC_forgetOldest_L9 (x1 : Int32) (x2 : Int32) (M : Mem) : Option ((Int32 × Mem) ⊕ Mem) := if (10 : Int32) ≤ x2 then 
    gLt x1.toNatClampNeg 14 (lt1 (upM M 139 9 x1) (fun M1 => lt1 (upM M1 138 6 (9 : Int32)) (fun M3 => some (.inr M3)))) else 
    gIn x2 10 (gIn (x2 - (1 : Int32)) 10 (gLt (M 139 x2.toNatClampNeg).toNatClampNeg 14 (lt1 (upM M 139 ((x2 - (1 : Int32)).toNatClampNeg) (M 139 x2.toNatClampNeg)) (fun M6 => some (.inl (x2 + (1 : Int32), M6))))))
noncomputable def f_MC_forgetOldest_W9 (x1 : Int32) (u : (Int32 × Mem)) : Option Mem := loop (fun t => f_MC_forgetOldest_L9 x1 t.1 t.2) u
noncomputable def f_MC_forgetOldest_J9 (M : Mem) (x1 : Int32) (x2 : Int32) : Option (Mem) := bnd (f_MC_forgetOldest_W9 x1 (x2, M)) (fun e9 => some e9)
noncomputable def f_MC_forgetOldest (M : Mem) : Option Mem := f_MC_forgetOldest_J9 M (M 139 0) (1 : Int32)
set_option maxHeartbeats 4000000 in
theorem wk_MC_forgetOldest {l : Launch} {Z : WD} (hI : wI Z) (hZ : IsC Z) (M : Mem) {M' : Mem} {p : Program} {e : Env} {R : Room} {s : State} {m : MethodId} {args : Array Value} {below : List Frame} {meth : Method} {c : Code} {H : Heap} {locs : List Loc} {ls : Array Slot} {Q : State → Prop} (S : CallFix p m c b_MC_forgetOldest 3 s args gtb R_MC) (hX : wX Z s) (hR : 0 ≤ R.frames ∧ 0 ≤ R.locals) (hQ : ∀ (pc : Nat) (H : Heap) (locs : List Loc) (ls : Array Slot), HW Z M' s H locs → decode b_MC_forgetOldest pc = .ok (.return_, 1) → W p l e R s m args below meth c H locs 0 0 Q (F0 m pc ls [])) (hf0 : f_MC_forgetOldest M = some M') (hH : HW Z M s H locs) (hl : lv_has ls 3 [(0, .ref (Z.2.2.1 138))]) : W p l e R s m args below meth c H locs 0 0 Q (F0 m 0 ls []) := by
  have hx := S.1
  have hb := S.2.1
  have hown := S.2.2.2.1
  have ht := S.2.2.2.2
  unfold f_MC_forgetOldest at hf0
  have J9 : ∀ (M : Mem) (x1 : Int32) (x2 : Int32) (H : Heap) (locs : List Loc) (ls : Array Slot), f_MC_forgetOldest_J9 M x1 x2 = some M' → HW Z M s H locs → lv_has ls 3 [(0, .ref (Z.2.2.1 138)), (1, .ref (Z.2.2.1 (8 * x1.toNatClampNeg))), (2, .int x2)] → W p l e R s m args below meth c H locs 0 0 Q (F0 m 9 ls []) := by
    intro M x1 x2 H locs ls hf0 hH hl
    unfold f_MC_forgetOldest_J9 at hf0
    obtain ⟨e9, he9, hf0⟩ := o_b hf0
    unfold f_MC_forgetOldest_W9 at he9
    refine loop_W (fun t => ∀ (H : Heap) (locs : List Loc) (ls : Array Slot), HW Z t.2 s H locs → lv_has ls 3 [(0, .ref (Z.2.2.1 138)), (1, .ref (Z.2.2.1 (8 * x1.toNatClampNeg))), (2, .int t.1)] → W p l e R s m args below meth c H locs 0 0 Q (F0 m 9 ls [])) ?_ he9 H locs ls hH hl
    rintro ⟨x2, M⟩ o1 hf1 hG1 hR1 H locs ls hH hl
    replace hH : HW Z M s H locs := hH
    replace hl : lv_has ls 3 [(0, .ref (Z.2.2.1 138)), (1, .ref (Z.2.2.1 (8 * x1.toNatClampNeg))), (2, .int x2)] := hl
    replace hf1 : f_MC_forgetOldest_L9 x1 x2 M = some o1 := hf1
    unfold f_MC_forgetOldest_L9 at hf1
    refine lv_iload_n hx hb d_MC_forgetOldest_9 rfl (lv_at hl 2 rfl) ?_
    refine lv_bipush (v := (10 : Int32)) hx hb d_MC_forgetOldest_10 (by decide) ?_
    refine lv_icmp_ge (tgt := 35) hx hb d_MC_forgetOldest_12 (by decide) (fun hc => ?_) (fun hc => ?_)
    · replace hf1 := o_t hc hf1
      refine lv_aload_n hx hb d_MC_forgetOldest_35 rfl (lv_at hl 0 rfl) ?_
      refine g_MC_35 S hX hH hZ d_MC_forgetOldest_36 ?_
      refine lv_bipush (v := (9 : Int32)) hx hb d_MC_forgetOldest_39 (by decide) ?_
      refine lv_aload_n hx hb d_MC_forgetOldest_41 rfl (lv_at hl 1 rfl) ?_
      obtain ⟨hq2, hf1⟩ := o_gl hf1
      obtain ⟨M1, hM1, hf1⟩ := o_l hf1
      refine q_past_139 (j := 9) hx hb hX hI hZ hH hq2 (vp_c (by decide)) (by decide) d_MC_forgetOldest_42 (fun H locs hH => ?_)
      rw [hM1] at hH
      refine lv_aload_n hx hb d_MC_forgetOldest_43 rfl (lv_at hl 0 rfl) ?_
      refine lv_bipush (v := (9 : Int32)) hx hb d_MC_forgetOldest_44 (by decide) ?_
      obtain ⟨M3, hM3, hf1⟩ := o_l hf1
      refine s_MC_42 S hX hI hH hZ d_MC_forgetOldest_46 (fun H locs hH => ?_)
      rw [hM3] at hH
      obtain rfl := hR1 _ (o_v hf1).symm
      obtain rfl := o_v hf0
      exact hQ _ _ _ _ hH d_MC_forgetOldest_49
    · replace hf1 := o_f hc hf1
      refine lv_aload_n hx hb d_MC_forgetOldest_15 rfl (lv_at hl 0 rfl) ?_
      refine g_MC_35 S hX hH hZ d_MC_forgetOldest_16 ?_
      refine lv_iload_n hx hb d_MC_forgetOldest_19 rfl (lv_at hl 2 rfl) ?_
      refine lv_iconst (v := (1 : Int32)) hx hb d_MC_forgetOldest_20 (by decide) ?_
      refine lv_isub hx hb d_MC_forgetOldest_21 ?_
      refine lv_aload_n hx hb d_MC_forgetOldest_22 rfl (lv_at hl 0 rfl) ?_
      refine g_MC_35 S hX hH hZ d_MC_forgetOldest_23 ?_
      refine lv_iload_n hx hb d_MC_forgetOldest_26 rfl (lv_at hl 2 rfl) ?_
      obtain ⟨hn4, hf1⟩ := o_in hf1
      refine q_pald_139 (j := x2.toNatClampNeg) hx hb hX hZ hH hn4 rfl d_MC_forgetOldest_27 ?_
      obtain ⟨hn5, hf1⟩ := o_in hf1
      obtain ⟨hq7, hf1⟩ := o_gl hf1
      obtain ⟨M6, hM6, hf1⟩ := o_l hf1
      refine q_past_139 (j := (x2 - (1 : Int32)).toNatClampNeg) hx hb hX hI hZ hH hq7 hn5 rfl d_MC_forgetOldest_28 (fun H locs hH => ?_)
      rw [hM6] at hH
      refine lv_iinc (v := x2 + (1 : Int32)) (lv' := [(2, .int (x2 + (1 : Int32))), (0, .ref (Z.2.2.1 138)), (1, .ref (Z.2.2.1 (8 * x1.toNatClampNeg)))]) hx hb d_MC_forgetOldest_29 hl (k := 2) rfl rfl (by decide) rfl (fun ls hl => ?_)
      refine lv_goto (tgt := 9) hx hb d_MC_forgetOldest_32 (by decide) ?_
      exact hG1 _ (o_v hf1).symm _ _ _ hH (lv_sub hl [1, 2, 0] rfl)
  refine lv_aload_n hx hb d_MC_forgetOldest_0 rfl (lv_at hl 0 rfl) ?_
  refine g_MC_35 S hX hH hZ d_MC_forgetOldest_1 ?_
  refine lv_iconst (v := (0 : Int32)) hx hb d_MC_forgetOldest_4 (by decide) ?_
  refine q_pald_139 (j := 0) hx hb hX hZ hH (vp_c (by decide)) (by decide) d_MC_forgetOldest_5 ?_
  refine lv_astore_n (lv' := [(1, .ref (Z.2.2.1 (8 * (M 139 0).toNatClampNeg))), (0, .ref (Z.2.2.1 138))]) hx hb d_MC_forgetOldest_6 rfl hl (by decide) rfl (fun ls hl => ?_)
  refine lv_iconst (v := (1 : Int32)) hx hb d_MC_forgetOldest_7 (by decide) ?_
  refine lv_istore_n (lv' := [(2, .int (1 : Int32)), (1, .ref (Z.2.2.1 (8 * (M 139 0).toNatClampNeg))), (0, .ref (Z.2.2.1 138))]) hx hb d_MC_forgetOldest_8 rfl hl (by decide) rfl (fun ls hl => ?_)
  exact J9 _ _ _ _ _ _ hf0 hH (lv_sub hl [2, 1, 0] rfl)
theorem c_MC_forgetOldest (l : Launch) {Z : WD} (hI : wI Z) (hZ : IsC Z) (M : Mem) {M' : Mem} (hf : f_MC_forgetOldest M = some M') : Cv l Z y_MC_forgetOldest b_MC_forgetOldest 3 none 0 0 [.ref (Z.2.2.1 138)] M M' := by
  refine Met.ofW (cc := b_MC_forgetOldest) (maxL := 3) (ret := none) (by decide) rfl ?_
  intro p e s m args below meth c s₁ B hml hv
  obtain ⟨rfl, hP, hX⟩ := hv
  have S : CallFix p m c b_MC_forgetOldest 3 s ([.ref (Z.2.2.1 138)] : List Value).toArray gtb R_MC := ⟨B.exec, B.bytes, hml, findClass_of_methodNamed B.named, fun w hw => atoms_spec (ws := .code y_MC_forgetOldest b_MC_forgetOldest 3 none :: gtb) B.pre w (List.mem_cons_of_mem _ hw)⟩
  have hl := lv_entry ([.ref (Z.2.2.1 138)]) (n := 3) (Nat.le_of_ble_eq_true rfl)
  rw [lg_entry_eq]
  exact wk_MC_forgetOldest hI hZ M S hX ⟨Nat.le_refl _, Nat.le_refl _⟩ (fun pc H locs ls hH d => q_rv S.1 S.2.1 B.returns B.notSynchronized hH rfl d) hf ⟨hP, va_S.rf⟩ hl
theorem cw_MC_343 {R : Room} {s : State} {args : Array Value} (ht : ∀ w ∈ gtb, w.before args s = true) (h1 : 0 + 1 ≤ R.frames) (h2 : 8 + (3 + 11) + 0 ≤ R.locals) : CallW R s args R_MC R_MC 343 y_MC_forgetOldest b_MC_forgetOldest 3 none (.code y_MC_forgetOldest b_MC_forgetOldest 3 none :: gtb) { frames := 0, cells := 0, slots := 0, locals := 0 } 0 0 0 := cwV 0 ht (gV w3_59 w3_61 ws_MC_forgetOldest w1_1 w3_62) rfl rfl rfl ⟨rfl, by decide, by decide, by decide +kernel⟩ ⟨h1, h2⟩
noncomputable def f_MC_remember_J13 (M : Mem) : Option (Mem) := gIn (M 138 6) 10 (gLt (M 139 (M 138 6).toNatClampNeg).toNatClampNeg 14 (bnd (f_Play_become (8 * (M 139 (M 138 6).toNatClampNeg).toNatClampNeg) 0 M) (fun M4 => lt1 (upM M4 138 6 ((M4 138 6) + (1 : Int32))) (fun M5 => some M5))))
noncomputable def f_MC_remember (M : Mem) : Option Mem := 
    if (M 138 6) < (10 : Int32) then f_MC_remember_J13 M else bnd (f_MC_forgetOldest M) (fun M7 => f_MC_remember_J13 M7)
set_option maxHeartbeats 4000000 in
theorem wk_MC_remember {l : Launch} {Z : WD} (hI : wI Z) (hZ : IsC Z) (M : Mem) {M' : Mem} {p : Program} {e : Env} {R : Room} {s : State} {m : MethodId} {args : Array Value} {below : List Frame} {meth : Method} {c : Code} {H : Heap} {locs : List Loc} {ls : Array Slot} {Q : State → Prop} (S : CallFix p m c b_MC_remember 1 s args gtb R_MC) (hX : wX Z s) (hR : 2 ≤ R.frames ∧ 47 ≤ R.locals) (hQ : ∀ (pc : Nat) (H : Heap) (locs : List Loc) (ls : Array Slot), HW Z M' s H locs → decode b_MC_remember pc = .ok (.return_, 1) → W p l e R s m args below meth c H locs 0 0 Q (F0 m pc ls [])) (hf0 : f_MC_remember M = some M') (hH : HW Z M s H locs) (hl : lv_has ls 1 [(0, .ref (Z.2.2.1 138))]) : W p l e R s m args below meth c H locs 0 0 Q (F0 m 0 ls []) := by
  have hx := S.1
  have hb := S.2.1
  have hown := S.2.2.2.1
  have ht := S.2.2.2.2
  unfold f_MC_remember at hf0
  have J13 : ∀ (M : Mem) (H : Heap) (locs : List Loc) (ls : Array Slot), f_MC_remember_J13 M = some M' → HW Z M s H locs → lv_has ls 1 [(0, .ref (Z.2.2.1 138))] → W p l e R s m args below meth c H locs 0 0 Q (F0 m 13 ls []) := by
    intro M H locs ls hf0 hH hl
    unfold f_MC_remember_J13 at hf0
    refine lv_aload_n hx hb d_MC_remember_13 rfl (lv_at hl 0 rfl) ?_
    refine g_MC_35 S hX hH hZ d_MC_remember_14 ?_
    refine lv_aload_n hx hb d_MC_remember_17 rfl (lv_at hl 0 rfl) ?_
    refine g_MC_42 S hX hH hZ d_MC_remember_18 ?_
    obtain ⟨hn1, hf0⟩ := o_in hf0
    refine q_pald_139 (j := (M 138 6).toNatClampNeg) hx hb hX hZ hH hn1 rfl d_MC_remember_21 ?_
    refine lv_aload_n hx hb d_MC_remember_22 rfl (lv_at hl 0 rfl) ?_
    refine g_MC_10 S hX hH hZ d_MC_remember_23 ?_
    obtain ⟨hq2, hf0⟩ := o_gl hf0
    obtain ⟨M4, hc3, hf0⟩ := o_b hf0
    refine q_cVv (As := [.ref (Z.2.2.1 0)]) (rest := []) S hX hH (c_Play_become l hI hZ (8 * (M 139 (M 138 6).toNatClampNeg).toNatClampNeg) 0 M (isPlay_of hq2) isPlay_0 hc3) (cw_MC_68 S.2.2.2.2 (Nat.le_trans (Nat.le_of_ble_eq_true rfl) hR.1) (Nat.le_trans (Nat.le_of_ble_eq_true rfl) hR.2)) (rc_Play hX hH hZ (isPlay_of hq2)) rfl hl.1 rfl (Nat.le_of_ble_eq_true rfl) d_MC_remember_26 ⟨Nat.zero_le _, Nat.zero_le _⟩ (fun H locs hH => ?_)
    refine lv_aload_n hx hb d_MC_remember_29 rfl (lv_at hl 0 rfl) ?_
    refine lv_dup hx hb d_MC_remember_30 rfl ?_
    refine g_MC_42 S hX hH hZ d_MC_remember_31 ?_
    refine lv_iconst (v := (1 : Int32)) hx hb d_MC_remember_34 (by decide) ?_
    refine lv_iadd hx hb d_MC_remember_35 ?_
    obtain ⟨M5, hM5, hf0⟩ := o_l hf0
    refine s_MC_42 S hX hI hH hZ d_MC_remember_36 (fun H locs hH => ?_)
    rw [hM5] at hH
    obtain rfl := o_v hf0
    exact hQ _ _ _ _ hH d_MC_remember_39
  refine lv_aload_n hx hb d_MC_remember_0 rfl (lv_at hl 0 rfl) ?_
  refine g_MC_42 S hX hH hZ d_MC_remember_1 ?_
  refine lv_bipush (v := (10 : Int32)) hx hb d_MC_remember_4 (by decide) ?_
  refine lv_icmp_lt (tgt := 13) hx hb d_MC_remember_6 (by decide) (fun hc => ?_) (fun hc => ?_)
  · replace hf0 := o_t hc hf0
    exact J13 _ _ _ _ hf0 hH (lv_sub hl [0] rfl)
  · replace hf0 := o_f hc hf0
    refine lv_aload_n hx hb d_MC_remember_9 rfl (lv_at hl 0 rfl) ?_
    obtain ⟨M7, hc6, hf0⟩ := o_b hf0
    refine q_cVv (As := []) (rest := []) S hX hH (c_MC_forgetOldest l hI hZ M hc6) (cw_MC_343 S.2.2.2.2 (Nat.le_trans (Nat.le_of_ble_eq_true rfl) hR.1) (Nat.le_trans (Nat.le_of_ble_eq_true rfl) hR.2)) (rc_MC hX hH hZ) rfl hl.1 rfl (Nat.le_of_ble_eq_true rfl) d_MC_remember_10 ⟨Nat.zero_le _, Nat.zero_le _⟩ (fun H locs hH => ?_)
    exact J13 _ _ _ _ hf0 hH (lv_sub hl [0] rfl)
theorem c_MC_remember (l : Launch) {Z : WD} (hI : wI Z) (hZ : IsC Z) (M : Mem) {M' : Mem} (hf : f_MC_remember M = some M') : Cv l Z y_MC_remember b_MC_remember 1 none 2 47 [.ref (Z.2.2.1 138)] M M' := by
  refine Met.ofW (cc := b_MC_remember) (maxL := 1) (ret := none) (by decide) rfl ?_
  intro p e s m args below meth c s₁ B hml hv
  obtain ⟨rfl, hP, hX⟩ := hv
  have S : CallFix p m c b_MC_remember 1 s ([.ref (Z.2.2.1 138)] : List Value).toArray gtb R_MC := ⟨B.exec, B.bytes, hml, findClass_of_methodNamed B.named, fun w hw => atoms_spec (ws := .code y_MC_remember b_MC_remember 1 none :: gtb) B.pre w (List.mem_cons_of_mem _ hw)⟩
  have hl := lv_entry ([.ref (Z.2.2.1 138)]) (n := 1) (Nat.le_of_ble_eq_true rfl)
  rw [lg_entry_eq]
  exact wk_MC_remember hI hZ M S hX ⟨Nat.le_refl _, Nat.le_refl _⟩ (fun pc H locs ls hH d => q_rv S.1 S.2.1 B.returns B.notSynchronized hH rfl d) hf ⟨hP, va_S.rf⟩ hl
theorem cw_MC_74 {R : Room} {s : State} {args : Array Value} (ht : ∀ w ∈ gtb, w.before args s = true) (h1 : 1 + 1 ≤ R.frames) (h2 : 8 + (3 + 11) + 21 ≤ R.locals) : CallW R s args R_MC R_Play 74 y_Play_hasSetting b_Play_hasSetting 3 (some .boolean) (.code y_Play_hasSetting b_Play_hasSetting 3 (some .boolean) :: gtb) { frames := 1, cells := 0, slots := 0, locals := 21 } 0 0 2 := cwV 2 ht (gV w3_49 w3_50 w3_51 w1_2 w3_52) rfl rfl rfl ⟨rfl, by decide, by decide, by decide +kernel⟩ ⟨h1, h2⟩
theorem cw_MC_82 {R : Room} {s : State} {args : Array Value} (ht : ∀ w ∈ gtb, w.before args s = true) (h1 : 2 + 1 ≤ R.frames) (h2 : 8 + (1 + 11) + 47 ≤ R.locals) : CallW R s args R_MC R_MC 82 y_MC_remember b_MC_remember 1 none (.code y_MC_remember b_MC_remember 1 none :: gtb) { frames := 2, cells := 0, slots := 0, locals := 47 } 0 0 0 := cwV 0 ht (gV w3_55 w3_57 ws_MC_remember w1_1 w3_58) rfl rfl rfl ⟨rfl, by decide, by decide, by decide +kernel⟩ ⟨h1, h2⟩
noncomputable def f_MC_settle (M : Mem) (x1 : Int32) (x2 : Int32) : Option (Int32 × Mem) := 
    if (bI (f_Play_hasSetting 0 M x1 x2)) = 0 then some ((-1 : Int32), M) else 
    gIn x1 5 (if (M 1 x1.toNatClampNeg) = x2 then some ((-2 : Int32), M) else 
    bnd (f_MC_remember M) (fun M3 => 
    lt1 (upM M3 1 x1.toNatClampNeg x2) (fun M4 => bnd (f_MC_replay M4) (fun M6 => some (M 1 x1.toNatClampNeg, M6)))))
set_option maxHeartbeats 4000000 in
theorem wk_MC_settle {l : Launch} {Z : WD} (hI : wI Z) (hZ : IsC Z) (M : Mem) (x1 : Int32) (x2 : Int32) {r : Int32} {M' : Mem} {p : Program} {e : Env} {R : Room} {s : State} {m : MethodId} {args : Array Value} {below : List Frame} {meth : Method} {c : Code} {H : Heap} {locs : List Loc} {ls : Array Slot} {Q : State → Prop} (S : CallFix p m c b_MC_settle 4 s args gtb R_MC) (hX : wX Z s) (hR : 6 ≤ R.frames ∧ 135 ≤ R.locals) (hQ : ∀ (pc : Nat) (H : Heap) (locs : List Loc) (ls : Array Slot), HW Z M' s H locs → decode b_MC_settle pc = .ok (.ireturn, 1) → W p l e R s m args below meth c H locs 0 0 Q (F0 m pc ls [.int r])) (hf0 : f_MC_settle M x1 x2 = some (r, M')) (hH : HW Z M s H locs) (hl : lv_has ls 4 [(0, .ref (Z.2.2.1 138)), (1, .int x1), (2, .int x2)]) : W p l e R s m args below meth c H locs 0 0 Q (F0 m 0 ls []) := by
  have hx := S.1
  have hb := S.2.1
  have hown := S.2.2.2.1
  have ht := S.2.2.2.2
  unfold f_MC_settle at hf0
  refine lv_aload_n hx hb d_MC_settle_0 rfl (lv_at hl 0 rfl) ?_
  refine g_MC_10 S hX hH hZ d_MC_settle_1 ?_
  refine lv_iload_n hx hb d_MC_settle_4 rfl (lv_at hl 1 rfl) ?_
  refine lv_iload_n hx hb d_MC_settle_5 rfl (lv_at hl 2 rfl) ?_
  refine q_cVi (As := [.int x1, .int x2]) (rest := []) S hX hH (c_Play_hasSetting l hI hZ 0 M x1 x2 isPlay_0 rfl) (cw_MC_74 S.2.2.2.2 (Nat.le_trans (Nat.le_of_ble_eq_true rfl) hR.1) (Nat.le_trans (Nat.le_of_ble_eq_true rfl) hR.2)) (rc_Play hX hH hZ isPlay_0) rfl hl.1 rfl (Nat.le_of_ble_eq_true rfl) d_MC_settle_6 ⟨Nat.zero_le _, Nat.zero_le _⟩ (fun H locs hH => ?_)
  refine lv_if_ne (tgt := 14) hx hb d_MC_settle_9 (by decide) (fun hc => ?_) (fun hc => ?_)
  · replace hf0 := o_f hc hf0
    refine lv_aload_n hx hb d_MC_settle_14 rfl (lv_at hl 0 rfl) ?_
    refine g_MC_10 S hX hH hZ d_MC_settle_15 ?_
    refine g_MC_78 S hX hH hZ isPlay_0 d_MC_settle_18 ?_
    refine lv_iload_n hx hb d_MC_settle_21 rfl (lv_at hl 1 rfl) ?_
    obtain ⟨hn1, hf0⟩ := o_in hf0
    refine q_iald (j := x1.toNatClampNeg) hx hb hX hH (aa_Play_1 hZ isPlay_0) hn1 rfl d_MC_settle_22 ?_
    refine lv_istore_n (lv' := [(3, .int (M 1 x1.toNatClampNeg)), (0, .ref (Z.2.2.1 138)), (1, .int x1), (2, .int x2)]) hx hb d_MC_settle_23 rfl hl (by decide) rfl (fun ls hl => ?_)
    refine lv_iload_n hx hb d_MC_settle_24 rfl (lv_at hl 0 rfl) ?_
    refine lv_iload_n hx hb d_MC_settle_25 rfl (lv_at hl 3 rfl) ?_
    refine lv_icmp_ne (tgt := 32) hx hb d_MC_settle_26 (by decide) (fun hc => ?_) (fun hc => ?_)
    · replace hf0 := o_f hc hf0
      refine lv_aload_n hx hb d_MC_settle_32 rfl (lv_at hl 1 rfl) ?_
      obtain ⟨M3, hc2, hf0⟩ := o_b hf0
      refine q_cVv (As := []) (rest := []) S hX hH (c_MC_remember l hI hZ M hc2) (cw_MC_82 S.2.2.2.2 (Nat.le_trans (Nat.le_of_ble_eq_true rfl) hR.1) (Nat.le_trans (Nat.le_of_ble_eq_true rfl) hR.2)) (rc_MC hX hH hZ) rfl hl.1 rfl (Nat.le_of_ble_eq_true rfl) d_MC_settle_33 ⟨Nat.zero_le _, Nat.zero_le _⟩ (fun H locs hH => ?_)
      refine lv_aload_n hx hb d_MC_settle_36 rfl (lv_at hl 1 rfl) ?_
      refine g_MC_10 S hX hH hZ d_MC_settle_37 ?_
      refine g_MC_78 S hX hH hZ isPlay_0 d_MC_settle_40 ?_
      refine lv_iload_n hx hb d_MC_settle_43 rfl (lv_at hl 2 rfl) ?_
      refine lv_iload_n hx hb d_MC_settle_44 rfl (lv_at hl 3 rfl) ?_
      obtain ⟨M4, hM4, hf0⟩ := o_l hf0
      refine q_iast (j := x1.toNatClampNeg) hx hb hX hI hH (aa_Play_1 hZ isPlay_0) hn1 rfl d_MC_settle_45 (fun H locs hH => ?_)
      rw [hM4] at hH
      refine lv_aload_n hx hb d_MC_settle_46 rfl (lv_at hl 1 rfl) ?_
      obtain ⟨M6, hc5, hf0⟩ := o_b hf0
      refine q_cVv (As := []) (rest := []) S hX hH (c_MC_replay l hI hZ M4 hc5) (cw_MC_49 S.2.2.2.2 (Nat.le_trans (Nat.le_of_ble_eq_true rfl) hR.1) (Nat.le_trans (Nat.le_of_ble_eq_true rfl) hR.2)) (rc_MC hX hH hZ) rfl hl.1 rfl (Nat.le_of_ble_eq_true rfl) d_MC_settle_47 ⟨Nat.zero_le _, Nat.zero_le _⟩ (fun H locs hH => ?_)
      refine lv_iload_n hx hb d_MC_settle_50 rfl (lv_at hl 0 rfl) ?_
      obtain ⟨rfl, rfl⟩ := o_p hf0
      exact hQ _ _ _ _ hH d_MC_settle_51
    · replace hf0 := o_t hc hf0
      refine lv_bipush (v := (-2 : Int32)) hx hb d_MC_settle_29 (by decide) ?_
      obtain ⟨rfl, rfl⟩ := o_p hf0
      exact hQ _ _ _ _ hH d_MC_settle_31
  · replace hf0 := o_t hc hf0
    refine lv_iconst (v := (-1 : Int32)) hx hb d_MC_settle_12 (by decide) ?_
    obtain ⟨rfl, rfl⟩ := o_p hf0
    exact hQ _ _ _ _ hH d_MC_settle_13
theorem c_MC_settle (l : Launch) {Z : WD} (hI : wI Z) (hZ : IsC Z) (M : Mem) (x1 : Int32) (x2 : Int32) {r : Int32} {M' : Mem} (hf : f_MC_settle M x1 x2 = some (r, M')) : Ci l Z y_MC_settle b_MC_settle 4 (some .int) 6 135 [.ref (Z.2.2.1 138), .int x1, .int x2] M M' r := by
  refine Met.ofW (cc := b_MC_settle) (maxL := 4) (ret := (some .int)) (by decide) rfl ?_
  intro p e s m args below meth c s₁ B hml hv
  obtain ⟨rfl, hP, hX⟩ := hv
  have S : CallFix p m c b_MC_settle 4 s ([.ref (Z.2.2.1 138), .int x1, .int x2] : List Value).toArray gtb R_MC := ⟨B.exec, B.bytes, hml, findClass_of_methodNamed B.named, fun w hw => atoms_spec (ws := .code y_MC_settle b_MC_settle 4 (some .int) :: gtb) B.pre w (List.mem_cons_of_mem _ hw)⟩
  have hl := lv_entry ([.ref (Z.2.2.1 138), .int x1, .int x2]) (n := 4) (Nat.le_of_ble_eq_true rfl)
  rw [lg_entry_eq]
  exact wk_MC_settle hI hZ M x1 x2 S hX ⟨Nat.le_refl _, Nat.le_refl _⟩ (fun pc H locs ls hH d => q_ri S.1 S.2.1 B.returns B.notSynchronized hH rfl rfl d) hf ⟨hP, va_S.rf⟩ hl
theorem cw_MC_85 {R : Room} {s : State} {args : Array Value} (ht : ∀ w ∈ gtb, w.before args s = true) (h1 : 0 + 1 ≤ R.frames) (h2 : 8 + (2 + 11) + 0 ≤ R.locals) : CallW R s args R_MC R_Play 85 y_Play_hasParty b_Play_hasParty 2 (some .boolean) (.code y_Play_hasParty b_Play_hasParty 2 (some .boolean) :: gtb) { frames := 0, cells := 0, slots := 0, locals := 0 } 0 0 1 := cwV 1 ht (gV w3_67 w1_226 w1_227 w1_2 w1_228) rfl rfl rfl ⟨rfl, by decide, by decide, by decide +kernel⟩ ⟨h1, h2⟩
noncomputable def f_MC_lies (M : Mem) (x1 : Int32) : Option (Int32 × Mem) := 
    if (bI (f_Play_hasParty 0 M x1)) = 0 then some ((-1 : Int32), M) else 
    bnd (f_MC_remember M) (fun M2 => 
    lt1 (upM M2 0 1 ((M2 0 1) ^^^ ((1 : Int32) <<< (x1 &&& 31)))) (fun M3 => bnd (f_MC_replay M3) (fun M5 => some (((M5 0 1) >>> (x1 &&& 31)) &&& (1 : Int32), M5))))
set_option maxHeartbeats 4000000 in
theorem wk_MC_lies {l : Launch} {Z : WD} (hI : wI Z) (hZ : IsC Z) (M : Mem) (x1 : Int32) {r : Int32} {M' : Mem} {p : Program} {e : Env} {R : Room} {s : State} {m : MethodId} {args : Array Value} {below : List Frame} {meth : Method} {c : Code} {H : Heap} {locs : List Loc} {ls : Array Slot} {Q : State → Prop} (S : CallFix p m c b_MC_lies 2 s args gtb R_MC) (hX : wX Z s) (hR : 6 ≤ R.frames ∧ 135 ≤ R.locals) (hQ : ∀ (pc : Nat) (H : Heap) (locs : List Loc) (ls : Array Slot), HW Z M' s H locs → decode b_MC_lies pc = .ok (.ireturn, 1) → W p l e R s m args below meth c H locs 0 0 Q (F0 m pc ls [.int r])) (hf0 : f_MC_lies M x1 = some (r, M')) (hH : HW Z M s H locs) (hl : lv_has ls 2 [(0, .ref (Z.2.2.1 138)), (1, .int x1)]) : W p l e R s m args below meth c H locs 0 0 Q (F0 m 0 ls []) := by
  have hx := S.1
  have hb := S.2.1
  have hown := S.2.2.2.1
  have ht := S.2.2.2.2
  unfold f_MC_lies at hf0
  refine lv_aload_n hx hb d_MC_lies_0 rfl (lv_at hl 0 rfl) ?_
  refine g_MC_10 S hX hH hZ d_MC_lies_1 ?_
  refine lv_iload_n hx hb d_MC_lies_4 rfl (lv_at hl 1 rfl) ?_
  refine q_cVi (As := [.int x1]) (rest := []) S hX hH (c_Play_hasParty l hI hZ 0 M x1 isPlay_0 rfl) (cw_MC_85 S.2.2.2.2 (Nat.le_trans (Nat.le_of_ble_eq_true rfl) hR.1) (Nat.le_trans (Nat.le_of_ble_eq_true rfl) hR.2)) (rc_Play hX hH hZ isPlay_0) rfl hl.1 rfl (Nat.le_of_ble_eq_true rfl) d_MC_lies_5 ⟨Nat.zero_le _, Nat.zero_le _⟩ (fun H locs hH => ?_)
  refine lv_if_ne (tgt := 13) hx hb d_MC_lies_8 (by decide) (fun hc => ?_) (fun hc => ?_)
  · replace hf0 := o_f hc hf0
    refine lv_aload_n hx hb d_MC_lies_13 rfl (lv_at hl 0 rfl) ?_
    obtain ⟨M2, hc1, hf0⟩ := o_b hf0
    refine q_cVv (As := []) (rest := []) S hX hH (c_MC_remember l hI hZ M hc1) (cw_MC_82 S.2.2.2.2 (Nat.le_trans (Nat.le_of_ble_eq_true rfl) hR.1) (Nat.le_trans (Nat.le_of_ble_eq_true rfl) hR.2)) (rc_MC hX hH hZ) rfl hl.1 rfl (Nat.le_of_ble_eq_true rfl) d_MC_lies_14 ⟨Nat.zero_le _, Nat.zero_le _⟩ (fun H locs hH => ?_)
    refine lv_aload_n hx hb d_MC_lies_17 rfl (lv_at hl 0 rfl) ?_
    refine g_MC_10 S hX hH hZ d_MC_lies_18 ?_
    refine lv_dup hx hb d_MC_lies_21 rfl ?_
    refine g_MC_89 S hX hH hZ isPlay_0 d_MC_lies_22 ?_
    refine lv_iconst (v := (1 : Int32)) hx hb d_MC_lies_25 (by decide) ?_
    refine lv_iload_n hx hb d_MC_lies_26 rfl (lv_at hl 1 rfl) ?_
    refine lv_ishl hx hb d_MC_lies_27 ?_
    refine lv_ixor hx hb d_MC_lies_28 ?_
    obtain ⟨M3, hM3, hf0⟩ := o_l hf0
    refine s_MC_89 S hX hI hH hZ isPlay_0 d_MC_lies_29 (fun H locs hH => ?_)
    rw [hM3] at hH
    refine lv_aload_n hx hb d_MC_lies_32 rfl (lv_at hl 0 rfl) ?_
    obtain ⟨M5, hc4, hf0⟩ := o_b hf0
    refine q_cVv (As := []) (rest := []) S hX hH (c_MC_replay l hI hZ M3 hc4) (cw_MC_49 S.2.2.2.2 (Nat.le_trans (Nat.le_of_ble_eq_true rfl) hR.1) (Nat.le_trans (Nat.le_of_ble_eq_true rfl) hR.2)) (rc_MC hX hH hZ) rfl hl.1 rfl (Nat.le_of_ble_eq_true rfl) d_MC_lies_33 ⟨Nat.zero_le _, Nat.zero_le _⟩ (fun H locs hH => ?_)
    refine lv_aload_n hx hb d_MC_lies_36 rfl (lv_at hl 0 rfl) ?_
    refine g_MC_10 S hX hH hZ d_MC_lies_37 ?_
    refine g_MC_89 S hX hH hZ isPlay_0 d_MC_lies_40 ?_
    refine lv_iload_n hx hb d_MC_lies_43 rfl (lv_at hl 1 rfl) ?_
    refine lv_ishr hx hb d_MC_lies_44 ?_
    refine lv_iconst (v := (1 : Int32)) hx hb d_MC_lies_45 (by decide) ?_
    refine lv_iand hx hb d_MC_lies_46 ?_
    obtain ⟨rfl, rfl⟩ := o_p hf0
    exact hQ _ _ _ _ hH d_MC_lies_47
  · replace hf0 := o_t hc hf0
    refine lv_iconst (v := (-1 : Int32)) hx hb d_MC_lies_11 (by decide) ?_
    obtain ⟨rfl, rfl⟩ := o_p hf0
    exact hQ _ _ _ _ hH d_MC_lies_12
theorem c_MC_lies (l : Launch) {Z : WD} (hI : wI Z) (hZ : IsC Z) (M : Mem) (x1 : Int32) {r : Int32} {M' : Mem} (hf : f_MC_lies M x1 = some (r, M')) : Ci l Z y_MC_lies b_MC_lies 2 (some .int) 6 135 [.ref (Z.2.2.1 138), .int x1] M M' r := by
  refine Met.ofW (cc := b_MC_lies) (maxL := 2) (ret := (some .int)) (by decide) rfl ?_
  intro p e s m args below meth c s₁ B hml hv
  obtain ⟨rfl, hP, hX⟩ := hv
  have S : CallFix p m c b_MC_lies 2 s ([.ref (Z.2.2.1 138), .int x1] : List Value).toArray gtb R_MC := ⟨B.exec, B.bytes, hml, findClass_of_methodNamed B.named, fun w hw => atoms_spec (ws := .code y_MC_lies b_MC_lies 2 (some .int) :: gtb) B.pre w (List.mem_cons_of_mem _ hw)⟩
  have hl := lv_entry ([.ref (Z.2.2.1 138), .int x1]) (n := 2) (Nat.le_of_ble_eq_true rfl)
  rw [lg_entry_eq]
  exact wk_MC_lies hI hZ M x1 S hX ⟨Nat.le_refl _, Nat.le_refl _⟩ (fun pc H locs ls hH d => q_ri S.1 S.2.1 B.returns B.notSynchronized hH rfl rfl d) hf ⟨hP, va_S.rf⟩ hl
theorem cw_MC_92 {R : Room} {s : State} {args : Array Value} (ht : ∀ w ∈ gtb, w.before args s = true) (h1 : 3 + 1 ≤ R.frames) (h2 : 8 + (5 + 11) + 64 ≤ R.locals) : CallB R s args R_MC 92 y_Chain_ofDigits b_Chain_ofDigits 5 (some .int) (.code y_Chain_ofDigits b_Chain_ofDigits 5 (some .int) :: gtb) { frames := 3, cells := 0, slots := 0, locals := 64 } 0 0 1 ∧ (Cond.static y_Chain_ofDigits).before args s = true := va_cwS 1 ht (gS w3_72 w3_73 w1_6 w3_74) rfl rfl rfl ⟨by decide, by decide, by decide +kernel⟩ ⟨h1, h2⟩
theorem cw_MC_98 {R : Room} {s : State} {args : Array Value} (ht : ∀ w ∈ gtb, w.before args s = true) (h1 : 1 + 1 ≤ R.frames) (h2 : 8 + (4 + 11) + 21 ≤ R.locals) : CallW R s args R_MC R_Play 98 y_Play_hasRoute b_Play_hasRoute 4 (some .boolean) (.code y_Play_hasRoute b_Play_hasRoute 4 (some .boolean) :: gtb) { frames := 1, cells := 0, slots := 0, locals := 21 } 0 0 3 := cwV 3 ht (gV w3_78 w3_79 w3_80 w1_2 w3_81) rfl rfl rfl ⟨rfl, by decide, by decide, by decide +kernel⟩ ⟨h1, h2⟩
theorem cw_MC_102 {R : Room} {s : State} {args : Array Value} (ht : ∀ w ∈ gtb, w.before args s = true) (h1 : 0 + 1 ≤ R.frames) (h2 : 8 + (1 + 11) + 0 ≤ R.locals) : CallB R s args R_MC 102 y_MC_isValue b_MC_isValue 1 (some .boolean) (.code y_MC_isValue b_MC_isValue 1 (some .boolean) :: gtb) { frames := 0, cells := 0, slots := 0, locals := 0 } 0 0 1 ∧ (Cond.static y_MC_isValue).before args s = true := va_cwS 1 ht (gS w3_82 w3_83 w1_1 w3_84) rfl rfl rfl ⟨by decide, by decide, by decide +kernel⟩ ⟨h1, h2⟩
theorem cw_MC_105 {R : Room} {s : State} {args : Array Value} (ht : ∀ w ∈ gtb, w.before args s = true) (h1 : 2 + 1 ≤ R.frames) (h2 : 8 + (2 + 11) + 43 ≤ R.locals) : CallW R s args R_MC R_Play 105 y_Play_hasMarks b_Play_hasMarks 2 (some .boolean) (.code y_Play_hasMarks b_Play_hasMarks 2 (some .boolean) :: gtb) { frames := 2, cells := 0, slots := 0, locals := 43 } 0 0 1 := cwV 1 ht (gV w3_85 w3_86 w3_87 w1_2 w3_88) rfl rfl rfl ⟨rfl, by decide, by decide, by decide +kernel⟩ ⟨h1, h2⟩
theorem cw_MC_111 {R : Room} {s : State} {args : Array Value} (ht : ∀ w ∈ gtb, w.before args s = true) (h1 : 0 + 1 ≤ R.frames) (h2 : 8 + (3 + 11) + 0 ≤ R.locals) : CallB R s args R_MC 111 y_Route_of b_Route_of 3 (some .int) (.code y_Route_of b_Route_of 3 (some .int) :: gtb) { frames := 0, cells := 0, slots := 0, locals := 0 } 0 0 3 ∧ (Cond.static y_Route_of).before args s = true := va_cwS 3 ht (gS w3_90 w2_11 w1_7 w2_12) rfl rfl rfl ⟨by decide, by decide, by decide +kernel⟩ ⟨h1, h2⟩
theorem cw_MC_117 {R : Room} {s : State} {args : Array Value} (ht : ∀ w ∈ gtb, w.before args s = true) (h1 : 0 + 1 ≤ R.frames) (h2 : 8 + (4 + 11) + 0 ≤ R.locals) : CallW R s args R_MC R_Play 117 y_Play_addPlan b_Play_addPlan 4 none (.code y_Play_addPlan b_Play_addPlan 4 none :: gtb) { frames := 0, cells := 0, slots := 0, locals := 0 } 0 0 3 := cwV 3 ht (gV w3_91 w3_1 w3_2 w1_2 w3_3) rfl rfl rfl ⟨rfl, by decide, by decide, by decide +kernel⟩ ⟨h1, h2⟩
noncomputable def f_MC_plan (M : Mem) (x1 : Int32) (x2 : Int32) (x3 : Int32) (x4 : Int32) (x5 : Int32) : Option (Int32 × Mem) := 
    bnd (f_Chain_ofDigits x5) (fun y2 => 
    if (bI (f_Play_hasRoute 0 M x1 x2 x3)) = 0 then some ((-1 : Int32), M) else 
    if (bI (f_MC_isValue x4)) = 0 then some ((-1 : Int32), M) else 
    bnd (f_Play_hasMarks 0 M y2) (fun y4 => 
    if (bI y4) = 0 then some ((-1 : Int32), M) else 
    if (M 0 2) < (16 : Int32) then 
    bnd (f_MC_remember M) (fun M6 => 
    bnd (f_Play_addPlan 0 M6 (f_Route_of x1 x2 x3) x4 y2) (fun M8 => bnd (f_MC_replay M8) (fun M10 => some ((M10 0 2) - (1 : Int32), M10)))) else some ((-3 : Int32), M)))
set_option maxHeartbeats 4000000 in
theorem wk_MC_plan {l : Launch} {Z : WD} (hI : wI Z) (hZ : IsC Z) (M : Mem) (x1 : Int32) (x2 : Int32) (x3 : Int32) (x4 : Int32) (x5 : Int32) {r : Int32} {M' : Mem} {p : Program} {e : Env} {R : Room} {s : State} {m : MethodId} {args : Array Value} {below : List Frame} {meth : Method} {c : Code} {H : Heap} {locs : List Loc} {ls : Array Slot} {Q : State → Prop} (S : CallFix p m c b_MC_plan 7 s args gtb R_MC) (hX : wX Z s) (hR : 6 ≤ R.frames ∧ 135 ≤ R.locals) (hQ : ∀ (pc : Nat) (H : Heap) (locs : List Loc) (ls : Array Slot), HW Z M' s H locs → decode b_MC_plan pc = .ok (.ireturn, 1) → W p l e R s m args below meth c H locs 0 0 Q (F0 m pc ls [.int r])) (hf0 : f_MC_plan M x1 x2 x3 x4 x5 = some (r, M')) (hH : HW Z M s H locs) (hl : lv_has ls 7 [(0, .ref (Z.2.2.1 138)), (1, .int x1), (2, .int x2), (3, .int x3), (4, .int x4), (5, .int x5)]) : W p l e R s m args below meth c H locs 0 0 Q (F0 m 0 ls []) := by
  have hx := S.1
  have hb := S.2.1
  have hown := S.2.2.2.1
  have ht := S.2.2.2.2
  unfold f_MC_plan at hf0
  refine lv_iload hx hb d_MC_plan_0 (lv_at hl 5 rfl) ?_
  obtain ⟨y2, hc1, hf0⟩ := o_b hf0
  refine q_cSi (As := [.int x5]) (rest := []) S hX hH (c_Chain_ofDigits l hI M x5 hc1) (cw_MC_92 S.2.2.2.2 (Nat.le_trans (Nat.le_of_ble_eq_true rfl) hR.1) (Nat.le_trans (Nat.le_of_ble_eq_true rfl) hR.2)) rfl hl.1 rfl (Nat.le_of_ble_eq_true rfl) d_MC_plan_2 ⟨Nat.zero_le _, Nat.zero_le _⟩ (fun H locs hH => ?_)
  refine lv_istore (lv' := [(6, .int y2), (0, .ref (Z.2.2.1 138)), (1, .int x1), (2, .int x2), (3, .int x3), (4, .int x4), (5, .int x5)]) hx hb d_MC_plan_5 hl (by decide) rfl (fun ls hl => ?_)
  refine lv_aload_n hx hb d_MC_plan_7 rfl (lv_at hl 1 rfl) ?_
  refine g_MC_10 S hX hH hZ d_MC_plan_8 ?_
  refine lv_iload_n hx hb d_MC_plan_11 rfl (lv_at hl 2 rfl) ?_
  refine lv_iload_n hx hb d_MC_plan_12 rfl (lv_at hl 3 rfl) ?_
  refine lv_iload_n hx hb d_MC_plan_13 rfl (lv_at hl 4 rfl) ?_
  refine q_cVi (As := [.int x1, .int x2, .int x3]) (rest := []) S hX hH (c_Play_hasRoute l hI hZ 0 M x1 x2 x3 isPlay_0 rfl) (cw_MC_98 S.2.2.2.2 (Nat.le_trans (Nat.le_of_ble_eq_true rfl) hR.1) (Nat.le_trans (Nat.le_of_ble_eq_true rfl) hR.2)) (rc_Play hX hH hZ isPlay_0) rfl hl.1 rfl (Nat.le_of_ble_eq_true rfl) d_MC_plan_14 ⟨Nat.zero_le _, Nat.zero_le _⟩ (fun H locs hH => ?_)
  refine lv_if_eq (tgt := 40) hx hb d_MC_plan_17 (by decide) (fun hc => ?_) (fun hc => ?_)
  · replace hf0 := o_t hc hf0
    refine lv_iconst (v := (-1 : Int32)) hx hb d_MC_plan_40 (by decide) ?_
    obtain ⟨rfl, rfl⟩ := o_p hf0
    exact hQ _ _ _ _ hH d_MC_plan_41
  · replace hf0 := o_f hc hf0
    refine lv_iload hx hb d_MC_plan_20 (lv_at hl 5 rfl) ?_
    refine q_cSi (As := [.int x4]) (rest := []) S hX hH (c_MC_isValue l hI M x4 rfl) (cw_MC_102 S.2.2.2.2 (Nat.le_trans (Nat.le_of_ble_eq_true rfl) hR.1) (Nat.le_trans (Nat.le_of_ble_eq_true rfl) hR.2)) rfl hl.1 rfl (Nat.le_of_ble_eq_true rfl) d_MC_plan_22 ⟨Nat.zero_le _, Nat.zero_le _⟩ (fun H locs hH => ?_)
    refine lv_if_eq (tgt := 40) hx hb d_MC_plan_25 (by decide) (fun hc => ?_) (fun hc => ?_)
    · replace hf0 := o_t hc hf0
      refine lv_iconst (v := (-1 : Int32)) hx hb d_MC_plan_40 (by decide) ?_
      obtain ⟨rfl, rfl⟩ := o_p hf0
      exact hQ _ _ _ _ hH d_MC_plan_41
    · replace hf0 := o_f hc hf0
      refine lv_aload_n hx hb d_MC_plan_28 rfl (lv_at hl 1 rfl) ?_
      refine g_MC_10 S hX hH hZ d_MC_plan_29 ?_
      refine lv_iload hx hb d_MC_plan_32 (lv_at hl 0 rfl) ?_
      obtain ⟨y4, hc3, hf0⟩ := o_b hf0
      refine q_cVi (As := [.int y2]) (rest := []) S hX hH (c_Play_hasMarks l hI hZ 0 M y2 isPlay_0 hc3) (cw_MC_105 S.2.2.2.2 (Nat.le_trans (Nat.le_of_ble_eq_true rfl) hR.1) (Nat.le_trans (Nat.le_of_ble_eq_true rfl) hR.2)) (rc_Play hX hH hZ isPlay_0) rfl hl.1 rfl (Nat.le_of_ble_eq_true rfl) d_MC_plan_34 ⟨Nat.zero_le _, Nat.zero_le _⟩ (fun H locs hH => ?_)
      refine lv_if_ne (tgt := 42) hx hb d_MC_plan_37 (by decide) (fun hc => ?_) (fun hc => ?_)
      · replace hf0 := o_f hc hf0
        refine lv_aload_n hx hb d_MC_plan_42 rfl (lv_at hl 1 rfl) ?_
        refine g_MC_10 S hX hH hZ d_MC_plan_43 ?_
        refine g_MC_108 S hX hH hZ isPlay_0 d_MC_plan_46 ?_
        refine lv_bipush (v := (16 : Int32)) hx hb d_MC_plan_49 (by decide) ?_
        refine lv_icmp_lt (tgt := 57) hx hb d_MC_plan_51 (by decide) (fun hc => ?_) (fun hc => ?_)
        · replace hf0 := o_t hc hf0
          refine lv_aload_n hx hb d_MC_plan_57 rfl (lv_at hl 1 rfl) ?_
          obtain ⟨M6, hc5, hf0⟩ := o_b hf0
          refine q_cVv (As := []) (rest := []) S hX hH (c_MC_remember l hI hZ M hc5) (cw_MC_82 S.2.2.2.2 (Nat.le_trans (Nat.le_of_ble_eq_true rfl) hR.1) (Nat.le_trans (Nat.le_of_ble_eq_true rfl) hR.2)) (rc_MC hX hH hZ) rfl hl.1 rfl (Nat.le_of_ble_eq_true rfl) d_MC_plan_58 ⟨Nat.zero_le _, Nat.zero_le _⟩ (fun H locs hH => ?_)
          refine lv_aload_n hx hb d_MC_plan_61 rfl (lv_at hl 1 rfl) ?_
          refine g_MC_10 S hX hH hZ d_MC_plan_62 ?_
          refine lv_iload_n hx hb d_MC_plan_65 rfl (lv_at hl 2 rfl) ?_
          refine lv_iload_n hx hb d_MC_plan_66 rfl (lv_at hl 3 rfl) ?_
          refine lv_iload_n hx hb d_MC_plan_67 rfl (lv_at hl 4 rfl) ?_
          refine q_cSi (As := [.int x1, .int x2, .int x3]) (rest := [.ref (Z.2.2.1 0)]) S hX hH (c_Route_of l hI M6 x1 x2 x3 rfl) (cw_MC_111 S.2.2.2.2 (Nat.le_trans (Nat.le_of_ble_eq_true rfl) hR.1) (Nat.le_trans (Nat.le_of_ble_eq_true rfl) hR.2)) rfl hl.1 rfl (Nat.le_of_ble_eq_true rfl) d_MC_plan_68 ⟨Nat.zero_le _, Nat.zero_le _⟩ (fun H locs hH => ?_)
          refine lv_iload hx hb d_MC_plan_71 (lv_at hl 5 rfl) ?_
          refine lv_iload hx hb d_MC_plan_73 (lv_at hl 0 rfl) ?_
          obtain ⟨M8, hc7, hf0⟩ := o_b hf0
          refine q_cVv (As := [.int (f_Route_of x1 x2 x3), .int x4, .int y2]) (rest := []) S hX hH (c_Play_addPlan l hI hZ 0 M6 (f_Route_of x1 x2 x3) x4 y2 isPlay_0 hc7) (cw_MC_117 S.2.2.2.2 (Nat.le_trans (Nat.le_of_ble_eq_true rfl) hR.1) (Nat.le_trans (Nat.le_of_ble_eq_true rfl) hR.2)) (rc_Play hX hH hZ isPlay_0) rfl hl.1 rfl (Nat.le_of_ble_eq_true rfl) d_MC_plan_75 ⟨Nat.zero_le _, Nat.zero_le _⟩ (fun H locs hH => ?_)
          refine lv_aload_n hx hb d_MC_plan_78 rfl (lv_at hl 1 rfl) ?_
          obtain ⟨M10, hc9, hf0⟩ := o_b hf0
          refine q_cVv (As := []) (rest := []) S hX hH (c_MC_replay l hI hZ M8 hc9) (cw_MC_49 S.2.2.2.2 (Nat.le_trans (Nat.le_of_ble_eq_true rfl) hR.1) (Nat.le_trans (Nat.le_of_ble_eq_true rfl) hR.2)) (rc_MC hX hH hZ) rfl hl.1 rfl (Nat.le_of_ble_eq_true rfl) d_MC_plan_79 ⟨Nat.zero_le _, Nat.zero_le _⟩ (fun H locs hH => ?_)
          refine lv_aload_n hx hb d_MC_plan_82 rfl (lv_at hl 1 rfl) ?_
          refine g_MC_10 S hX hH hZ d_MC_plan_83 ?_
          refine g_MC_108 S hX hH hZ isPlay_0 d_MC_plan_86 ?_
          refine lv_iconst (v := (1 : Int32)) hx hb d_MC_plan_89 (by decide) ?_
          refine lv_isub hx hb d_MC_plan_90 ?_
          obtain ⟨rfl, rfl⟩ := o_p hf0
          exact hQ _ _ _ _ hH d_MC_plan_91
        · replace hf0 := o_f hc hf0
          refine lv_bipush (v := (-3 : Int32)) hx hb d_MC_plan_54 (by decide) ?_
          obtain ⟨rfl, rfl⟩ := o_p hf0
          exact hQ _ _ _ _ hH d_MC_plan_56
      · replace hf0 := o_t hc hf0
        refine lv_iconst (v := (-1 : Int32)) hx hb d_MC_plan_40 (by decide) ?_
        obtain ⟨rfl, rfl⟩ := o_p hf0
        exact hQ _ _ _ _ hH d_MC_plan_41
theorem c_MC_plan (l : Launch) {Z : WD} (hI : wI Z) (hZ : IsC Z) (M : Mem) (x1 : Int32) (x2 : Int32) (x3 : Int32) (x4 : Int32) (x5 : Int32) {r : Int32} {M' : Mem} (hf : f_MC_plan M x1 x2 x3 x4 x5 = some (r, M')) : Ci l Z y_MC_plan b_MC_plan 7 (some .int) 6 135 [.ref (Z.2.2.1 138), .int x1, .int x2, .int x3, .int x4, .int x5] M M' r := by
  refine Met.ofW (cc := b_MC_plan) (maxL := 7) (ret := (some .int)) (by decide) rfl ?_
  intro p e s m args below meth c s₁ B hml hv
  obtain ⟨rfl, hP, hX⟩ := hv
  have S : CallFix p m c b_MC_plan 7 s ([.ref (Z.2.2.1 138), .int x1, .int x2, .int x3, .int x4, .int x5] : List Value).toArray gtb R_MC := ⟨B.exec, B.bytes, hml, findClass_of_methodNamed B.named, fun w hw => atoms_spec (ws := .code y_MC_plan b_MC_plan 7 (some .int) :: gtb) B.pre w (List.mem_cons_of_mem _ hw)⟩
  have hl := lv_entry ([.ref (Z.2.2.1 138), .int x1, .int x2, .int x3, .int x4, .int x5]) (n := 7) (Nat.le_of_ble_eq_true rfl)
  rw [lg_entry_eq]
  exact wk_MC_plan hI hZ M x1 x2 x3 x4 x5 S hX ⟨Nat.le_refl _, Nat.le_refl _⟩ (fun pc H locs ls hH d => q_ri S.1 S.2.1 B.returns B.notSynchronized hH rfl rfl d) hf ⟨hP, va_S.rf⟩ hl
theorem cw_MC_121 {R : Room} {s : State} {args : Array Value} (ht : ∀ w ∈ gtb, w.before args s = true) (h1 : 0 + 1 ≤ R.frames) (h2 : 8 + (2 + 11) + 0 ≤ R.locals) : CallW R s args R_MC R_Play 121 y_Play_sizeOf b_Play_sizeOf 2 (some .int) (.code y_Play_sizeOf b_Play_sizeOf 2 (some .int) :: gtb) { frames := 0, cells := 0, slots := 0, locals := 0 } 0 0 1 := cwV 1 ht (gV w3_96 w3_97 w3_98 w1_2 w3_99) rfl rfl rfl ⟨rfl, by decide, by decide, by decide +kernel⟩ ⟨h1, h2⟩
theorem cw_MC_124 {R : Room} {s : State} {args : Array Value} (ht : ∀ w ∈ gtb, w.before args s = true) (h1 : 2 + 1 ≤ R.frames) (h2 : 8 + (3 + 11) + 43 ≤ R.locals) : CallW R s args R_MC R_Play 124 y_Play_remove b_Play_remove 3 none (.code y_Play_remove b_Play_remove 3 none :: gtb) { frames := 2, cells := 0, slots := 0, locals := 43 } 0 0 2 := cwV 2 ht (gV w3_100 w3_101 w3_102 w1_2 w3_103) rfl rfl rfl ⟨rfl, by decide, by decide, by decide +kernel⟩ ⟨h1, h2⟩
noncomputable def f_MC_drop (M : Mem) (x1 : Int32) (x2 : Int32) : Option (Int32 × Mem) := 
    if x2 < 0 then some ((-1 : Int32), M) else 
    if x2 < (f_Play_sizeOf 0 M x1) then 
    bnd (f_MC_remember M) (fun M2 => 
    bnd (f_Play_remove 0 M2 x1 x2) (fun M4 => bnd (f_MC_replay M4) (fun M6 => some (f_Play_sizeOf 0 M6 x1, M6)))) else some ((-1 : Int32), M)
set_option maxHeartbeats 4000000 in
theorem wk_MC_drop {l : Launch} {Z : WD} (hI : wI Z) (hZ : IsC Z) (M : Mem) (x1 : Int32) (x2 : Int32) {r : Int32} {M' : Mem} {p : Program} {e : Env} {R : Room} {s : State} {m : MethodId} {args : Array Value} {below : List Frame} {meth : Method} {c : Code} {H : Heap} {locs : List Loc} {ls : Array Slot} {Q : State → Prop} (S : CallFix p m c b_MC_drop 3 s args gtb R_MC) (hX : wX Z s) (hR : 6 ≤ R.frames ∧ 135 ≤ R.locals) (hQ : ∀ (pc : Nat) (H : Heap) (locs : List Loc) (ls : Array Slot), HW Z M' s H locs → decode b_MC_drop pc = .ok (.ireturn, 1) → W p l e R s m args below meth c H locs 0 0 Q (F0 m pc ls [.int r])) (hf0 : f_MC_drop M x1 x2 = some (r, M')) (hH : HW Z M s H locs) (hl : lv_has ls 3 [(0, .ref (Z.2.2.1 138)), (1, .int x1), (2, .int x2)]) : W p l e R s m args below meth c H locs 0 0 Q (F0 m 0 ls []) := by
  have hx := S.1
  have hb := S.2.1
  have hown := S.2.2.2.1
  have ht := S.2.2.2.2
  unfold f_MC_drop at hf0
  refine lv_iload_n hx hb d_MC_drop_0 rfl (lv_at hl 2 rfl) ?_
  refine lv_if_lt (tgt := 16) hx hb d_MC_drop_1 (by decide) (fun hc => ?_) (fun hc => ?_)
  · replace hf0 := o_t hc hf0
    refine lv_iconst (v := (-1 : Int32)) hx hb d_MC_drop_16 (by decide) ?_
    obtain ⟨rfl, rfl⟩ := o_p hf0
    exact hQ _ _ _ _ hH d_MC_drop_17
  · replace hf0 := o_f hc hf0
    refine lv_iload_n hx hb d_MC_drop_4 rfl (lv_at hl 2 rfl) ?_
    refine lv_aload_n hx hb d_MC_drop_5 rfl (lv_at hl 0 rfl) ?_
    refine g_MC_10 S hX hH hZ d_MC_drop_6 ?_
    refine lv_iload_n hx hb d_MC_drop_9 rfl (lv_at hl 1 rfl) ?_
    refine q_cVi (As := [.int x1]) (rest := [.int x2]) S hX hH (c_Play_sizeOf l hI hZ 0 M x1 isPlay_0 rfl) (cw_MC_121 S.2.2.2.2 (Nat.le_trans (Nat.le_of_ble_eq_true rfl) hR.1) (Nat.le_trans (Nat.le_of_ble_eq_true rfl) hR.2)) (rc_Play hX hH hZ isPlay_0) rfl hl.1 rfl (Nat.le_of_ble_eq_true rfl) d_MC_drop_10 ⟨Nat.zero_le _, Nat.zero_le _⟩ (fun H locs hH => ?_)
    refine lv_icmp_lt (tgt := 18) hx hb d_MC_drop_13 (by decide) (fun hc => ?_) (fun hc => ?_)
    · replace hf0 := o_t hc hf0
      refine lv_aload_n hx hb d_MC_drop_18 rfl (lv_at hl 0 rfl) ?_
      obtain ⟨M2, hc1, hf0⟩ := o_b hf0
      refine q_cVv (As := []) (rest := []) S hX hH (c_MC_remember l hI hZ M hc1) (cw_MC_82 S.2.2.2.2 (Nat.le_trans (Nat.le_of_ble_eq_true rfl) hR.1) (Nat.le_trans (Nat.le_of_ble_eq_true rfl) hR.2)) (rc_MC hX hH hZ) rfl hl.1 rfl (Nat.le_of_ble_eq_true rfl) d_MC_drop_19 ⟨Nat.zero_le _, Nat.zero_le _⟩ (fun H locs hH => ?_)
      refine lv_aload_n hx hb d_MC_drop_22 rfl (lv_at hl 0 rfl) ?_
      refine g_MC_10 S hX hH hZ d_MC_drop_23 ?_
      refine lv_iload_n hx hb d_MC_drop_26 rfl (lv_at hl 1 rfl) ?_
      refine lv_iload_n hx hb d_MC_drop_27 rfl (lv_at hl 2 rfl) ?_
      obtain ⟨M4, hc3, hf0⟩ := o_b hf0
      refine q_cVv (As := [.int x1, .int x2]) (rest := []) S hX hH (c_Play_remove l hI hZ 0 M2 x1 x2 isPlay_0 hc3) (cw_MC_124 S.2.2.2.2 (Nat.le_trans (Nat.le_of_ble_eq_true rfl) hR.1) (Nat.le_trans (Nat.le_of_ble_eq_true rfl) hR.2)) (rc_Play hX hH hZ isPlay_0) rfl hl.1 rfl (Nat.le_of_ble_eq_true rfl) d_MC_drop_28 ⟨Nat.zero_le _, Nat.zero_le _⟩ (fun H locs hH => ?_)
      refine lv_aload_n hx hb d_MC_drop_31 rfl (lv_at hl 0 rfl) ?_
      obtain ⟨M6, hc5, hf0⟩ := o_b hf0
      refine q_cVv (As := []) (rest := []) S hX hH (c_MC_replay l hI hZ M4 hc5) (cw_MC_49 S.2.2.2.2 (Nat.le_trans (Nat.le_of_ble_eq_true rfl) hR.1) (Nat.le_trans (Nat.le_of_ble_eq_true rfl) hR.2)) (rc_MC hX hH hZ) rfl hl.1 rfl (Nat.le_of_ble_eq_true rfl) d_MC_drop_32 ⟨Nat.zero_le _, Nat.zero_le _⟩ (fun H locs hH => ?_)
      refine lv_aload_n hx hb d_MC_drop_35 rfl (lv_at hl 0 rfl) ?_
      refine g_MC_10 S hX hH hZ d_MC_drop_36 ?_
      refine lv_iload_n hx hb d_MC_drop_39 rfl (lv_at hl 1 rfl) ?_
      refine q_cVi (As := [.int x1]) (rest := []) S hX hH (c_Play_sizeOf l hI hZ 0 M6 x1 isPlay_0 rfl) (cw_MC_121 S.2.2.2.2 (Nat.le_trans (Nat.le_of_ble_eq_true rfl) hR.1) (Nat.le_trans (Nat.le_of_ble_eq_true rfl) hR.2)) (rc_Play hX hH hZ isPlay_0) rfl hl.1 rfl (Nat.le_of_ble_eq_true rfl) d_MC_drop_40 ⟨Nat.zero_le _, Nat.zero_le _⟩ (fun H locs hH => ?_)
      obtain ⟨rfl, rfl⟩ := o_p hf0
      exact hQ _ _ _ _ hH d_MC_drop_43
    · replace hf0 := o_f hc hf0
      refine lv_iconst (v := (-1 : Int32)) hx hb d_MC_drop_16 (by decide) ?_
      obtain ⟨rfl, rfl⟩ := o_p hf0
      exact hQ _ _ _ _ hH d_MC_drop_17
theorem c_MC_drop (l : Launch) {Z : WD} (hI : wI Z) (hZ : IsC Z) (M : Mem) (x1 : Int32) (x2 : Int32) {r : Int32} {M' : Mem} (hf : f_MC_drop M x1 x2 = some (r, M')) : Ci l Z y_MC_drop b_MC_drop 3 (some .int) 6 135 [.ref (Z.2.2.1 138), .int x1, .int x2] M M' r := by
  refine Met.ofW (cc := b_MC_drop) (maxL := 3) (ret := (some .int)) (by decide) rfl ?_
  intro p e s m args below meth c s₁ B hml hv
  obtain ⟨rfl, hP, hX⟩ := hv
  have S : CallFix p m c b_MC_drop 3 s ([.ref (Z.2.2.1 138), .int x1, .int x2] : List Value).toArray gtb R_MC := ⟨B.exec, B.bytes, hml, findClass_of_methodNamed B.named, fun w hw => atoms_spec (ws := .code y_MC_drop b_MC_drop 3 (some .int) :: gtb) B.pre w (List.mem_cons_of_mem _ hw)⟩
  have hl := lv_entry ([.ref (Z.2.2.1 138), .int x1, .int x2]) (n := 3) (Nat.le_of_ble_eq_true rfl)
  rw [lg_entry_eq]
  exact wk_MC_drop hI hZ M x1 x2 S hX ⟨Nat.le_refl _, Nat.le_refl _⟩ (fun pc H locs ls hH d => q_ri S.1 S.2.1 B.returns B.notSynchronized hH rfl rfl d) hf ⟨hP, va_S.rf⟩ hl
theorem cw_MC_128 {R : Room} {s : State} {args : Array Value} (ht : ∀ w ∈ gtb, w.before args s = true) (h1 : 1 + 1 ≤ R.frames) (h2 : 8 + (2 + 11) + 23 ≤ R.locals) : CallW R s args R_MC R_Play 128 y_Play_isOmitted b_Play_isOmitted 2 (some .boolean) (.code y_Play_isOmitted b_Play_isOmitted 2 (some .boolean) :: gtb) { frames := 1, cells := 0, slots := 0, locals := 23 } 0 0 1 := cwV 1 ht (gV w3_114 w3_9 w3_10 w1_2 w3_11) rfl rfl rfl ⟨rfl, by decide, by decide, by decide +kernel⟩ ⟨h1, h2⟩
theorem cw_MC_134 {R : Room} {s : State} {args : Array Value} (ht : ∀ w ∈ gtb, w.before args s = true) (h1 : 0 + 1 ≤ R.frames) (h2 : 8 + (2 + 11) + 0 ≤ R.locals) : CallW R s args R_MC R_Play 134 y_Play_addOmit b_Play_addOmit 2 none (.code y_Play_addOmit b_Play_addOmit 2 none :: gtb) { frames := 0, cells := 0, slots := 0, locals := 0 } 0 0 1 := cwV 1 ht (gV w3_115 w3_16 w3_17 w1_2 w3_18) rfl rfl rfl ⟨rfl, by decide, by decide, by decide +kernel⟩ ⟨h1, h2⟩
noncomputable def f_MC_omit (M : Mem) (x1 : Int32) (x2 : Int32) (x3 : Int32) : Option (Int32 × Mem) := 
    if (bI (f_Play_hasRoute 0 M x1 x2 x3)) = 0 then some ((-1 : Int32), M) else 
    bnd (f_Play_isOmitted 0 M (f_Route_of x1 x2 x3)) (fun y2 => 
    if (bI y2) = 0 then 
    if (M 0 3) < (12 : Int32) then 
    bnd (f_MC_remember M) (fun M4 => 
    bnd (f_Play_addOmit 0 M4 (f_Route_of x1 x2 x3)) (fun M6 => bnd (f_MC_replay M6) (fun M8 => some ((M8 0 3) - (1 : Int32), M8)))) else some ((-3 : Int32), M) else some ((-2 : Int32), M))
set_option maxHeartbeats 4000000 in
theorem wk_MC_omit {l : Launch} {Z : WD} (hI : wI Z) (hZ : IsC Z) (M : Mem) (x1 : Int32) (x2 : Int32) (x3 : Int32) {r : Int32} {M' : Mem} {p : Program} {e : Env} {R : Room} {s : State} {m : MethodId} {args : Array Value} {below : List Frame} {meth : Method} {c : Code} {H : Heap} {locs : List Loc} {ls : Array Slot} {Q : State → Prop} (S : CallFix p m c b_MC_omit 5 s args gtb R_MC) (hX : wX Z s) (hR : 6 ≤ R.frames ∧ 135 ≤ R.locals) (hQ : ∀ (pc : Nat) (H : Heap) (locs : List Loc) (ls : Array Slot), HW Z M' s H locs → decode b_MC_omit pc = .ok (.ireturn, 1) → W p l e R s m args below meth c H locs 0 0 Q (F0 m pc ls [.int r])) (hf0 : f_MC_omit M x1 x2 x3 = some (r, M')) (hH : HW Z M s H locs) (hl : lv_has ls 5 [(0, .ref (Z.2.2.1 138)), (1, .int x1), (2, .int x2), (3, .int x3)]) : W p l e R s m args below meth c H locs 0 0 Q (F0 m 0 ls []) := by
  have hx := S.1
  have hb := S.2.1
  have hown := S.2.2.2.1
  have ht := S.2.2.2.2
  unfold f_MC_omit at hf0
  refine lv_aload_n hx hb d_MC_omit_0 rfl (lv_at hl 0 rfl) ?_
  refine g_MC_10 S hX hH hZ d_MC_omit_1 ?_
  refine lv_iload_n hx hb d_MC_omit_4 rfl (lv_at hl 1 rfl) ?_
  refine lv_iload_n hx hb d_MC_omit_5 rfl (lv_at hl 2 rfl) ?_
  refine lv_iload_n hx hb d_MC_omit_6 rfl (lv_at hl 3 rfl) ?_
  refine q_cVi (As := [.int x1, .int x2, .int x3]) (rest := []) S hX hH (c_Play_hasRoute l hI hZ 0 M x1 x2 x3 isPlay_0 rfl) (cw_MC_98 S.2.2.2.2 (Nat.le_trans (Nat.le_of_ble_eq_true rfl) hR.1) (Nat.le_trans (Nat.le_of_ble_eq_true rfl) hR.2)) (rc_Play hX hH hZ isPlay_0) rfl hl.1 rfl (Nat.le_of_ble_eq_true rfl) d_MC_omit_7 ⟨Nat.zero_le _, Nat.zero_le _⟩ (fun H locs hH => ?_)
  refine lv_if_ne (tgt := 15) hx hb d_MC_omit_10 (by decide) (fun hc => ?_) (fun hc => ?_)
  · replace hf0 := o_f hc hf0
    refine lv_iload_n hx hb d_MC_omit_15 rfl (lv_at hl 1 rfl) ?_
    refine lv_iload_n hx hb d_MC_omit_16 rfl (lv_at hl 2 rfl) ?_
    refine lv_iload_n hx hb d_MC_omit_17 rfl (lv_at hl 3 rfl) ?_
    refine q_cSi (As := [.int x1, .int x2, .int x3]) (rest := []) S hX hH (c_Route_of l hI M x1 x2 x3 rfl) (cw_MC_111 S.2.2.2.2 (Nat.le_trans (Nat.le_of_ble_eq_true rfl) hR.1) (Nat.le_trans (Nat.le_of_ble_eq_true rfl) hR.2)) rfl hl.1 rfl (Nat.le_of_ble_eq_true rfl) d_MC_omit_18 ⟨Nat.zero_le _, Nat.zero_le _⟩ (fun H locs hH => ?_)
    refine lv_istore (lv' := [(4, .int (f_Route_of x1 x2 x3)), (0, .ref (Z.2.2.1 138)), (1, .int x1), (2, .int x2), (3, .int x3)]) hx hb d_MC_omit_21 hl (by decide) rfl (fun ls hl => ?_)
    refine lv_aload_n hx hb d_MC_omit_23 rfl (lv_at hl 1 rfl) ?_
    refine g_MC_10 S hX hH hZ d_MC_omit_24 ?_
    refine lv_iload hx hb d_MC_omit_27 (lv_at hl 0 rfl) ?_
    obtain ⟨y2, hc1, hf0⟩ := o_b hf0
    refine q_cVi (As := [.int (f_Route_of x1 x2 x3)]) (rest := []) S hX hH (c_Play_isOmitted l hI hZ 0 M (f_Route_of x1 x2 x3) isPlay_0 hc1) (cw_MC_128 S.2.2.2.2 (Nat.le_trans (Nat.le_of_ble_eq_true rfl) hR.1) (Nat.le_trans (Nat.le_of_ble_eq_true rfl) hR.2)) (rc_Play hX hH hZ isPlay_0) rfl hl.1 rfl (Nat.le_of_ble_eq_true rfl) d_MC_omit_29 ⟨Nat.zero_le _, Nat.zero_le _⟩ (fun H locs hH => ?_)
    refine lv_if_eq (tgt := 38) hx hb d_MC_omit_32 (by decide) (fun hc => ?_) (fun hc => ?_)
    · replace hf0 := o_t hc hf0
      refine lv_aload_n hx hb d_MC_omit_38 rfl (lv_at hl 1 rfl) ?_
      refine g_MC_10 S hX hH hZ d_MC_omit_39 ?_
      refine g_MC_131 S hX hH hZ isPlay_0 d_MC_omit_42 ?_
      refine lv_bipush (v := (12 : Int32)) hx hb d_MC_omit_45 (by decide) ?_
      refine lv_icmp_lt (tgt := 53) hx hb d_MC_omit_47 (by decide) (fun hc => ?_) (fun hc => ?_)
      · replace hf0 := o_t hc hf0
        refine lv_aload_n hx hb d_MC_omit_53 rfl (lv_at hl 1 rfl) ?_
        obtain ⟨M4, hc3, hf0⟩ := o_b hf0
        refine q_cVv (As := []) (rest := []) S hX hH (c_MC_remember l hI hZ M hc3) (cw_MC_82 S.2.2.2.2 (Nat.le_trans (Nat.le_of_ble_eq_true rfl) hR.1) (Nat.le_trans (Nat.le_of_ble_eq_true rfl) hR.2)) (rc_MC hX hH hZ) rfl hl.1 rfl (Nat.le_of_ble_eq_true rfl) d_MC_omit_54 ⟨Nat.zero_le _, Nat.zero_le _⟩ (fun H locs hH => ?_)
        refine lv_aload_n hx hb d_MC_omit_57 rfl (lv_at hl 1 rfl) ?_
        refine g_MC_10 S hX hH hZ d_MC_omit_58 ?_
        refine lv_iload hx hb d_MC_omit_61 (lv_at hl 0 rfl) ?_
        obtain ⟨M6, hc5, hf0⟩ := o_b hf0
        refine q_cVv (As := [.int (f_Route_of x1 x2 x3)]) (rest := []) S hX hH (c_Play_addOmit l hI hZ 0 M4 (f_Route_of x1 x2 x3) isPlay_0 hc5) (cw_MC_134 S.2.2.2.2 (Nat.le_trans (Nat.le_of_ble_eq_true rfl) hR.1) (Nat.le_trans (Nat.le_of_ble_eq_true rfl) hR.2)) (rc_Play hX hH hZ isPlay_0) rfl hl.1 rfl (Nat.le_of_ble_eq_true rfl) d_MC_omit_63 ⟨Nat.zero_le _, Nat.zero_le _⟩ (fun H locs hH => ?_)
        refine lv_aload_n hx hb d_MC_omit_66 rfl (lv_at hl 1 rfl) ?_
        obtain ⟨M8, hc7, hf0⟩ := o_b hf0
        refine q_cVv (As := []) (rest := []) S hX hH (c_MC_replay l hI hZ M6 hc7) (cw_MC_49 S.2.2.2.2 (Nat.le_trans (Nat.le_of_ble_eq_true rfl) hR.1) (Nat.le_trans (Nat.le_of_ble_eq_true rfl) hR.2)) (rc_MC hX hH hZ) rfl hl.1 rfl (Nat.le_of_ble_eq_true rfl) d_MC_omit_67 ⟨Nat.zero_le _, Nat.zero_le _⟩ (fun H locs hH => ?_)
        refine lv_aload_n hx hb d_MC_omit_70 rfl (lv_at hl 1 rfl) ?_
        refine g_MC_10 S hX hH hZ d_MC_omit_71 ?_
        refine g_MC_131 S hX hH hZ isPlay_0 d_MC_omit_74 ?_
        refine lv_iconst (v := (1 : Int32)) hx hb d_MC_omit_77 (by decide) ?_
        refine lv_isub hx hb d_MC_omit_78 ?_
        obtain ⟨rfl, rfl⟩ := o_p hf0
        exact hQ _ _ _ _ hH d_MC_omit_79
      · replace hf0 := o_f hc hf0
        refine lv_bipush (v := (-3 : Int32)) hx hb d_MC_omit_50 (by decide) ?_
        obtain ⟨rfl, rfl⟩ := o_p hf0
        exact hQ _ _ _ _ hH d_MC_omit_52
    · replace hf0 := o_f hc hf0
      refine lv_bipush (v := (-2 : Int32)) hx hb d_MC_omit_35 (by decide) ?_
      obtain ⟨rfl, rfl⟩ := o_p hf0
      exact hQ _ _ _ _ hH d_MC_omit_37
  · replace hf0 := o_t hc hf0
    refine lv_iconst (v := (-1 : Int32)) hx hb d_MC_omit_13 (by decide) ?_
    obtain ⟨rfl, rfl⟩ := o_p hf0
    exact hQ _ _ _ _ hH d_MC_omit_14
theorem c_MC_omit (l : Launch) {Z : WD} (hI : wI Z) (hZ : IsC Z) (M : Mem) (x1 : Int32) (x2 : Int32) (x3 : Int32) {r : Int32} {M' : Mem} (hf : f_MC_omit M x1 x2 x3 = some (r, M')) : Ci l Z y_MC_omit b_MC_omit 5 (some .int) 6 135 [.ref (Z.2.2.1 138), .int x1, .int x2, .int x3] M M' r := by
  refine Met.ofW (cc := b_MC_omit) (maxL := 5) (ret := (some .int)) (by decide) rfl ?_
  intro p e s m args below meth c s₁ B hml hv
  obtain ⟨rfl, hP, hX⟩ := hv
  have S : CallFix p m c b_MC_omit 5 s ([.ref (Z.2.2.1 138), .int x1, .int x2, .int x3] : List Value).toArray gtb R_MC := ⟨B.exec, B.bytes, hml, findClass_of_methodNamed B.named, fun w hw => atoms_spec (ws := .code y_MC_omit b_MC_omit 5 (some .int) :: gtb) B.pre w (List.mem_cons_of_mem _ hw)⟩
  have hl := lv_entry ([.ref (Z.2.2.1 138), .int x1, .int x2, .int x3]) (n := 5) (Nat.le_of_ble_eq_true rfl)
  rw [lg_entry_eq]
  exact wk_MC_omit hI hZ M x1 x2 x3 S hX ⟨Nat.le_refl _, Nat.le_refl _⟩ (fun pc H locs ls hH d => q_ri S.1 S.2.1 B.returns B.notSynchronized hH rfl rfl d) hf ⟨hP, va_S.rf⟩ hl
theorem cw_MC_137 {R : Room} {s : State} {args : Array Value} (ht : ∀ w ∈ gtb, w.before args s = true) (h1 : 1 + 1 ≤ R.frames) (h2 : 8 + (2 + 11) + 23 ≤ R.locals) : CallW R s args R_MC R_Play 137 y_Play_isLate b_Play_isLate 2 (some .boolean) (.code y_Play_isLate b_Play_isLate 2 (some .boolean) :: gtb) { frames := 1, cells := 0, slots := 0, locals := 23 } 0 0 1 := cwV 1 ht (gV w3_120 w3_24 w3_25 w1_2 w3_26) rfl rfl rfl ⟨rfl, by decide, by decide, by decide +kernel⟩ ⟨h1, h2⟩
theorem cw_MC_143 {R : Room} {s : State} {args : Array Value} (ht : ∀ w ∈ gtb, w.before args s = true) (h1 : 0 + 1 ≤ R.frames) (h2 : 8 + (3 + 11) + 0 ≤ R.locals) : CallW R s args R_MC R_Play 143 y_Play_addLate b_Play_addLate 3 none (.code y_Play_addLate b_Play_addLate 3 none :: gtb) { frames := 0, cells := 0, slots := 0, locals := 0 } 0 0 2 := cwV 2 ht (gV w3_121 w3_28 w3_29 w1_2 w3_30) rfl rfl rfl ⟨rfl, by decide, by decide, by decide +kernel⟩ ⟨h1, h2⟩
noncomputable def f_MC_late (M : Mem) (x1 : Int32) (x2 : Int32) (x3 : Int32) (x4 : Int32) : Option (Int32 × Mem) := 
    if (bI (f_Play_hasRoute 0 M x1 x2 x3)) = 0 then some ((-1 : Int32), M) else 
    if x4 < (1 : Int32) then some ((-1 : Int32), M) else 
    if x4 ≤ (7 : Int32) then 
    bnd (f_Play_isLate 0 M (f_Route_of x1 x2 x3)) (fun y2 => 
    if (bI y2) = 0 then 
    if (M 0 4) < (12 : Int32) then 
    bnd (f_MC_remember M) (fun M4 => 
    bnd (f_Play_addLate 0 M4 (f_Route_of x1 x2 x3) x4) (fun M6 => bnd (f_MC_replay M6) (fun M8 => some ((M8 0 4) - (1 : Int32), M8)))) else some ((-3 : Int32), M) else some ((-2 : Int32), M)) else some ((-1 : Int32), M)
set_option maxHeartbeats 4000000 in
theorem wk_MC_late {l : Launch} {Z : WD} (hI : wI Z) (hZ : IsC Z) (M : Mem) (x1 : Int32) (x2 : Int32) (x3 : Int32) (x4 : Int32) {r : Int32} {M' : Mem} {p : Program} {e : Env} {R : Room} {s : State} {m : MethodId} {args : Array Value} {below : List Frame} {meth : Method} {c : Code} {H : Heap} {locs : List Loc} {ls : Array Slot} {Q : State → Prop} (S : CallFix p m c b_MC_late 6 s args gtb R_MC) (hX : wX Z s) (hR : 6 ≤ R.frames ∧ 135 ≤ R.locals) (hQ : ∀ (pc : Nat) (H : Heap) (locs : List Loc) (ls : Array Slot), HW Z M' s H locs → decode b_MC_late pc = .ok (.ireturn, 1) → W p l e R s m args below meth c H locs 0 0 Q (F0 m pc ls [.int r])) (hf0 : f_MC_late M x1 x2 x3 x4 = some (r, M')) (hH : HW Z M s H locs) (hl : lv_has ls 6 [(0, .ref (Z.2.2.1 138)), (1, .int x1), (2, .int x2), (3, .int x3), (4, .int x4)]) : W p l e R s m args below meth c H locs 0 0 Q (F0 m 0 ls []) := by
  have hx := S.1
  have hb := S.2.1
  have hown := S.2.2.2.1
  have ht := S.2.2.2.2
  unfold f_MC_late at hf0
  refine lv_aload_n hx hb d_MC_late_0 rfl (lv_at hl 0 rfl) ?_
  refine g_MC_10 S hX hH hZ d_MC_late_1 ?_
  refine lv_iload_n hx hb d_MC_late_4 rfl (lv_at hl 1 rfl) ?_
  refine lv_iload_n hx hb d_MC_late_5 rfl (lv_at hl 2 rfl) ?_
  refine lv_iload_n hx hb d_MC_late_6 rfl (lv_at hl 3 rfl) ?_
  refine q_cVi (As := [.int x1, .int x2, .int x3]) (rest := []) S hX hH (c_Play_hasRoute l hI hZ 0 M x1 x2 x3 isPlay_0 rfl) (cw_MC_98 S.2.2.2.2 (Nat.le_trans (Nat.le_of_ble_eq_true rfl) hR.1) (Nat.le_trans (Nat.le_of_ble_eq_true rfl) hR.2)) (rc_Play hX hH hZ isPlay_0) rfl hl.1 rfl (Nat.le_of_ble_eq_true rfl) d_MC_late_7 ⟨Nat.zero_le _, Nat.zero_le _⟩ (fun H locs hH => ?_)
  refine lv_if_eq (tgt := 26) hx hb d_MC_late_10 (by decide) (fun hc => ?_) (fun hc => ?_)
  · replace hf0 := o_t hc hf0
    refine lv_iconst (v := (-1 : Int32)) hx hb d_MC_late_26 (by decide) ?_
    obtain ⟨rfl, rfl⟩ := o_p hf0
    exact hQ _ _ _ _ hH d_MC_late_27
  · replace hf0 := o_f hc hf0
    refine lv_iload hx hb d_MC_late_13 (lv_at hl 4 rfl) ?_
    refine lv_iconst (v := (1 : Int32)) hx hb d_MC_late_15 (by decide) ?_
    refine lv_icmp_lt (tgt := 26) hx hb d_MC_late_16 (by decide) (fun hc => ?_) (fun hc => ?_)
    · replace hf0 := o_t hc hf0
      refine lv_iconst (v := (-1 : Int32)) hx hb d_MC_late_26 (by decide) ?_
      obtain ⟨rfl, rfl⟩ := o_p hf0
      exact hQ _ _ _ _ hH d_MC_late_27
    · replace hf0 := o_f hc hf0
      refine lv_iload hx hb d_MC_late_19 (lv_at hl 4 rfl) ?_
      refine lv_bipush (v := (7 : Int32)) hx hb d_MC_late_21 (by decide) ?_
      refine lv_icmp_le (tgt := 28) hx hb d_MC_late_23 (by decide) (fun hc => ?_) (fun hc => ?_)
      · replace hf0 := o_t hc hf0
        refine lv_iload_n hx hb d_MC_late_28 rfl (lv_at hl 1 rfl) ?_
        refine lv_iload_n hx hb d_MC_late_29 rfl (lv_at hl 2 rfl) ?_
        refine lv_iload_n hx hb d_MC_late_30 rfl (lv_at hl 3 rfl) ?_
        refine q_cSi (As := [.int x1, .int x2, .int x3]) (rest := []) S hX hH (c_Route_of l hI M x1 x2 x3 rfl) (cw_MC_111 S.2.2.2.2 (Nat.le_trans (Nat.le_of_ble_eq_true rfl) hR.1) (Nat.le_trans (Nat.le_of_ble_eq_true rfl) hR.2)) rfl hl.1 rfl (Nat.le_of_ble_eq_true rfl) d_MC_late_31 ⟨Nat.zero_le _, Nat.zero_le _⟩ (fun H locs hH => ?_)
        refine lv_istore (lv' := [(5, .int (f_Route_of x1 x2 x3)), (0, .ref (Z.2.2.1 138)), (1, .int x1), (2, .int x2), (3, .int x3), (4, .int x4)]) hx hb d_MC_late_34 hl (by decide) rfl (fun ls hl => ?_)
        refine lv_aload_n hx hb d_MC_late_36 rfl (lv_at hl 1 rfl) ?_
        refine g_MC_10 S hX hH hZ d_MC_late_37 ?_
        refine lv_iload hx hb d_MC_late_40 (lv_at hl 0 rfl) ?_
        obtain ⟨y2, hc1, hf0⟩ := o_b hf0
        refine q_cVi (As := [.int (f_Route_of x1 x2 x3)]) (rest := []) S hX hH (c_Play_isLate l hI hZ 0 M (f_Route_of x1 x2 x3) isPlay_0 hc1) (cw_MC_137 S.2.2.2.2 (Nat.le_trans (Nat.le_of_ble_eq_true rfl) hR.1) (Nat.le_trans (Nat.le_of_ble_eq_true rfl) hR.2)) (rc_Play hX hH hZ isPlay_0) rfl hl.1 rfl (Nat.le_of_ble_eq_true rfl) d_MC_late_42 ⟨Nat.zero_le _, Nat.zero_le _⟩ (fun H locs hH => ?_)
        refine lv_if_eq (tgt := 51) hx hb d_MC_late_45 (by decide) (fun hc => ?_) (fun hc => ?_)
        · replace hf0 := o_t hc hf0
          refine lv_aload_n hx hb d_MC_late_51 rfl (lv_at hl 1 rfl) ?_
          refine g_MC_10 S hX hH hZ d_MC_late_52 ?_
          refine g_MC_140 S hX hH hZ isPlay_0 d_MC_late_55 ?_
          refine lv_bipush (v := (12 : Int32)) hx hb d_MC_late_58 (by decide) ?_
          refine lv_icmp_lt (tgt := 66) hx hb d_MC_late_60 (by decide) (fun hc => ?_) (fun hc => ?_)
          · replace hf0 := o_t hc hf0
            refine lv_aload_n hx hb d_MC_late_66 rfl (lv_at hl 1 rfl) ?_
            obtain ⟨M4, hc3, hf0⟩ := o_b hf0
            refine q_cVv (As := []) (rest := []) S hX hH (c_MC_remember l hI hZ M hc3) (cw_MC_82 S.2.2.2.2 (Nat.le_trans (Nat.le_of_ble_eq_true rfl) hR.1) (Nat.le_trans (Nat.le_of_ble_eq_true rfl) hR.2)) (rc_MC hX hH hZ) rfl hl.1 rfl (Nat.le_of_ble_eq_true rfl) d_MC_late_67 ⟨Nat.zero_le _, Nat.zero_le _⟩ (fun H locs hH => ?_)
            refine lv_aload_n hx hb d_MC_late_70 rfl (lv_at hl 1 rfl) ?_
            refine g_MC_10 S hX hH hZ d_MC_late_71 ?_
            refine lv_iload hx hb d_MC_late_74 (lv_at hl 0 rfl) ?_
            refine lv_iload hx hb d_MC_late_76 (lv_at hl 5 rfl) ?_
            obtain ⟨M6, hc5, hf0⟩ := o_b hf0
            refine q_cVv (As := [.int (f_Route_of x1 x2 x3), .int x4]) (rest := []) S hX hH (c_Play_addLate l hI hZ 0 M4 (f_Route_of x1 x2 x3) x4 isPlay_0 hc5) (cw_MC_143 S.2.2.2.2 (Nat.le_trans (Nat.le_of_ble_eq_true rfl) hR.1) (Nat.le_trans (Nat.le_of_ble_eq_true rfl) hR.2)) (rc_Play hX hH hZ isPlay_0) rfl hl.1 rfl (Nat.le_of_ble_eq_true rfl) d_MC_late_78 ⟨Nat.zero_le _, Nat.zero_le _⟩ (fun H locs hH => ?_)
            refine lv_aload_n hx hb d_MC_late_81 rfl (lv_at hl 1 rfl) ?_
            obtain ⟨M8, hc7, hf0⟩ := o_b hf0
            refine q_cVv (As := []) (rest := []) S hX hH (c_MC_replay l hI hZ M6 hc7) (cw_MC_49 S.2.2.2.2 (Nat.le_trans (Nat.le_of_ble_eq_true rfl) hR.1) (Nat.le_trans (Nat.le_of_ble_eq_true rfl) hR.2)) (rc_MC hX hH hZ) rfl hl.1 rfl (Nat.le_of_ble_eq_true rfl) d_MC_late_82 ⟨Nat.zero_le _, Nat.zero_le _⟩ (fun H locs hH => ?_)
            refine lv_aload_n hx hb d_MC_late_85 rfl (lv_at hl 1 rfl) ?_
            refine g_MC_10 S hX hH hZ d_MC_late_86 ?_
            refine g_MC_140 S hX hH hZ isPlay_0 d_MC_late_89 ?_
            refine lv_iconst (v := (1 : Int32)) hx hb d_MC_late_92 (by decide) ?_
            refine lv_isub hx hb d_MC_late_93 ?_
            obtain ⟨rfl, rfl⟩ := o_p hf0
            exact hQ _ _ _ _ hH d_MC_late_94
          · replace hf0 := o_f hc hf0
            refine lv_bipush (v := (-3 : Int32)) hx hb d_MC_late_63 (by decide) ?_
            obtain ⟨rfl, rfl⟩ := o_p hf0
            exact hQ _ _ _ _ hH d_MC_late_65
        · replace hf0 := o_f hc hf0
          refine lv_bipush (v := (-2 : Int32)) hx hb d_MC_late_48 (by decide) ?_
          obtain ⟨rfl, rfl⟩ := o_p hf0
          exact hQ _ _ _ _ hH d_MC_late_50
      · replace hf0 := o_f hc hf0
        refine lv_iconst (v := (-1 : Int32)) hx hb d_MC_late_26 (by decide) ?_
        obtain ⟨rfl, rfl⟩ := o_p hf0
        exact hQ _ _ _ _ hH d_MC_late_27
theorem c_MC_late (l : Launch) {Z : WD} (hI : wI Z) (hZ : IsC Z) (M : Mem) (x1 : Int32) (x2 : Int32) (x3 : Int32) (x4 : Int32) {r : Int32} {M' : Mem} (hf : f_MC_late M x1 x2 x3 x4 = some (r, M')) : Ci l Z y_MC_late b_MC_late 6 (some .int) 6 135 [.ref (Z.2.2.1 138), .int x1, .int x2, .int x3, .int x4] M M' r := by
  refine Met.ofW (cc := b_MC_late) (maxL := 6) (ret := (some .int)) (by decide) rfl ?_
  intro p e s m args below meth c s₁ B hml hv
  obtain ⟨rfl, hP, hX⟩ := hv
  have S : CallFix p m c b_MC_late 6 s ([.ref (Z.2.2.1 138), .int x1, .int x2, .int x3, .int x4] : List Value).toArray gtb R_MC := ⟨B.exec, B.bytes, hml, findClass_of_methodNamed B.named, fun w hw => atoms_spec (ws := .code y_MC_late b_MC_late 6 (some .int) :: gtb) B.pre w (List.mem_cons_of_mem _ hw)⟩
  have hl := lv_entry ([.ref (Z.2.2.1 138), .int x1, .int x2, .int x3, .int x4]) (n := 6) (Nat.le_of_ble_eq_true rfl)
  rw [lg_entry_eq]
  exact wk_MC_late hI hZ M x1 x2 x3 x4 S hX ⟨Nat.le_refl _, Nat.le_refl _⟩ (fun pc H locs ls hH d => q_ri S.1 S.2.1 B.returns B.notSynchronized hH rfl rfl d) hf ⟨hP, va_S.rf⟩ hl
theorem cw_MC_155 {R : Room} {s : State} {args : Array Value} (ht : ∀ w ∈ gtb, w.before args s = true) (h1 : 1 + 1 ≤ R.frames) (h2 : 8 + (2 + 11) + 21 ≤ R.locals) : CallW R s args R_MC R_Play 155 y_Play_isLiar b_Play_isLiar 2 (some .boolean) (.code y_Play_isLiar b_Play_isLiar 2 (some .boolean) :: gtb) { frames := 1, cells := 0, slots := 0, locals := 21 } 0 0 1 := cwV 1 ht (gV w3_136 w1_222 w1_223 w1_2 w1_224) rfl rfl rfl ⟨rfl, by decide, by decide, by decide +kernel⟩ ⟨h1, h2⟩
theorem cw_MC_158 {R : Room} {s : State} {args : Array Value} (ht : ∀ w ∈ gtb, w.before args s = true) (h1 : 2 + 1 ≤ R.frames) (h2 : 8 + (5 + 11) + 42 ≤ R.locals) : CallW R s args R_MC R_Play 158 y_Play_liarsChain b_Play_liarsChain 5 (some .int) (.code y_Play_liarsChain b_Play_liarsChain 5 (some .int) :: gtb) { frames := 2, cells := 0, slots := 0, locals := 42 } 0 0 1 := cwV 1 ht (gV w3_137 w3_138 w3_139 w1_2 w3_140) rfl rfl rfl ⟨rfl, by decide, by decide, by decide +kernel⟩ ⟨h1, h2⟩
theorem cw_MC_161 {R : Room} {s : State} {args : Array Value} (ht : ∀ w ∈ gtb, w.before args s = true) (h1 : 0 + 1 ≤ R.frames) (h2 : 8 + (2 + 11) + 0 ≤ R.locals) : CallB R s args R_MC 161 y_Chain_markAt b_Chain_markAt 2 (some .int) (.code y_Chain_markAt b_Chain_markAt 2 (some .int) :: gtb) { frames := 0, cells := 0, slots := 0, locals := 0 } 0 0 2 ∧ (Cond.static y_Chain_markAt).before args s = true := va_cwS 2 ht (gS w3_144 w2_41 w1_6 w2_42) rfl rfl rfl ⟨by decide, by decide, by decide +kernel⟩ ⟨h1, h2⟩
theorem cw_MC_151 {R : Room} {s : State} {args : Array Value} (ht : ∀ w ∈ gtb, w.before args s = true) (h1 : 0 + 1 ≤ R.frames) (h2 : 8 + (1 + 11) + 0 ≤ R.locals) : CallW R s args R_MC R_Play 151 y_Play_honest b_Play_honest 1 (some .int) (.code y_Play_honest b_Play_honest 1 (some .int) :: gtb) { frames := 0, cells := 0, slots := 0, locals := 0 } 0 0 0 := cwV 0 ht (gV w3_132 w3_133 w3_134 w1_2 w3_135) rfl rfl rfl ⟨rfl, by decide, by decide, by decide +kernel⟩ ⟨h1, h2⟩
theorem cw_MC_165 {R : Room} {s : State} {args : Array Value} (ht : ∀ w ∈ gtb, w.before args s = true) (h1 : 0 + 1 ≤ R.frames) (h2 : 8 + (2 + 11) + 0 ≤ R.locals) : CallB R s args R_MC 165 y_MC_leastOf b_MC_leastOf 2 (some .int) (.code y_MC_leastOf b_MC_leastOf 2 (some .int) :: gtb) { frames := 0, cells := 0, slots := 0, locals := 0 } 0 0 1 ∧ (Cond.static y_MC_leastOf).before args s = true := va_cwS 1 ht (gS w3_145 w3_146 w1_1 w3_147) rfl rfl rfl ⟨by decide, by decide, by decide +kernel⟩ ⟨h1, h2⟩
theorem cw_MC_168 {R : Room} {s : State} {args : Array Value} (ht : ∀ w ∈ gtb, w.before args s = true) (h1 : 0 + 1 ≤ R.frames) (h2 : 8 + (1 + 11) + 0 ≤ R.locals) : CallB R s args R_MC 168 y_Chain_size b_Chain_size 1 (some .int) (.code y_Chain_size b_Chain_size 1 (some .int) :: gtb) { frames := 0, cells := 0, slots := 0, locals := 0 } 0 0 1 ∧ (Cond.static y_Chain_size).before args s = true := va_cwS 1 ht (gS w3_148 w2_8 w1_6 w2_9) rfl rfl rfl ⟨by decide, by decide, by decide +kernel⟩ ⟨h1, h2⟩
theorem cw_MC_146 {R : Room} {s : State} {args : Array Value} (ht : ∀ w ∈ gtb, w.before args s = true) (h1 : 0 + 1 ≤ R.frames) (h2 : 8 + (1 + 11) + 0 ≤ R.locals) : CallB R s args R_MC 146 y_Int_bitCount b_Int_bitCount 1 (some .int) (.code y_Int_bitCount b_Int_bitCount 1 (some .int) :: gtb) { frames := 0, cells := 0, slots := 0, locals := 0 } 0 0 1 ∧ (Cond.static y_Int_bitCount).before args s = true := va_cwS 1 ht (gS w3_126 w3_127 w1_15 w3_128) rfl rfl rfl ⟨by decide, by decide, by decide +kernel⟩ ⟨h1, h2⟩
noncomputable def f_MC_attack_J55 (M : Mem) (x1 : Int32) (s0 : Int32) : Option (Int32 × Mem) := if s0 = 0 then some ((-2 : Int32), M) else 
    if (bI (f_Play_isLiar 0 M (M 1 0))) = 0 then some ((-2 : Int32), M) else 
    bnd (f_MC_remember M) (fun M2 => 
    bnd (f_Play_liarsChain 0 M2 x1) (fun y4 => 
    bnd (f_MC_leastOf (f_Play_honest 0 M2)) (fun y6 => 
    lt1 (upM M2 0 2 (0 : Int32)) (fun M7 => 
    bnd (f_Play_addPlan 0 M7 (f_Route_of x1 (f_Chain_markAt y4 (x1 - (1 : Int32))) y6) (((M7 1 3) + (1 : Int32)) - ((M7 1 3) + (1 : Int32)) / (4 : Int32) * (4 : Int32)) y4) (fun M9 => bnd (f_MC_replay M9) (fun M11 => some (f_Chain_size y4, M11)))))))
noncomputable def f_MC_attack_J54 (M : Mem) (x1 : Int32) : Option (Int32 × Mem) := f_MC_attack_J55 M x1 (0 : Int32)
noncomputable def f_MC_attack (M : Mem) : Option (Int32 × Mem) := 
    if (M 0 0) = 0 then some ((-1 : Int32), M) else 
    if (f_Int_bitCount (M 0 1)) < (M 1 2) then f_MC_attack_J54 M (M 1 2) else 
    if (f_Int_bitCount (f_Play_honest 0 M)) < (2 : Int32) then f_MC_attack_J54 M (M 1 2) else f_MC_attack_J55 M (M 1 2) (1 : Int32)
set_option maxHeartbeats 4000000 in
theorem wk_MC_attack {l : Launch} {Z : WD} (hI : wI Z) (hZ : IsC Z) (M : Mem) {r : Int32} {M' : Mem} {p : Program} {e : Env} {R : Room} {s : State} {m : MethodId} {args : Array Value} {below : List Frame} {meth : Method} {c : Code} {H : Heap} {locs : List Loc} {ls : Array Slot} {Q : State → Prop} (S : CallFix p m c b_MC_attack 6 s args gtb R_MC) (hX : wX Z s) (hR : 6 ≤ R.frames ∧ 135 ≤ R.locals) (hQ : ∀ (pc : Nat) (H : Heap) (locs : List Loc) (ls : Array Slot), HW Z M' s H locs → decode b_MC_attack pc = .ok (.ireturn, 1) → W p l e R s m args below meth c H locs 0 0 Q (F0 m pc ls [.int r])) (hf0 : f_MC_attack M = some (r, M')) (hH : HW Z M s H locs) (hl : lv_has ls 6 [(0, .ref (Z.2.2.1 138))]) : W p l e R s m args below meth c H locs 0 0 Q (F0 m 0 ls []) := by
  have hx := S.1
  have hb := S.2.1
  have hown := S.2.2.2.1
  have ht := S.2.2.2.2
  unfold f_MC_attack at hf0
  have J55 : ∀ (M : Mem) (x1 : Int32) (s0 : Int32) (H : Heap) (locs : List Loc) (ls : Array Slot), f_MC_attack_J55 M x1 s0 = some (r, M') → HW Z M s H locs → lv_has ls 6 [(0, .ref (Z.2.2.1 138)), (1, .int x1)] → W p l e R s m args below meth c H locs 0 0 Q (F0 m 55 ls [.int s0]) := by
    intro M x1 s0 H locs ls hf0 hH hl
    unfold f_MC_attack_J55 at hf0
    refine lv_istore_n (lv' := [(2, .int s0), (0, .ref (Z.2.2.1 138)), (1, .int x1)]) hx hb d_MC_attack_55 rfl hl (by decide) rfl (fun ls hl => ?_)
    refine lv_iload_n hx hb d_MC_attack_56 rfl (lv_at hl 0 rfl) ?_
    refine lv_if_eq (tgt := 79) hx hb d_MC_attack_57 (by decide) (fun hc => ?_) (fun hc => ?_)
    · replace hf0 := o_t hc hf0
      refine lv_bipush (v := (-2 : Int32)) hx hb d_MC_attack_79 (by decide) ?_
      obtain ⟨rfl, rfl⟩ := o_p hf0
      exact hQ _ _ _ _ hH d_MC_attack_81
    · replace hf0 := o_f hc hf0
      refine lv_aload_n hx hb d_MC_attack_60 rfl (lv_at hl 1 rfl) ?_
      refine g_MC_10 S hX hH hZ d_MC_attack_61 ?_
      refine lv_aload_n hx hb d_MC_attack_64 rfl (lv_at hl 1 rfl) ?_
      refine g_MC_10 S hX hH hZ d_MC_attack_65 ?_
      refine g_MC_78 S hX hH hZ isPlay_0 d_MC_attack_68 ?_
      refine lv_iconst (v := (0 : Int32)) hx hb d_MC_attack_71 (by decide) ?_
      refine q_iald (j := 0) hx hb hX hH (aa_Play_1 hZ isPlay_0) (vp_c (by decide)) (by decide) d_MC_attack_72 ?_
      refine q_cVi (As := [.int (M 1 0)]) (rest := []) S hX hH (c_Play_isLiar l hI hZ 0 M (M 1 0) isPlay_0 rfl) (cw_MC_155 S.2.2.2.2 (Nat.le_trans (Nat.le_of_ble_eq_true rfl) hR.1) (Nat.le_trans (Nat.le_of_ble_eq_true rfl) hR.2)) (rc_Play hX hH hZ isPlay_0) rfl hl.1 rfl (Nat.le_of_ble_eq_true rfl) d_MC_attack_73 ⟨Nat.zero_le _, Nat.zero_le _⟩ (fun H locs hH => ?_)
      refine lv_if_ne (tgt := 82) hx hb d_MC_attack_76 (by decide) (fun hc => ?_) (fun hc => ?_)
      · replace hf0 := o_f hc hf0
        refine lv_aload_n hx hb d_MC_attack_82 rfl (lv_at hl 1 rfl) ?_
        obtain ⟨M2, hc1, hf0⟩ := o_b hf0
        refine q_cVv (As := []) (rest := []) S hX hH (c_MC_remember l hI hZ M hc1) (cw_MC_82 S.2.2.2.2 (Nat.le_trans (Nat.le_of_ble_eq_true rfl) hR.1) (Nat.le_trans (Nat.le_of_ble_eq_true rfl) hR.2)) (rc_MC hX hH hZ) rfl hl.1 rfl (Nat.le_of_ble_eq_true rfl) d_MC_attack_83 ⟨Nat.zero_le _, Nat.zero_le _⟩ (fun H locs hH => ?_)
        refine lv_aload_n hx hb d_MC_attack_86 rfl (lv_at hl 1 rfl) ?_
        refine g_MC_10 S hX hH hZ d_MC_attack_87 ?_
        refine lv_iload_n hx hb d_MC_attack_90 rfl (lv_at hl 2 rfl) ?_
        obtain ⟨y4, hc3, hf0⟩ := o_b hf0
        refine q_cVi (As := [.int x1]) (rest := []) S hX hH (c_Play_liarsChain l hI hZ 0 M2 x1 isPlay_0 hc3) (cw_MC_158 S.2.2.2.2 (Nat.le_trans (Nat.le_of_ble_eq_true rfl) hR.1) (Nat.le_trans (Nat.le_of_ble_eq_true rfl) hR.2)) (rc_Play hX hH hZ isPlay_0) rfl hl.1 rfl (Nat.le_of_ble_eq_true rfl) d_MC_attack_91 ⟨Nat.zero_le _, Nat.zero_le _⟩ (fun H locs hH => ?_)
        refine lv_istore_n (lv' := [(3, .int y4), (2, .int s0), (0, .ref (Z.2.2.1 138)), (1, .int x1)]) hx hb d_MC_attack_94 rfl hl (by decide) rfl (fun ls hl => ?_)
        refine lv_iload_n hx hb d_MC_attack_95 rfl (lv_at hl 0 rfl) ?_
        refine lv_iload_n hx hb d_MC_attack_96 rfl (lv_at hl 3 rfl) ?_
        refine lv_iconst (v := (1 : Int32)) hx hb d_MC_attack_97 (by decide) ?_
        refine lv_isub hx hb d_MC_attack_98 ?_
        refine q_cSi (As := [.int y4, .int (x1 - (1 : Int32))]) (rest := []) S hX hH (c_Chain_markAt l hI M2 y4 (x1 - (1 : Int32)) rfl) (cw_MC_161 S.2.2.2.2 (Nat.le_trans (Nat.le_of_ble_eq_true rfl) hR.1) (Nat.le_trans (Nat.le_of_ble_eq_true rfl) hR.2)) rfl hl.1 rfl (Nat.le_of_ble_eq_true rfl) d_MC_attack_99 ⟨Nat.zero_le _, Nat.zero_le _⟩ (fun H locs hH => ?_)
        refine lv_istore (lv' := [(4, .int (f_Chain_markAt y4 (x1 - (1 : Int32)))), (3, .int y4), (2, .int s0), (0, .ref (Z.2.2.1 138)), (1, .int x1)]) hx hb d_MC_attack_102 hl (by decide) rfl (fun ls hl => ?_)
        refine lv_iload_n hx hb d_MC_attack_104 rfl (lv_at hl 4 rfl) ?_
        refine lv_iload hx hb d_MC_attack_105 (lv_at hl 0 rfl) ?_
        refine lv_aload_n hx hb d_MC_attack_107 rfl (lv_at hl 3 rfl) ?_
        refine g_MC_10 S hX hH hZ d_MC_attack_108 ?_
        refine q_cVi (As := []) (rest := [.int (f_Chain_markAt y4 (x1 - (1 : Int32))), .int x1]) S hX hH (c_Play_honest l hI hZ 0 M2 isPlay_0 rfl) (cw_MC_151 S.2.2.2.2 (Nat.le_trans (Nat.le_of_ble_eq_true rfl) hR.1) (Nat.le_trans (Nat.le_of_ble_eq_true rfl) hR.2)) (rc_Play hX hH hZ isPlay_0) rfl hl.1 rfl (Nat.le_of_ble_eq_true rfl) d_MC_attack_111 ⟨Nat.zero_le _, Nat.zero_le _⟩ (fun H locs hH => ?_)
        obtain ⟨y6, hc5, hf0⟩ := o_b hf0
        refine q_cSi (As := [.int (f_Play_honest 0 M2)]) (rest := [.int (f_Chain_markAt y4 (x1 - (1 : Int32))), .int x1]) S hX hH (c_MC_leastOf l hI M2 (f_Play_honest 0 M2) hc5) (cw_MC_165 S.2.2.2.2 (Nat.le_trans (Nat.le_of_ble_eq_true rfl) hR.1) (Nat.le_trans (Nat.le_of_ble_eq_true rfl) hR.2)) rfl hl.1 rfl (Nat.le_of_ble_eq_true rfl) d_MC_attack_114 ⟨Nat.zero_le _, Nat.zero_le _⟩ (fun H locs hH => ?_)
        refine q_cSi (As := [.int x1, .int (f_Chain_markAt y4 (x1 - (1 : Int32))), .int y6]) (rest := []) S hX hH (c_Route_of l hI M2 x1 (f_Chain_markAt y4 (x1 - (1 : Int32))) y6 rfl) (cw_MC_111 S.2.2.2.2 (Nat.le_trans (Nat.le_of_ble_eq_true rfl) hR.1) (Nat.le_trans (Nat.le_of_ble_eq_true rfl) hR.2)) rfl hl.1 rfl (Nat.le_of_ble_eq_true rfl) d_MC_attack_117 ⟨Nat.zero_le _, Nat.zero_le _⟩ (fun H locs hH => ?_)
        refine lv_istore (lv' := [(5, .int (f_Route_of x1 (f_Chain_markAt y4 (x1 - (1 : Int32))) y6)), (4, .int (f_Chain_markAt y4 (x1 - (1 : Int32)))), (3, .int y4), (2, .int s0), (0, .ref (Z.2.2.1 138)), (1, .int x1)]) hx hb d_MC_attack_120 hl (by decide) rfl (fun ls hl => ?_)
        refine lv_aload_n hx hb d_MC_attack_122 rfl (lv_at hl 4 rfl) ?_
        refine g_MC_10 S hX hH hZ d_MC_attack_123 ?_
        refine lv_iconst (v := (0 : Int32)) hx hb d_MC_attack_126 (by decide) ?_
        obtain ⟨M7, hM7, hf0⟩ := o_l hf0
        refine s_MC_108 S hX hI hH hZ isPlay_0 d_MC_attack_127 (fun H locs hH => ?_)
        rw [hM7] at hH
        refine lv_aload_n hx hb d_MC_attack_130 rfl (lv_at hl 4 rfl) ?_
        refine g_MC_10 S hX hH hZ d_MC_attack_131 ?_
        refine lv_iload hx hb d_MC_attack_134 (lv_at hl 0 rfl) ?_
        refine lv_aload_n hx hb d_MC_attack_136 rfl (lv_at hl 4 rfl) ?_
        refine g_MC_10 S hX hH hZ d_MC_attack_137 ?_
        refine g_MC_78 S hX hH hZ isPlay_0 d_MC_attack_140 ?_
        refine lv_iconst (v := (3 : Int32)) hx hb d_MC_attack_143 (by decide) ?_
        refine q_iald (j := 3) hx hb hX hH (aa_Play_1 hZ isPlay_0) (vp_c (by decide)) (by decide) d_MC_attack_144 ?_
        refine lv_iconst (v := (1 : Int32)) hx hb d_MC_attack_145 (by decide) ?_
        refine lv_iadd hx hb d_MC_attack_146 ?_
        refine lv_iconst (v := (4 : Int32)) hx hb d_MC_attack_147 (by decide) ?_
        refine lv_irem hx hb d_MC_attack_148 (by decide) ?_
        refine lv_iload_n hx hb d_MC_attack_149 rfl (lv_at hl 2 rfl) ?_
        obtain ⟨M9, hc8, hf0⟩ := o_b hf0
        refine q_cVv (As := [.int (f_Route_of x1 (f_Chain_markAt y4 (x1 - (1 : Int32))) y6), .int (((M7 1 3) + (1 : Int32)) - ((M7 1 3) + (1 : Int32)) / (4 : Int32) * (4 : Int32)), .int y4]) (rest := []) S hX hH (c_Play_addPlan l hI hZ 0 M7 (f_Route_of x1 (f_Chain_markAt y4 (x1 - (1 : Int32))) y6) (((M7 1 3) + (1 : Int32)) - ((M7 1 3) + (1 : Int32)) / (4 : Int32) * (4 : Int32)) y4 isPlay_0 hc8) (cw_MC_117 S.2.2.2.2 (Nat.le_trans (Nat.le_of_ble_eq_true rfl) hR.1) (Nat.le_trans (Nat.le_of_ble_eq_true rfl) hR.2)) (rc_Play hX hH hZ isPlay_0) rfl hl.1 rfl (Nat.le_of_ble_eq_true rfl) d_MC_attack_150 ⟨Nat.zero_le _, Nat.zero_le _⟩ (fun H locs hH => ?_)
        refine lv_aload_n hx hb d_MC_attack_153 rfl (lv_at hl 4 rfl) ?_
        obtain ⟨M11, hc10, hf0⟩ := o_b hf0
        refine q_cVv (As := []) (rest := []) S hX hH (c_MC_replay l hI hZ M9 hc10) (cw_MC_49 S.2.2.2.2 (Nat.le_trans (Nat.le_of_ble_eq_true rfl) hR.1) (Nat.le_trans (Nat.le_of_ble_eq_true rfl) hR.2)) (rc_MC hX hH hZ) rfl hl.1 rfl (Nat.le_of_ble_eq_true rfl) d_MC_attack_154 ⟨Nat.zero_le _, Nat.zero_le _⟩ (fun H locs hH => ?_)
        refine lv_iload_n hx hb d_MC_attack_157 rfl (lv_at hl 2 rfl) ?_
        refine q_cSi (As := [.int y4]) (rest := []) S hX hH (c_Chain_size l hI M11 y4 rfl) (cw_MC_168 S.2.2.2.2 (Nat.le_trans (Nat.le_of_ble_eq_true rfl) hR.1) (Nat.le_trans (Nat.le_of_ble_eq_true rfl) hR.2)) rfl hl.1 rfl (Nat.le_of_ble_eq_true rfl) d_MC_attack_158 ⟨Nat.zero_le _, Nat.zero_le _⟩ (fun H locs hH => ?_)
        obtain ⟨rfl, rfl⟩ := o_p hf0
        exact hQ _ _ _ _ hH d_MC_attack_161
      · replace hf0 := o_t hc hf0
        refine lv_bipush (v := (-2 : Int32)) hx hb d_MC_attack_79 (by decide) ?_
        obtain ⟨rfl, rfl⟩ := o_p hf0
        exact hQ _ _ _ _ hH d_MC_attack_81
  have J54 : ∀ (M : Mem) (x1 : Int32) (H : Heap) (locs : List Loc) (ls : Array Slot), f_MC_attack_J54 M x1 = some (r, M') → HW Z M s H locs → lv_has ls 6 [(0, .ref (Z.2.2.1 138)), (1, .int x1)] → W p l e R s m args below meth c H locs 0 0 Q (F0 m 54 ls []) := by
    intro M x1 H locs ls hf0 hH hl
    unfold f_MC_attack_J54 at hf0
    refine lv_iconst (v := (0 : Int32)) hx hb d_MC_attack_54 (by decide) ?_
    exact J55 _ _ _ _ _ _ hf0 hH (lv_sub hl [0, 1] rfl)
  refine lv_aload_n hx hb d_MC_attack_0 rfl (lv_at hl 0 rfl) ?_
  refine g_MC_10 S hX hH hZ d_MC_attack_1 ?_
  refine g_MC_71 S hX hH hZ isPlay_0 d_MC_attack_4 ?_
  refine lv_if_ne (tgt := 12) hx hb d_MC_attack_7 (by decide) (fun hc => ?_) (fun hc => ?_)
  · replace hf0 := o_f hc hf0
    refine lv_aload_n hx hb d_MC_attack_12 rfl (lv_at hl 0 rfl) ?_
    refine g_MC_10 S hX hH hZ d_MC_attack_13 ?_
    refine g_MC_78 S hX hH hZ isPlay_0 d_MC_attack_16 ?_
    refine lv_iconst (v := (2 : Int32)) hx hb d_MC_attack_19 (by decide) ?_
    refine q_iald (j := 2) hx hb hX hH (aa_Play_1 hZ isPlay_0) (vp_c (by decide)) (by decide) d_MC_attack_20 ?_
    refine lv_istore_n (lv' := [(1, .int (M 1 2)), (0, .ref (Z.2.2.1 138))]) hx hb d_MC_attack_21 rfl hl (by decide) rfl (fun ls hl => ?_)
    refine lv_aload_n hx hb d_MC_attack_22 rfl (lv_at hl 1 rfl) ?_
    refine g_MC_10 S hX hH hZ d_MC_attack_23 ?_
    refine g_MC_89 S hX hH hZ isPlay_0 d_MC_attack_26 ?_
    refine q_cSi (As := [.int (M 0 1)]) (rest := []) S hX hH (c_Int_bitCount l hI M (M 0 1) rfl) (cw_MC_146 S.2.2.2.2 (Nat.le_trans (Nat.le_of_ble_eq_true rfl) hR.1) (Nat.le_trans (Nat.le_of_ble_eq_true rfl) hR.2)) rfl hl.1 rfl (Nat.le_of_ble_eq_true rfl) d_MC_attack_29 ⟨Nat.zero_le _, Nat.zero_le _⟩ (fun H locs hH => ?_)
    refine lv_iload_n hx hb d_MC_attack_32 rfl (lv_at hl 0 rfl) ?_
    refine lv_icmp_lt (tgt := 54) hx hb d_MC_attack_33 (by decide) (fun hc => ?_) (fun hc => ?_)
    · replace hf0 := o_t hc hf0
      exact J54 _ _ _ _ _ hf0 hH (lv_sub hl [1, 0] rfl)
    · replace hf0 := o_f hc hf0
      refine lv_aload_n hx hb d_MC_attack_36 rfl (lv_at hl 1 rfl) ?_
      refine g_MC_10 S hX hH hZ d_MC_attack_37 ?_
      refine q_cVi (As := []) (rest := []) S hX hH (c_Play_honest l hI hZ 0 M isPlay_0 rfl) (cw_MC_151 S.2.2.2.2 (Nat.le_trans (Nat.le_of_ble_eq_true rfl) hR.1) (Nat.le_trans (Nat.le_of_ble_eq_true rfl) hR.2)) (rc_Play hX hH hZ isPlay_0) rfl hl.1 rfl (Nat.le_of_ble_eq_true rfl) d_MC_attack_40 ⟨Nat.zero_le _, Nat.zero_le _⟩ (fun H locs hH => ?_)
      refine q_cSi (As := [.int (f_Play_honest 0 M)]) (rest := []) S hX hH (c_Int_bitCount l hI M (f_Play_honest 0 M) rfl) (cw_MC_146 S.2.2.2.2 (Nat.le_trans (Nat.le_of_ble_eq_true rfl) hR.1) (Nat.le_trans (Nat.le_of_ble_eq_true rfl) hR.2)) rfl hl.1 rfl (Nat.le_of_ble_eq_true rfl) d_MC_attack_43 ⟨Nat.zero_le _, Nat.zero_le _⟩ (fun H locs hH => ?_)
      refine lv_iconst (v := (2 : Int32)) hx hb d_MC_attack_46 (by decide) ?_
      refine lv_icmp_lt (tgt := 54) hx hb d_MC_attack_47 (by decide) (fun hc => ?_) (fun hc => ?_)
      · replace hf0 := o_t hc hf0
        exact J54 _ _ _ _ _ hf0 hH (lv_sub hl [1, 0] rfl)
      · replace hf0 := o_f hc hf0
        refine lv_iconst (v := (1 : Int32)) hx hb d_MC_attack_50 (by decide) ?_
        refine lv_goto (tgt := 55) hx hb d_MC_attack_51 (by decide) ?_
        exact J55 _ _ _ _ _ _ hf0 hH (lv_sub hl [1, 0] rfl)
  · replace hf0 := o_t hc hf0
    refine lv_iconst (v := (-1 : Int32)) hx hb d_MC_attack_10 (by decide) ?_
    obtain ⟨rfl, rfl⟩ := o_p hf0
    exact hQ _ _ _ _ hH d_MC_attack_11
theorem c_MC_attack (l : Launch) {Z : WD} (hI : wI Z) (hZ : IsC Z) (M : Mem) {r : Int32} {M' : Mem} (hf : f_MC_attack M = some (r, M')) : Ci l Z y_MC_attack b_MC_attack 6 (some .int) 6 135 [.ref (Z.2.2.1 138)] M M' r := by
  refine Met.ofW (cc := b_MC_attack) (maxL := 6) (ret := (some .int)) (by decide) rfl ?_
  intro p e s m args below meth c s₁ B hml hv
  obtain ⟨rfl, hP, hX⟩ := hv
  have S : CallFix p m c b_MC_attack 6 s ([.ref (Z.2.2.1 138)] : List Value).toArray gtb R_MC := ⟨B.exec, B.bytes, hml, findClass_of_methodNamed B.named, fun w hw => atoms_spec (ws := .code y_MC_attack b_MC_attack 6 (some .int) :: gtb) B.pre w (List.mem_cons_of_mem _ hw)⟩
  have hl := lv_entry ([.ref (Z.2.2.1 138)]) (n := 6) (Nat.le_of_ble_eq_true rfl)
  rw [lg_entry_eq]
  exact wk_MC_attack hI hZ M S hX ⟨Nat.le_refl _, Nat.le_refl _⟩ (fun pc H locs ls hH d => q_ri S.1 S.2.1 B.returns B.notSynchronized hH rfl rfl d) hf ⟨hP, va_S.rf⟩ hl
theorem cw_MC_171 {R : Room} {s : State} {args : Array Value} (ht : ∀ w ∈ gtb, w.before args s = true) (h1 : 3 + 1 ≤ R.frames) (h2 : 8 + (5 + 11) + 66 ≤ R.locals) : CallW R s args R_MC R_Play 171 y_Play_swap b_Play_swap 5 none (.code y_Play_swap b_Play_swap 5 none :: gtb) { frames := 3, cells := 0, slots := 0, locals := 66 } 0 0 2 := cwV 2 ht (gV w3_153 w3_154 w3_155 w1_2 w3_156) rfl rfl rfl ⟨rfl, by decide, by decide, by decide +kernel⟩ ⟨h1, h2⟩
noncomputable def f_MC_trade (M : Mem) (x1 : Int32) (x2 : Int32) : Option (Int32 × Mem) := 
    if (bI (f_Play_hasParty 0 M x1)) = 0 then some ((-1 : Int32), M) else 
    if (bI (f_Play_hasParty 0 M x2)) = 0 then some ((-1 : Int32), M) else 
    if x1 = x2 then some ((-1 : Int32), M) else 
    bnd (f_MC_remember M) (fun M2 => bnd (f_Play_swap 0 M2 x1 x2) (fun M4 => bnd (f_MC_replay M4) (fun M6 => some (M6 0 0, M6))))
set_option maxHeartbeats 4000000 in
theorem wk_MC_trade {l : Launch} {Z : WD} (hI : wI Z) (hZ : IsC Z) (M : Mem) (x1 : Int32) (x2 : Int32) {r : Int32} {M' : Mem} {p : Program} {e : Env} {R : Room} {s : State} {m : MethodId} {args : Array Value} {below : List Frame} {meth : Method} {c : Code} {H : Heap} {locs : List Loc} {ls : Array Slot} {Q : State → Prop} (S : CallFix p m c b_MC_trade 3 s args gtb R_MC) (hX : wX Z s) (hR : 6 ≤ R.frames ∧ 135 ≤ R.locals) (hQ : ∀ (pc : Nat) (H : Heap) (locs : List Loc) (ls : Array Slot), HW Z M' s H locs → decode b_MC_trade pc = .ok (.ireturn, 1) → W p l e R s m args below meth c H locs 0 0 Q (F0 m pc ls [.int r])) (hf0 : f_MC_trade M x1 x2 = some (r, M')) (hH : HW Z M s H locs) (hl : lv_has ls 3 [(0, .ref (Z.2.2.1 138)), (1, .int x1), (2, .int x2)]) : W p l e R s m args below meth c H locs 0 0 Q (F0 m 0 ls []) := by
  have hx := S.1
  have hb := S.2.1
  have hown := S.2.2.2.1
  have ht := S.2.2.2.2
  unfold f_MC_trade at hf0
  refine lv_aload_n hx hb d_MC_trade_0 rfl (lv_at hl 0 rfl) ?_
  refine g_MC_10 S hX hH hZ d_MC_trade_1 ?_
  refine lv_iload_n hx hb d_MC_trade_4 rfl (lv_at hl 1 rfl) ?_
  refine q_cVi (As := [.int x1]) (rest := []) S hX hH (c_Play_hasParty l hI hZ 0 M x1 isPlay_0 rfl) (cw_MC_85 S.2.2.2.2 (Nat.le_trans (Nat.le_of_ble_eq_true rfl) hR.1) (Nat.le_trans (Nat.le_of_ble_eq_true rfl) hR.2)) (rc_Play hX hH hZ isPlay_0) rfl hl.1 rfl (Nat.le_of_ble_eq_true rfl) d_MC_trade_5 ⟨Nat.zero_le _, Nat.zero_le _⟩ (fun H locs hH => ?_)
  refine lv_if_eq (tgt := 27) hx hb d_MC_trade_8 (by decide) (fun hc => ?_) (fun hc => ?_)
  · replace hf0 := o_t hc hf0
    refine lv_iconst (v := (-1 : Int32)) hx hb d_MC_trade_27 (by decide) ?_
    obtain ⟨rfl, rfl⟩ := o_p hf0
    exact hQ _ _ _ _ hH d_MC_trade_28
  · replace hf0 := o_f hc hf0
    refine lv_aload_n hx hb d_MC_trade_11 rfl (lv_at hl 0 rfl) ?_
    refine g_MC_10 S hX hH hZ d_MC_trade_12 ?_
    refine lv_iload_n hx hb d_MC_trade_15 rfl (lv_at hl 2 rfl) ?_
    refine q_cVi (As := [.int x2]) (rest := []) S hX hH (c_Play_hasParty l hI hZ 0 M x2 isPlay_0 rfl) (cw_MC_85 S.2.2.2.2 (Nat.le_trans (Nat.le_of_ble_eq_true rfl) hR.1) (Nat.le_trans (Nat.le_of_ble_eq_true rfl) hR.2)) (rc_Play hX hH hZ isPlay_0) rfl hl.1 rfl (Nat.le_of_ble_eq_true rfl) d_MC_trade_16 ⟨Nat.zero_le _, Nat.zero_le _⟩ (fun H locs hH => ?_)
    refine lv_if_eq (tgt := 27) hx hb d_MC_trade_19 (by decide) (fun hc => ?_) (fun hc => ?_)
    · replace hf0 := o_t hc hf0
      refine lv_iconst (v := (-1 : Int32)) hx hb d_MC_trade_27 (by decide) ?_
      obtain ⟨rfl, rfl⟩ := o_p hf0
      exact hQ _ _ _ _ hH d_MC_trade_28
    · replace hf0 := o_f hc hf0
      refine lv_iload_n hx hb d_MC_trade_22 rfl (lv_at hl 1 rfl) ?_
      refine lv_iload_n hx hb d_MC_trade_23 rfl (lv_at hl 2 rfl) ?_
      refine lv_icmp_ne (tgt := 29) hx hb d_MC_trade_24 (by decide) (fun hc => ?_) (fun hc => ?_)
      · replace hf0 := o_f hc hf0
        refine lv_aload_n hx hb d_MC_trade_29 rfl (lv_at hl 0 rfl) ?_
        obtain ⟨M2, hc1, hf0⟩ := o_b hf0
        refine q_cVv (As := []) (rest := []) S hX hH (c_MC_remember l hI hZ M hc1) (cw_MC_82 S.2.2.2.2 (Nat.le_trans (Nat.le_of_ble_eq_true rfl) hR.1) (Nat.le_trans (Nat.le_of_ble_eq_true rfl) hR.2)) (rc_MC hX hH hZ) rfl hl.1 rfl (Nat.le_of_ble_eq_true rfl) d_MC_trade_30 ⟨Nat.zero_le _, Nat.zero_le _⟩ (fun H locs hH => ?_)
        refine lv_aload_n hx hb d_MC_trade_33 rfl (lv_at hl 0 rfl) ?_
        refine g_MC_10 S hX hH hZ d_MC_trade_34 ?_
        refine lv_iload_n hx hb d_MC_trade_37 rfl (lv_at hl 1 rfl) ?_
        refine lv_iload_n hx hb d_MC_trade_38 rfl (lv_at hl 2 rfl) ?_
        obtain ⟨M4, hc3, hf0⟩ := o_b hf0
        refine q_cVv (As := [.int x1, .int x2]) (rest := []) S hX hH (c_Play_swap l hI hZ 0 M2 x1 x2 isPlay_0 hc3) (cw_MC_171 S.2.2.2.2 (Nat.le_trans (Nat.le_of_ble_eq_true rfl) hR.1) (Nat.le_trans (Nat.le_of_ble_eq_true rfl) hR.2)) (rc_Play hX hH hZ isPlay_0) rfl hl.1 rfl (Nat.le_of_ble_eq_true rfl) d_MC_trade_39 ⟨Nat.zero_le _, Nat.zero_le _⟩ (fun H locs hH => ?_)
        refine lv_aload_n hx hb d_MC_trade_42 rfl (lv_at hl 0 rfl) ?_
        obtain ⟨M6, hc5, hf0⟩ := o_b hf0
        refine q_cVv (As := []) (rest := []) S hX hH (c_MC_replay l hI hZ M4 hc5) (cw_MC_49 S.2.2.2.2 (Nat.le_trans (Nat.le_of_ble_eq_true rfl) hR.1) (Nat.le_trans (Nat.le_of_ble_eq_true rfl) hR.2)) (rc_MC hX hH hZ) rfl hl.1 rfl (Nat.le_of_ble_eq_true rfl) d_MC_trade_43 ⟨Nat.zero_le _, Nat.zero_le _⟩ (fun H locs hH => ?_)
        refine lv_aload_n hx hb d_MC_trade_46 rfl (lv_at hl 0 rfl) ?_
        refine g_MC_10 S hX hH hZ d_MC_trade_47 ?_
        refine g_MC_71 S hX hH hZ isPlay_0 d_MC_trade_50 ?_
        obtain ⟨rfl, rfl⟩ := o_p hf0
        exact hQ _ _ _ _ hH d_MC_trade_53
      · replace hf0 := o_t hc hf0
        refine lv_iconst (v := (-1 : Int32)) hx hb d_MC_trade_27 (by decide) ?_
        obtain ⟨rfl, rfl⟩ := o_p hf0
        exact hQ _ _ _ _ hH d_MC_trade_28
theorem c_MC_trade (l : Launch) {Z : WD} (hI : wI Z) (hZ : IsC Z) (M : Mem) (x1 : Int32) (x2 : Int32) {r : Int32} {M' : Mem} (hf : f_MC_trade M x1 x2 = some (r, M')) : Ci l Z y_MC_trade b_MC_trade 3 (some .int) 6 135 [.ref (Z.2.2.1 138), .int x1, .int x2] M M' r := by
  refine Met.ofW (cc := b_MC_trade) (maxL := 3) (ret := (some .int)) (by decide) rfl ?_
  intro p e s m args below meth c s₁ B hml hv
  obtain ⟨rfl, hP, hX⟩ := hv
  have S : CallFix p m c b_MC_trade 3 s ([.ref (Z.2.2.1 138), .int x1, .int x2] : List Value).toArray gtb R_MC := ⟨B.exec, B.bytes, hml, findClass_of_methodNamed B.named, fun w hw => atoms_spec (ws := .code y_MC_trade b_MC_trade 3 (some .int) :: gtb) B.pre w (List.mem_cons_of_mem _ hw)⟩
  have hl := lv_entry ([.ref (Z.2.2.1 138), .int x1, .int x2]) (n := 3) (Nat.le_of_ble_eq_true rfl)
  rw [lg_entry_eq]
  exact wk_MC_trade hI hZ M x1 x2 S hX ⟨Nat.le_refl _, Nat.le_refl _⟩ (fun pc H locs ls hH d => q_ri S.1 S.2.1 B.returns B.notSynchronized hH rfl rfl d) hf ⟨hP, va_S.rf⟩ hl
noncomputable def f_MC_undo (M : Mem) : Option (Int32 × Mem) := 
    if 0 < (M 138 6) then 
    lt1 (upM M 138 6 ((M 138 6) - (1 : Int32))) (fun M1 => 
    gIn (M1 138 6) 10 (gLt (M1 139 (M1 138 6).toNatClampNeg).toNatClampNeg 14 (bnd (f_Play_become 0 (8 * (M1 139 (M1 138 6).toNatClampNeg).toNatClampNeg) M1) (fun M5 => bnd (f_MC_replay M5) (fun M7 => some (M7 138 6, M7)))))) else some ((-1 : Int32), M)
set_option maxHeartbeats 4000000 in
theorem wk_MC_undo {l : Launch} {Z : WD} (hI : wI Z) (hZ : IsC Z) (M : Mem) {r : Int32} {M' : Mem} {p : Program} {e : Env} {R : Room} {s : State} {m : MethodId} {args : Array Value} {below : List Frame} {meth : Method} {c : Code} {H : Heap} {locs : List Loc} {ls : Array Slot} {Q : State → Prop} (S : CallFix p m c b_MC_undo 1 s args gtb R_MC) (hX : wX Z s) (hR : 6 ≤ R.frames ∧ 135 ≤ R.locals) (hQ : ∀ (pc : Nat) (H : Heap) (locs : List Loc) (ls : Array Slot), HW Z M' s H locs → decode b_MC_undo pc = .ok (.ireturn, 1) → W p l e R s m args below meth c H locs 0 0 Q (F0 m pc ls [.int r])) (hf0 : f_MC_undo M = some (r, M')) (hH : HW Z M s H locs) (hl : lv_has ls 1 [(0, .ref (Z.2.2.1 138))]) : W p l e R s m args below meth c H locs 0 0 Q (F0 m 0 ls []) := by
  have hx := S.1
  have hb := S.2.1
  have hown := S.2.2.2.1
  have ht := S.2.2.2.2
  unfold f_MC_undo at hf0
  refine lv_aload_n hx hb d_MC_undo_0 rfl (lv_at hl 0 rfl) ?_
  refine g_MC_42 S hX hH hZ d_MC_undo_1 ?_
  refine lv_if_gt (tgt := 9) hx hb d_MC_undo_4 (by decide) (fun hc => ?_) (fun hc => ?_)
  · replace hf0 := o_t hc hf0
    refine lv_aload_n hx hb d_MC_undo_9 rfl (lv_at hl 0 rfl) ?_
    refine lv_dup hx hb d_MC_undo_10 rfl ?_
    refine g_MC_42 S hX hH hZ d_MC_undo_11 ?_
    refine lv_iconst (v := (1 : Int32)) hx hb d_MC_undo_14 (by decide) ?_
    refine lv_isub hx hb d_MC_undo_15 ?_
    obtain ⟨M1, hM1, hf0⟩ := o_l hf0
    refine s_MC_42 S hX hI hH hZ d_MC_undo_16 (fun H locs hH => ?_)
    rw [hM1] at hH
    refine lv_aload_n hx hb d_MC_undo_19 rfl (lv_at hl 0 rfl) ?_
    refine g_MC_10 S hX hH hZ d_MC_undo_20 ?_
    refine lv_aload_n hx hb d_MC_undo_23 rfl (lv_at hl 0 rfl) ?_
    refine g_MC_35 S hX hH hZ d_MC_undo_24 ?_
    refine lv_aload_n hx hb d_MC_undo_27 rfl (lv_at hl 0 rfl) ?_
    refine g_MC_42 S hX hH hZ d_MC_undo_28 ?_
    obtain ⟨hn2, hf0⟩ := o_in hf0
    refine q_pald_139 (j := (M1 138 6).toNatClampNeg) hx hb hX hZ hH hn2 rfl d_MC_undo_31 ?_
    obtain ⟨hq3, hf0⟩ := o_gl hf0
    obtain ⟨M5, hc4, hf0⟩ := o_b hf0
    refine q_cVv (As := [.ref (Z.2.2.1 (8 * (M1 139 (M1 138 6).toNatClampNeg).toNatClampNeg))]) (rest := []) S hX hH (c_Play_become l hI hZ 0 (8 * (M1 139 (M1 138 6).toNatClampNeg).toNatClampNeg) M1 isPlay_0 (isPlay_of hq3) hc4) (cw_MC_68 S.2.2.2.2 (Nat.le_trans (Nat.le_of_ble_eq_true rfl) hR.1) (Nat.le_trans (Nat.le_of_ble_eq_true rfl) hR.2)) (rc_Play hX hH hZ isPlay_0) rfl hl.1 rfl (Nat.le_of_ble_eq_true rfl) d_MC_undo_32 ⟨Nat.zero_le _, Nat.zero_le _⟩ (fun H locs hH => ?_)
    refine lv_aload_n hx hb d_MC_undo_35 rfl (lv_at hl 0 rfl) ?_
    obtain ⟨M7, hc6, hf0⟩ := o_b hf0
    refine q_cVv (As := []) (rest := []) S hX hH (c_MC_replay l hI hZ M5 hc6) (cw_MC_49 S.2.2.2.2 (Nat.le_trans (Nat.le_of_ble_eq_true rfl) hR.1) (Nat.le_trans (Nat.le_of_ble_eq_true rfl) hR.2)) (rc_MC hX hH hZ) rfl hl.1 rfl (Nat.le_of_ble_eq_true rfl) d_MC_undo_36 ⟨Nat.zero_le _, Nat.zero_le _⟩ (fun H locs hH => ?_)
    refine lv_aload_n hx hb d_MC_undo_39 rfl (lv_at hl 0 rfl) ?_
    refine g_MC_42 S hX hH hZ d_MC_undo_40 ?_
    obtain ⟨rfl, rfl⟩ := o_p hf0
    exact hQ _ _ _ _ hH d_MC_undo_43
  · replace hf0 := o_f hc hf0
    refine lv_iconst (v := (-1 : Int32)) hx hb d_MC_undo_7 (by decide) ?_
    obtain ⟨rfl, rfl⟩ := o_p hf0
    exact hQ _ _ _ _ hH d_MC_undo_8
theorem c_MC_undo (l : Launch) {Z : WD} (hI : wI Z) (hZ : IsC Z) (M : Mem) {r : Int32} {M' : Mem} (hf : f_MC_undo M = some (r, M')) : Ci l Z y_MC_undo b_MC_undo 1 (some .int) 6 135 [.ref (Z.2.2.1 138)] M M' r := by
  refine Met.ofW (cc := b_MC_undo) (maxL := 1) (ret := (some .int)) (by decide) rfl ?_
  intro p e s m args below meth c s₁ B hml hv
  obtain ⟨rfl, hP, hX⟩ := hv
  have S : CallFix p m c b_MC_undo 1 s ([.ref (Z.2.2.1 138)] : List Value).toArray gtb R_MC := ⟨B.exec, B.bytes, hml, findClass_of_methodNamed B.named, fun w hw => atoms_spec (ws := .code y_MC_undo b_MC_undo 1 (some .int) :: gtb) B.pre w (List.mem_cons_of_mem _ hw)⟩
  have hl := lv_entry ([.ref (Z.2.2.1 138)]) (n := 1) (Nat.le_of_ble_eq_true rfl)
  rw [lg_entry_eq]
  exact wk_MC_undo hI hZ M S hX ⟨Nat.le_refl _, Nat.le_refl _⟩ (fun pc H locs ls hH d => q_ri S.1 S.2.1 B.returns B.notSynchronized hH rfl rfl d) hf ⟨hP, va_S.rf⟩ hl
noncomputable def f_MC_keep (M : Mem) (x1 : Int32) : Option (Int32 × Mem) := 
    if x1 < 0 then some ((-1 : Int32), M) else 
    if x1 < (2 : Int32) then 
    gIn x1 2 (gLt (M 140 x1.toNatClampNeg).toNatClampNeg 14 (bnd (f_Play_become (8 * (M 140 x1.toNatClampNeg).toNatClampNeg) 0 M) (fun M4 => lt1 (upM M4 138 7 ((M4 138 7) ||| ((1 : Int32) <<< (x1 &&& 31)))) (fun M5 => some (M5 0 2, M5))))) else some ((-1 : Int32), M)
set_option maxHeartbeats 4000000 in
theorem wk_MC_keep {l : Launch} {Z : WD} (hI : wI Z) (hZ : IsC Z) (M : Mem) (x1 : Int32) {r : Int32} {M' : Mem} {p : Program} {e : Env} {R : Room} {s : State} {m : MethodId} {args : Array Value} {below : List Frame} {meth : Method} {c : Code} {H : Heap} {locs : List Loc} {ls : Array Slot} {Q : State → Prop} (S : CallFix p m c b_MC_keep 2 s args gtb R_MC) (hX : wX Z s) (hR : 2 ≤ R.frames ∧ 47 ≤ R.locals) (hQ : ∀ (pc : Nat) (H : Heap) (locs : List Loc) (ls : Array Slot), HW Z M' s H locs → decode b_MC_keep pc = .ok (.ireturn, 1) → W p l e R s m args below meth c H locs 0 0 Q (F0 m pc ls [.int r])) (hf0 : f_MC_keep M x1 = some (r, M')) (hH : HW Z M s H locs) (hl : lv_has ls 2 [(0, .ref (Z.2.2.1 138)), (1, .int x1)]) : W p l e R s m args below meth c H locs 0 0 Q (F0 m 0 ls []) := by
  have hx := S.1
  have hb := S.2.1
  have hown := S.2.2.2.1
  have ht := S.2.2.2.2
  unfold f_MC_keep at hf0
  refine lv_iload_n hx hb d_MC_keep_0 rfl (lv_at hl 1 rfl) ?_
  refine lv_if_lt (tgt := 9) hx hb d_MC_keep_1 (by decide) (fun hc => ?_) (fun hc => ?_)
  · replace hf0 := o_t hc hf0
    refine lv_iconst (v := (-1 : Int32)) hx hb d_MC_keep_9 (by decide) ?_
    obtain ⟨rfl, rfl⟩ := o_p hf0
    exact hQ _ _ _ _ hH d_MC_keep_10
  · replace hf0 := o_f hc hf0
    refine lv_iload_n hx hb d_MC_keep_4 rfl (lv_at hl 1 rfl) ?_
    refine lv_iconst (v := (2 : Int32)) hx hb d_MC_keep_5 (by decide) ?_
    refine lv_icmp_lt (tgt := 11) hx hb d_MC_keep_6 (by decide) (fun hc => ?_) (fun hc => ?_)
    · replace hf0 := o_t hc hf0
      refine lv_aload_n hx hb d_MC_keep_11 rfl (lv_at hl 0 rfl) ?_
      refine g_MC_39 S hX hH hZ d_MC_keep_12 ?_
      refine lv_iload_n hx hb d_MC_keep_15 rfl (lv_at hl 1 rfl) ?_
      obtain ⟨hn1, hf0⟩ := o_in hf0
      refine q_pald_140 (j := x1.toNatClampNeg) hx hb hX hZ hH hn1 rfl d_MC_keep_16 ?_
      refine lv_aload_n hx hb d_MC_keep_17 rfl (lv_at hl 0 rfl) ?_
      refine g_MC_10 S hX hH hZ d_MC_keep_18 ?_
      obtain ⟨hq2, hf0⟩ := o_gl hf0
      obtain ⟨M4, hc3, hf0⟩ := o_b hf0
      refine q_cVv (As := [.ref (Z.2.2.1 0)]) (rest := []) S hX hH (c_Play_become l hI hZ (8 * (M 140 x1.toNatClampNeg).toNatClampNeg) 0 M (isPlay_of hq2) isPlay_0 hc3) (cw_MC_68 S.2.2.2.2 (Nat.le_trans (Nat.le_of_ble_eq_true rfl) hR.1) (Nat.le_trans (Nat.le_of_ble_eq_true rfl) hR.2)) (rc_Play hX hH hZ (isPlay_of hq2)) rfl hl.1 rfl (Nat.le_of_ble_eq_true rfl) d_MC_keep_21 ⟨Nat.zero_le _, Nat.zero_le _⟩ (fun H locs hH => ?_)
      refine lv_aload_n hx hb d_MC_keep_24 rfl (lv_at hl 0 rfl) ?_
      refine lv_dup hx hb d_MC_keep_25 rfl ?_
      refine g_MC_46 S hX hH hZ d_MC_keep_26 ?_
      refine lv_iconst (v := (1 : Int32)) hx hb d_MC_keep_29 (by decide) ?_
      refine lv_iload_n hx hb d_MC_keep_30 rfl (lv_at hl 1 rfl) ?_
      refine lv_ishl hx hb d_MC_keep_31 ?_
      refine lv_ior hx hb d_MC_keep_32 ?_
      obtain ⟨M5, hM5, hf0⟩ := o_l hf0
      refine s_MC_46 S hX hI hH hZ d_MC_keep_33 (fun H locs hH => ?_)
      rw [hM5] at hH
      refine lv_aload_n hx hb d_MC_keep_36 rfl (lv_at hl 0 rfl) ?_
      refine g_MC_10 S hX hH hZ d_MC_keep_37 ?_
      refine g_MC_108 S hX hH hZ isPlay_0 d_MC_keep_40 ?_
      obtain ⟨rfl, rfl⟩ := o_p hf0
      exact hQ _ _ _ _ hH d_MC_keep_43
    · replace hf0 := o_f hc hf0
      refine lv_iconst (v := (-1 : Int32)) hx hb d_MC_keep_9 (by decide) ?_
      obtain ⟨rfl, rfl⟩ := o_p hf0
      exact hQ _ _ _ _ hH d_MC_keep_10
theorem c_MC_keep (l : Launch) {Z : WD} (hI : wI Z) (hZ : IsC Z) (M : Mem) (x1 : Int32) {r : Int32} {M' : Mem} (hf : f_MC_keep M x1 = some (r, M')) : Ci l Z y_MC_keep b_MC_keep 2 (some .int) 2 47 [.ref (Z.2.2.1 138), .int x1] M M' r := by
  refine Met.ofW (cc := b_MC_keep) (maxL := 2) (ret := (some .int)) (by decide) rfl ?_
  intro p e s m args below meth c s₁ B hml hv
  obtain ⟨rfl, hP, hX⟩ := hv
  have S : CallFix p m c b_MC_keep 2 s ([.ref (Z.2.2.1 138), .int x1] : List Value).toArray gtb R_MC := ⟨B.exec, B.bytes, hml, findClass_of_methodNamed B.named, fun w hw => atoms_spec (ws := .code y_MC_keep b_MC_keep 2 (some .int) :: gtb) B.pre w (List.mem_cons_of_mem _ hw)⟩
  have hl := lv_entry ([.ref (Z.2.2.1 138), .int x1]) (n := 2) (Nat.le_of_ble_eq_true rfl)
  rw [lg_entry_eq]
  exact wk_MC_keep hI hZ M x1 S hX ⟨Nat.le_refl _, Nat.le_refl _⟩ (fun pc H locs ls hH d => q_ri S.1 S.2.1 B.returns B.notSynchronized hH rfl rfl d) hf ⟨hP, va_S.rf⟩ hl
noncomputable def f_MC_back (M : Mem) (x1 : Int32) : Option (Int32 × Mem) := 
    if x1 < 0 then some ((-1 : Int32), M) else 
    if x1 < (2 : Int32) then 
    if (((M 138 7) >>> (x1 &&& 31)) &&& (1 : Int32)) = 0 then some ((-2 : Int32), M) else 
    gIn x1 2 (gLt (M 140 x1.toNatClampNeg).toNatClampNeg 14 (bnd (f_Play_become 0 (8 * (M 140 x1.toNatClampNeg).toNatClampNeg) M) (fun M4 => lt1 (upM M4 138 6 (0 : Int32)) (fun M5 => bnd (f_MC_replay M5) (fun M7 => some (M7 0 2, M7)))))) else some ((-1 : Int32), M)
set_option maxHeartbeats 4000000 in
theorem wk_MC_back {l : Launch} {Z : WD} (hI : wI Z) (hZ : IsC Z) (M : Mem) (x1 : Int32) {r : Int32} {M' : Mem} {p : Program} {e : Env} {R : Room} {s : State} {m : MethodId} {args : Array Value} {below : List Frame} {meth : Method} {c : Code} {H : Heap} {locs : List Loc} {ls : Array Slot} {Q : State → Prop} (S : CallFix p m c b_MC_back 2 s args gtb R_MC) (hX : wX Z s) (hR : 6 ≤ R.frames ∧ 135 ≤ R.locals) (hQ : ∀ (pc : Nat) (H : Heap) (locs : List Loc) (ls : Array Slot), HW Z M' s H locs → decode b_MC_back pc = .ok (.ireturn, 1) → W p l e R s m args below meth c H locs 0 0 Q (F0 m pc ls [.int r])) (hf0 : f_MC_back M x1 = some (r, M')) (hH : HW Z M s H locs) (hl : lv_has ls 2 [(0, .ref (Z.2.2.1 138)), (1, .int x1)]) : W p l e R s m args below meth c H locs 0 0 Q (F0 m 0 ls []) := by
  have hx := S.1
  have hb := S.2.1
  have hown := S.2.2.2.1
  have ht := S.2.2.2.2
  unfold f_MC_back at hf0
  refine lv_iload_n hx hb d_MC_back_0 rfl (lv_at hl 1 rfl) ?_
  refine lv_if_lt (tgt := 9) hx hb d_MC_back_1 (by decide) (fun hc => ?_) (fun hc => ?_)
  · replace hf0 := o_t hc hf0
    refine lv_iconst (v := (-1 : Int32)) hx hb d_MC_back_9 (by decide) ?_
    obtain ⟨rfl, rfl⟩ := o_p hf0
    exact hQ _ _ _ _ hH d_MC_back_10
  · replace hf0 := o_f hc hf0
    refine lv_iload_n hx hb d_MC_back_4 rfl (lv_at hl 1 rfl) ?_
    refine lv_iconst (v := (2 : Int32)) hx hb d_MC_back_5 (by decide) ?_
    refine lv_icmp_lt (tgt := 11) hx hb d_MC_back_6 (by decide) (fun hc => ?_) (fun hc => ?_)
    · replace hf0 := o_t hc hf0
      refine lv_aload_n hx hb d_MC_back_11 rfl (lv_at hl 0 rfl) ?_
      refine g_MC_46 S hX hH hZ d_MC_back_12 ?_
      refine lv_iload_n hx hb d_MC_back_15 rfl (lv_at hl 1 rfl) ?_
      refine lv_ishr hx hb d_MC_back_16 ?_
      refine lv_iconst (v := (1 : Int32)) hx hb d_MC_back_17 (by decide) ?_
      refine lv_iand hx hb d_MC_back_18 ?_
      refine lv_if_ne (tgt := 25) hx hb d_MC_back_19 (by decide) (fun hc => ?_) (fun hc => ?_)
      · replace hf0 := o_f hc hf0
        refine lv_aload_n hx hb d_MC_back_25 rfl (lv_at hl 0 rfl) ?_
        refine g_MC_10 S hX hH hZ d_MC_back_26 ?_
        refine lv_aload_n hx hb d_MC_back_29 rfl (lv_at hl 0 rfl) ?_
        refine g_MC_39 S hX hH hZ d_MC_back_30 ?_
        refine lv_iload_n hx hb d_MC_back_33 rfl (lv_at hl 1 rfl) ?_
        obtain ⟨hn1, hf0⟩ := o_in hf0
        refine q_pald_140 (j := x1.toNatClampNeg) hx hb hX hZ hH hn1 rfl d_MC_back_34 ?_
        obtain ⟨hq2, hf0⟩ := o_gl hf0
        obtain ⟨M4, hc3, hf0⟩ := o_b hf0
        refine q_cVv (As := [.ref (Z.2.2.1 (8 * (M 140 x1.toNatClampNeg).toNatClampNeg))]) (rest := []) S hX hH (c_Play_become l hI hZ 0 (8 * (M 140 x1.toNatClampNeg).toNatClampNeg) M isPlay_0 (isPlay_of hq2) hc3) (cw_MC_68 S.2.2.2.2 (Nat.le_trans (Nat.le_of_ble_eq_true rfl) hR.1) (Nat.le_trans (Nat.le_of_ble_eq_true rfl) hR.2)) (rc_Play hX hH hZ isPlay_0) rfl hl.1 rfl (Nat.le_of_ble_eq_true rfl) d_MC_back_35 ⟨Nat.zero_le _, Nat.zero_le _⟩ (fun H locs hH => ?_)
        refine lv_aload_n hx hb d_MC_back_38 rfl (lv_at hl 0 rfl) ?_
        refine lv_iconst (v := (0 : Int32)) hx hb d_MC_back_39 (by decide) ?_
        obtain ⟨M5, hM5, hf0⟩ := o_l hf0
        refine s_MC_42 S hX hI hH hZ d_MC_back_40 (fun H locs hH => ?_)
        rw [hM5] at hH
        refine lv_aload_n hx hb d_MC_back_43 rfl (lv_at hl 0 rfl) ?_
        obtain ⟨M7, hc6, hf0⟩ := o_b hf0
        refine q_cVv (As := []) (rest := []) S hX hH (c_MC_replay l hI hZ M5 hc6) (cw_MC_49 S.2.2.2.2 (Nat.le_trans (Nat.le_of_ble_eq_true rfl) hR.1) (Nat.le_trans (Nat.le_of_ble_eq_true rfl) hR.2)) (rc_MC hX hH hZ) rfl hl.1 rfl (Nat.le_of_ble_eq_true rfl) d_MC_back_44 ⟨Nat.zero_le _, Nat.zero_le _⟩ (fun H locs hH => ?_)
        refine lv_aload_n hx hb d_MC_back_47 rfl (lv_at hl 0 rfl) ?_
        refine g_MC_10 S hX hH hZ d_MC_back_48 ?_
        refine g_MC_108 S hX hH hZ isPlay_0 d_MC_back_51 ?_
        obtain ⟨rfl, rfl⟩ := o_p hf0
        exact hQ _ _ _ _ hH d_MC_back_54
      · replace hf0 := o_t hc hf0
        refine lv_bipush (v := (-2 : Int32)) hx hb d_MC_back_22 (by decide) ?_
        obtain ⟨rfl, rfl⟩ := o_p hf0
        exact hQ _ _ _ _ hH d_MC_back_24
    · replace hf0 := o_f hc hf0
      refine lv_iconst (v := (-1 : Int32)) hx hb d_MC_back_9 (by decide) ?_
      obtain ⟨rfl, rfl⟩ := o_p hf0
      exact hQ _ _ _ _ hH d_MC_back_10
theorem c_MC_back (l : Launch) {Z : WD} (hI : wI Z) (hZ : IsC Z) (M : Mem) (x1 : Int32) {r : Int32} {M' : Mem} (hf : f_MC_back M x1 = some (r, M')) : Ci l Z y_MC_back b_MC_back 2 (some .int) 6 135 [.ref (Z.2.2.1 138), .int x1] M M' r := by
  refine Met.ofW (cc := b_MC_back) (maxL := 2) (ret := (some .int)) (by decide) rfl ?_
  intro p e s m args below meth c s₁ B hml hv
  obtain ⟨rfl, hP, hX⟩ := hv
  have S : CallFix p m c b_MC_back 2 s ([.ref (Z.2.2.1 138), .int x1] : List Value).toArray gtb R_MC := ⟨B.exec, B.bytes, hml, findClass_of_methodNamed B.named, fun w hw => atoms_spec (ws := .code y_MC_back b_MC_back 2 (some .int) :: gtb) B.pre w (List.mem_cons_of_mem _ hw)⟩
  have hl := lv_entry ([.ref (Z.2.2.1 138), .int x1]) (n := 2) (Nat.le_of_ble_eq_true rfl)
  rw [lg_entry_eq]
  exact wk_MC_back hI hZ M x1 S hX ⟨Nat.le_refl _, Nat.le_refl _⟩ (fun pc H locs ls hH d => q_ri S.1 S.2.1 B.returns B.notSynchronized hH rfl rfl d) hf ⟨hP, va_S.rf⟩ hl
noncomputable def f_MC_hasRoundBehind_J21 (M : Mem) : Bool := false
noncomputable def f_MC_hasRoundBehind (M : Mem) (x1 : Int32) : Bool := 
    if x1 < 0 then f_MC_hasRoundBehind_J21 M else if (M 1 2) < x1 then f_MC_hasRoundBehind_J21 M else true
set_option maxHeartbeats 4000000 in
theorem wk_MC_hasRoundBehind {l : Launch} {Z : WD} (hI : wI Z) (hZ : IsC Z) (M : Mem) (x1 : Int32) {r : Bool} {p : Program} {e : Env} {R : Room} {s : State} {m : MethodId} {args : Array Value} {below : List Frame} {meth : Method} {c : Code} {H : Heap} {locs : List Loc} {ls : Array Slot} {Q : State → Prop} (S : CallFix p m c b_MC_hasRoundBehind 2 s args gtb R_MC) (hX : wX Z s) (hR : 0 ≤ R.frames ∧ 0 ≤ R.locals) (hQ : ∀ (pc : Nat) (H : Heap) (locs : List Loc) (ls : Array Slot), HW Z M s H locs → decode b_MC_hasRoundBehind pc = .ok (.ireturn, 1) → W p l e R s m args below meth c H locs 0 0 Q (F0 m pc ls [.int (bI r)])) (hf0 : f_MC_hasRoundBehind M x1 = r) (hH : HW Z M s H locs) (hl : lv_has ls 2 [(0, .ref (Z.2.2.1 138)), (1, .int x1)]) : W p l e R s m args below meth c H locs 0 0 Q (F0 m 0 ls []) := by
  have hx := S.1
  have hb := S.2.1
  have hown := S.2.2.2.1
  have ht := S.2.2.2.2
  unfold f_MC_hasRoundBehind at hf0
  have J21 : ∀ (H : Heap) (locs : List Loc) (ls : Array Slot), f_MC_hasRoundBehind_J21 M = r → HW Z M s H locs → lv_has ls 2 [] → W p l e R s m args below meth c H locs 0 0 Q (F0 m 21 ls []) := by
    intro H locs ls hf0 hH hl
    unfold f_MC_hasRoundBehind_J21 at hf0
    refine lv_iconst (v := (0 : Int32)) hx hb d_MC_hasRoundBehind_21 (by decide) ?_
    subst hf0
    exact hQ _ _ _ _ hH d_MC_hasRoundBehind_22
  refine lv_iload_n hx hb d_MC_hasRoundBehind_0 rfl (lv_at hl 1 rfl) ?_
  refine lv_if_lt (tgt := 21) hx hb d_MC_hasRoundBehind_1 (by decide) (fun hc => ?_) (fun hc => ?_)
  · replace hf0 := o_t hc hf0
    exact J21 _ _ _ hf0 hH (lv_sub hl [] rfl)
  · replace hf0 := o_f hc hf0
    refine lv_iload_n hx hb d_MC_hasRoundBehind_4 rfl (lv_at hl 1 rfl) ?_
    refine lv_aload_n hx hb d_MC_hasRoundBehind_5 rfl (lv_at hl 0 rfl) ?_
    refine g_MC_10 S hX hH hZ d_MC_hasRoundBehind_6 ?_
    refine g_MC_78 S hX hH hZ isPlay_0 d_MC_hasRoundBehind_9 ?_
    refine lv_iconst (v := (2 : Int32)) hx hb d_MC_hasRoundBehind_12 (by decide) ?_
    refine q_iald (j := 2) hx hb hX hH (aa_Play_1 hZ isPlay_0) (vp_c (by decide)) (by decide) d_MC_hasRoundBehind_13 ?_
    refine lv_icmp_gt (tgt := 21) hx hb d_MC_hasRoundBehind_14 (by decide) (fun hc => ?_) (fun hc => ?_)
    · replace hf0 := o_t hc hf0
      exact J21 _ _ _ hf0 hH (lv_sub hl [] rfl)
    · replace hf0 := o_f hc hf0
      refine lv_iconst (v := (1 : Int32)) hx hb d_MC_hasRoundBehind_17 (by decide) ?_
      refine lv_goto (tgt := 22) hx hb d_MC_hasRoundBehind_18 (by decide) ?_
      subst hf0
      exact hQ _ _ _ _ hH d_MC_hasRoundBehind_22
theorem c_MC_hasRoundBehind (l : Launch) {Z : WD} (hI : wI Z) (hZ : IsC Z) (M : Mem) (x1 : Int32) {r : Bool} (hf : f_MC_hasRoundBehind M x1 = r) : Ci l Z y_MC_hasRoundBehind b_MC_hasRoundBehind 2 (some .boolean) 0 0 [.ref (Z.2.2.1 138), .int x1] M M (bI r) := by
  refine Met.ofW (cc := b_MC_hasRoundBehind) (maxL := 2) (ret := (some .boolean)) (by decide) rfl ?_
  intro p e s m args below meth c s₁ B hml hv
  obtain ⟨rfl, hP, hX⟩ := hv
  have S : CallFix p m c b_MC_hasRoundBehind 2 s ([.ref (Z.2.2.1 138), .int x1] : List Value).toArray gtb R_MC := ⟨B.exec, B.bytes, hml, findClass_of_methodNamed B.named, fun w hw => atoms_spec (ws := .code y_MC_hasRoundBehind b_MC_hasRoundBehind 2 (some .boolean) :: gtb) B.pre w (List.mem_cons_of_mem _ hw)⟩
  have hl := lv_entry ([.ref (Z.2.2.1 138), .int x1]) (n := 2) (Nat.le_of_ble_eq_true rfl)
  rw [lg_entry_eq]
  exact wk_MC_hasRoundBehind hI hZ M x1 S hX ⟨Nat.le_refl _, Nat.le_refl _⟩ (fun pc H locs ls hH d => q_rz S.1 S.2.1 B.returns B.notSynchronized hH rfl rfl d) hf ⟨hP, va_S.rf⟩ hl
theorem cw_MC_174 {R : Room} {s : State} {args : Array Value} (ht : ∀ w ∈ gtb, w.before args s = true) (h1 : 1 + 1 ≤ R.frames) (h2 : 8 + (2 + 11) + 21 ≤ R.locals) : CallW R s args R_MC R_Play 174 y_Play_isHonest b_Play_isHonest 2 (some .boolean) (.code y_Play_isHonest b_Play_isHonest 2 (some .boolean) :: gtb) { frames := 1, cells := 0, slots := 0, locals := 21 } 0 0 1 := cwV 1 ht (gV w3_188 w1_230 w1_231 w1_2 w1_232) rfl rfl rfl ⟨rfl, by decide, by decide, by decide +kernel⟩ ⟨h1, h2⟩
theorem cw_MC_177 {R : Room} {s : State} {args : Array Value} (ht : ∀ w ∈ gtb, w.before args s = true) (h1 : 0 + 1 ≤ R.frames) (h2 : 8 + (2 + 11) + 0 ≤ R.locals) : CallW R s args R_MC R_MC 177 y_MC_hasRoundBehind b_MC_hasRoundBehind 2 (some .boolean) (.code y_MC_hasRoundBehind b_MC_hasRoundBehind 2 (some .boolean) :: gtb) { frames := 0, cells := 0, slots := 0, locals := 0 } 0 0 1 := cwV 1 ht (gV w3_189 w3_191 ws_MC_hasRoundBehind w1_1 w3_192) rfl rfl rfl ⟨rfl, by decide, by decide, by decide +kernel⟩ ⟨h1, h2⟩
theorem cw_MC_180 {R : Room} {s : State} {args : Array Value} (ht : ∀ w ∈ gtb, w.before args s = true) (h1 : 1 + 1 ≤ R.frames) (h2 : 8 + (3 + 11) + 20 ≤ R.locals) : CallW R s args R_MC R_Run 180 y_Run_setOf b_Run_setOf 3 (some .int) (.code y_Run_setOf b_Run_setOf 3 (some .int) :: gtb) { frames := 1, cells := 0, slots := 0, locals := 20 } 0 0 2 := cwV 2 ht (gV w3_193 w3_194 w3_195 w1_4 w3_196) rfl rfl rfl ⟨rfl, by decide, by decide, by decide +kernel⟩ ⟨h1, h2⟩
noncomputable def f_MC_set (M : Mem) (x1 : Int32) (x2 : Int32) : Option Int32 := 
    if (bI (f_Play_isHonest 0 M x1)) = 0 then some (-1 : Int32) else 
    if (bI (f_MC_hasRoundBehind M x2)) = 0 then some (-1 : Int32) else bnd (f_Run_setOf 112 M x1 x2) (fun y2 => some y2)
set_option maxHeartbeats 4000000 in
theorem wk_MC_set {l : Launch} {Z : WD} (hI : wI Z) (hZ : IsC Z) (M : Mem) (x1 : Int32) (x2 : Int32) {r : Int32} {p : Program} {e : Env} {R : Room} {s : State} {m : MethodId} {args : Array Value} {below : List Frame} {meth : Method} {c : Code} {H : Heap} {locs : List Loc} {ls : Array Slot} {Q : State → Prop} (S : CallFix p m c b_MC_set 3 s args gtb R_MC) (hX : wX Z s) (hR : 2 ≤ R.frames ∧ 42 ≤ R.locals) (hQ : ∀ (pc : Nat) (H : Heap) (locs : List Loc) (ls : Array Slot), HW Z M s H locs → decode b_MC_set pc = .ok (.ireturn, 1) → W p l e R s m args below meth c H locs 0 0 Q (F0 m pc ls [.int r])) (hf0 : f_MC_set M x1 x2 = some r) (hH : HW Z M s H locs) (hl : lv_has ls 3 [(0, .ref (Z.2.2.1 138)), (1, .int x1), (2, .int x2)]) : W p l e R s m args below meth c H locs 0 0 Q (F0 m 0 ls []) := by
  have hx := S.1
  have hb := S.2.1
  have hown := S.2.2.2.1
  have ht := S.2.2.2.2
  unfold f_MC_set at hf0
  refine lv_aload_n hx hb d_MC_set_0 rfl (lv_at hl 0 rfl) ?_
  refine g_MC_10 S hX hH hZ d_MC_set_1 ?_
  refine lv_iload_n hx hb d_MC_set_4 rfl (lv_at hl 1 rfl) ?_
  refine q_cVi (As := [.int x1]) (rest := []) S hX hH (c_Play_isHonest l hI hZ 0 M x1 isPlay_0 rfl) (cw_MC_174 S.2.2.2.2 (Nat.le_trans (Nat.le_of_ble_eq_true rfl) hR.1) (Nat.le_trans (Nat.le_of_ble_eq_true rfl) hR.2)) (rc_Play hX hH hZ isPlay_0) rfl hl.1 rfl (Nat.le_of_ble_eq_true rfl) d_MC_set_5 ⟨Nat.zero_le _, Nat.zero_le _⟩ (fun H locs hH => ?_)
  refine lv_if_eq (tgt := 19) hx hb d_MC_set_8 (by decide) (fun hc => ?_) (fun hc => ?_)
  · replace hf0 := o_t hc hf0
    refine lv_iconst (v := (-1 : Int32)) hx hb d_MC_set_19 (by decide) ?_
    obtain rfl := o_v hf0
    exact hQ _ _ _ _ hH d_MC_set_20
  · replace hf0 := o_f hc hf0
    refine lv_aload_n hx hb d_MC_set_11 rfl (lv_at hl 0 rfl) ?_
    refine lv_iload_n hx hb d_MC_set_12 rfl (lv_at hl 2 rfl) ?_
    refine q_cVi (As := [.int x2]) (rest := []) S hX hH (c_MC_hasRoundBehind l hI hZ M x2 rfl) (cw_MC_177 S.2.2.2.2 (Nat.le_trans (Nat.le_of_ble_eq_true rfl) hR.1) (Nat.le_trans (Nat.le_of_ble_eq_true rfl) hR.2)) (rc_MC hX hH hZ) rfl hl.1 rfl (Nat.le_of_ble_eq_true rfl) d_MC_set_13 ⟨Nat.zero_le _, Nat.zero_le _⟩ (fun H locs hH => ?_)
    refine lv_if_ne (tgt := 21) hx hb d_MC_set_16 (by decide) (fun hc => ?_) (fun hc => ?_)
    · replace hf0 := o_f hc hf0
      refine lv_aload_n hx hb d_MC_set_21 rfl (lv_at hl 0 rfl) ?_
      refine g_MC_28 S hX hH hZ d_MC_set_22 ?_
      refine lv_iload_n hx hb d_MC_set_25 rfl (lv_at hl 1 rfl) ?_
      refine lv_iload_n hx hb d_MC_set_26 rfl (lv_at hl 2 rfl) ?_
      obtain ⟨y2, hc1, hf0⟩ := o_b hf0
      refine q_cVi (As := [.int x1, .int x2]) (rest := []) S hX hH (c_Run_setOf l hI hZ 112 M x1 x2 isRun_112 hc1) (cw_MC_180 S.2.2.2.2 (Nat.le_trans (Nat.le_of_ble_eq_true rfl) hR.1) (Nat.le_trans (Nat.le_of_ble_eq_true rfl) hR.2)) (rc_Run hX hH hZ isRun_112) rfl hl.1 rfl (Nat.le_of_ble_eq_true rfl) d_MC_set_27 ⟨Nat.zero_le _, Nat.zero_le _⟩ (fun H locs hH => ?_)
      obtain rfl := o_v hf0
      exact hQ _ _ _ _ hH d_MC_set_30
    · replace hf0 := o_t hc hf0
      refine lv_iconst (v := (-1 : Int32)) hx hb d_MC_set_19 (by decide) ?_
      obtain rfl := o_v hf0
      exact hQ _ _ _ _ hH d_MC_set_20
theorem c_MC_set (l : Launch) {Z : WD} (hI : wI Z) (hZ : IsC Z) (M : Mem) (x1 : Int32) (x2 : Int32) {r : Int32} (hf : f_MC_set M x1 x2 = some r) : Ci l Z y_MC_set b_MC_set 3 (some .int) 2 42 [.ref (Z.2.2.1 138), .int x1, .int x2] M M r := by
  refine Met.ofW (cc := b_MC_set) (maxL := 3) (ret := (some .int)) (by decide) rfl ?_
  intro p e s m args below meth c s₁ B hml hv
  obtain ⟨rfl, hP, hX⟩ := hv
  have S : CallFix p m c b_MC_set 3 s ([.ref (Z.2.2.1 138), .int x1, .int x2] : List Value).toArray gtb R_MC := ⟨B.exec, B.bytes, hml, findClass_of_methodNamed B.named, fun w hw => atoms_spec (ws := .code y_MC_set b_MC_set 3 (some .int) :: gtb) B.pre w (List.mem_cons_of_mem _ hw)⟩
  have hl := lv_entry ([.ref (Z.2.2.1 138), .int x1, .int x2]) (n := 3) (Nat.le_of_ble_eq_true rfl)
  rw [lg_entry_eq]
  exact wk_MC_set hI hZ M x1 x2 S hX ⟨Nat.le_refl _, Nat.le_refl _⟩ (fun pc H locs ls hH d => q_ri S.1 S.2.1 B.returns B.notSynchronized hH rfl rfl d) hf ⟨hP, va_S.rf⟩ hl
theorem cw_MC_183 {R : Room} {s : State} {args : Array Value} (ht : ∀ w ∈ gtb, w.before args s = true) (h1 : 2 + 1 ≤ R.frames) (h2 : 8 + (4 + 11) + 42 ≤ R.locals) : CallW R s args R_MC R_Run 183 y_Run_decisionOf b_Run_decisionOf 4 (some .int) (.code y_Run_decisionOf b_Run_decisionOf 4 (some .int) :: gtb) { frames := 2, cells := 0, slots := 0, locals := 42 } 0 0 1 := cwV 1 ht (gV w3_201 w3_202 w3_203 w1_4 w3_204) rfl rfl rfl ⟨rfl, by decide, by decide, by decide +kernel⟩ ⟨h1, h2⟩
noncomputable def f_MC_decision (M : Mem) (x1 : Int32) : Option Int32 := 
    if (bI (f_Play_isHonest 0 M x1)) = 0 then some (-1 : Int32) else bnd (f_Run_decisionOf 112 M x1) (fun y2 => some y2)
set_option maxHeartbeats 4000000 in
theorem wk_MC_decision {l : Launch} {Z : WD} (hI : wI Z) (hZ : IsC Z) (M : Mem) (x1 : Int32) {r : Int32} {p : Program} {e : Env} {R : Room} {s : State} {m : MethodId} {args : Array Value} {below : List Frame} {meth : Method} {c : Code} {H : Heap} {locs : List Loc} {ls : Array Slot} {Q : State → Prop} (S : CallFix p m c b_MC_decision 2 s args gtb R_MC) (hX : wX Z s) (hR : 3 ≤ R.frames ∧ 65 ≤ R.locals) (hQ : ∀ (pc : Nat) (H : Heap) (locs : List Loc) (ls : Array Slot), HW Z M s H locs → decode b_MC_decision pc = .ok (.ireturn, 1) → W p l e R s m args below meth c H locs 0 0 Q (F0 m pc ls [.int r])) (hf0 : f_MC_decision M x1 = some r) (hH : HW Z M s H locs) (hl : lv_has ls 2 [(0, .ref (Z.2.2.1 138)), (1, .int x1)]) : W p l e R s m args below meth c H locs 0 0 Q (F0 m 0 ls []) := by
  have hx := S.1
  have hb := S.2.1
  have hown := S.2.2.2.1
  have ht := S.2.2.2.2
  unfold f_MC_decision at hf0
  refine lv_aload_n hx hb d_MC_decision_0 rfl (lv_at hl 0 rfl) ?_
  refine g_MC_10 S hX hH hZ d_MC_decision_1 ?_
  refine lv_iload_n hx hb d_MC_decision_4 rfl (lv_at hl 1 rfl) ?_
  refine q_cVi (As := [.int x1]) (rest := []) S hX hH (c_Play_isHonest l hI hZ 0 M x1 isPlay_0 rfl) (cw_MC_174 S.2.2.2.2 (Nat.le_trans (Nat.le_of_ble_eq_true rfl) hR.1) (Nat.le_trans (Nat.le_of_ble_eq_true rfl) hR.2)) (rc_Play hX hH hZ isPlay_0) rfl hl.1 rfl (Nat.le_of_ble_eq_true rfl) d_MC_decision_5 ⟨Nat.zero_le _, Nat.zero_le _⟩ (fun H locs hH => ?_)
  refine lv_if_ne (tgt := 13) hx hb d_MC_decision_8 (by decide) (fun hc => ?_) (fun hc => ?_)
  · replace hf0 := o_f hc hf0
    refine lv_aload_n hx hb d_MC_decision_13 rfl (lv_at hl 0 rfl) ?_
    refine g_MC_28 S hX hH hZ d_MC_decision_14 ?_
    refine lv_iload_n hx hb d_MC_decision_17 rfl (lv_at hl 1 rfl) ?_
    obtain ⟨y2, hc1, hf0⟩ := o_b hf0
    refine q_cVi (As := [.int x1]) (rest := []) S hX hH (c_Run_decisionOf l hI hZ 112 M x1 isRun_112 hc1) (cw_MC_183 S.2.2.2.2 (Nat.le_trans (Nat.le_of_ble_eq_true rfl) hR.1) (Nat.le_trans (Nat.le_of_ble_eq_true rfl) hR.2)) (rc_Run hX hH hZ isRun_112) rfl hl.1 rfl (Nat.le_of_ble_eq_true rfl) d_MC_decision_18 ⟨Nat.zero_le _, Nat.zero_le _⟩ (fun H locs hH => ?_)
    obtain rfl := o_v hf0
    exact hQ _ _ _ _ hH d_MC_decision_21
  · replace hf0 := o_t hc hf0
    refine lv_iconst (v := (-1 : Int32)) hx hb d_MC_decision_11 (by decide) ?_
    obtain rfl := o_v hf0
    exact hQ _ _ _ _ hH d_MC_decision_12
theorem c_MC_decision (l : Launch) {Z : WD} (hI : wI Z) (hZ : IsC Z) (M : Mem) (x1 : Int32) {r : Int32} (hf : f_MC_decision M x1 = some r) : Ci l Z y_MC_decision b_MC_decision 2 (some .int) 3 65 [.ref (Z.2.2.1 138), .int x1] M M r := by
  refine Met.ofW (cc := b_MC_decision) (maxL := 2) (ret := (some .int)) (by decide) rfl ?_
  intro p e s m args below meth c s₁ B hml hv
  obtain ⟨rfl, hP, hX⟩ := hv
  have S : CallFix p m c b_MC_decision 2 s ([.ref (Z.2.2.1 138), .int x1] : List Value).toArray gtb R_MC := ⟨B.exec, B.bytes, hml, findClass_of_methodNamed B.named, fun w hw => atoms_spec (ws := .code y_MC_decision b_MC_decision 2 (some .int) :: gtb) B.pre w (List.mem_cons_of_mem _ hw)⟩
  have hl := lv_entry ([.ref (Z.2.2.1 138), .int x1]) (n := 2) (Nat.le_of_ble_eq_true rfl)
  rw [lg_entry_eq]
  exact wk_MC_decision hI hZ M x1 S hX ⟨Nat.le_refl _, Nat.le_refl _⟩ (fun pc H locs ls hH d => q_ri S.1 S.2.1 B.returns B.notSynchronized hH rfl rfl d) hf ⟨hP, va_S.rf⟩ hl
theorem cw_MC_186 {R : Room} {s : State} {args : Array Value} (ht : ∀ w ∈ gtb, w.before args s = true) (h1 : 0 + 1 ≤ R.frames) (h2 : 8 + (2 + 11) + 0 ≤ R.locals) : CallB R s args R_MC 186 y_MC_cellOf b_MC_cellOf 2 (some .int) (.code y_MC_cellOf b_MC_cellOf 2 (some .int) :: gtb) { frames := 0, cells := 0, slots := 0, locals := 0 } 0 0 2 ∧ (Cond.static y_MC_cellOf).before args s = true := va_cwS 2 ht (gS w3_210 w1_234 w1_1 w1_235) rfl rfl rfl ⟨by decide, by decide, by decide +kernel⟩ ⟨h1, h2⟩
theorem cw_MC_198 {R : Room} {s : State} {args : Array Value} (ht : ∀ w ∈ gtb, w.before args s = true) (h1 : 1 + 1 ≤ R.frames) (h2 : 8 + (7 + 11) + 21 ≤ R.locals) : CallW R s args R_MC R_Run 198 y_Run_relays b_Run_relays 7 (some .boolean) (.code y_Run_relays b_Run_relays 7 (some .boolean) :: gtb) { frames := 1, cells := 0, slots := 0, locals := 21 } 0 0 2 := cwV 2 ht (gV w3_211 w2_25 w2_26 w1_4 w2_27) rfl rfl rfl ⟨rfl, by decide, by decide, by decide +kernel⟩ ⟨h1, h2⟩
noncomputable def f_MC_extracted (M : Mem) (x1 : Int32) (x2 : Int32) (x3 : Int32) : Option Int32 := 
    if (bI (f_Play_isHonest 0 M x1)) = 0 then some (-1 : Int32) else 
    if (bI (f_MC_isValue x2)) = 0 then some (-1 : Int32) else 
    if x3 < 0 then some (-1 : Int32) else 
    if x3 ≤ (3 : Int32) then 
    gIn (f_MC_cellOf x1 x2) 32 (if (M 119 (f_MC_cellOf x1 x2).toNatClampNeg) = (99 : Int32) then some (-2 : Int32) else 
    if x3 = (0 : Int32) then some (M 119 (f_MC_cellOf x1 x2).toNatClampNeg) else 
    if x3 = (1 : Int32) then some (M 120 (f_MC_cellOf x1 x2).toNatClampNeg) else 
    if x3 = (2 : Int32) then some (f_Chain_size (M 121 (f_MC_cellOf x1 x2).toNatClampNeg)) else 
    bnd (f_Run_relays 112 M x1 x2) (fun y3 => if (bI y3) = 0 then some (0 : Int32) else some (1 : Int32))) else some (-1 : Int32)
set_option maxHeartbeats 4000000 in
theorem wk_MC_extracted {l : Launch} {Z : WD} (hI : wI Z) (hZ : IsC Z) (M : Mem) (x1 : Int32) (x2 : Int32) (x3 : Int32) {r : Int32} {p : Program} {e : Env} {R : Room} {s : State} {m : MethodId} {args : Array Value} {below : List Frame} {meth : Method} {c : Code} {H : Heap} {locs : List Loc} {ls : Array Slot} {Q : State → Prop} (S : CallFix p m c b_MC_extracted 6 s args gtb R_MC) (hX : wX Z s) (hR : 2 ≤ R.frames ∧ 47 ≤ R.locals) (hQ : ∀ (pc : Nat) (H : Heap) (locs : List Loc) (ls : Array Slot), HW Z M s H locs → decode b_MC_extracted pc = .ok (.ireturn, 1) → W p l e R s m args below meth c H locs 0 0 Q (F0 m pc ls [.int r])) (hf0 : f_MC_extracted M x1 x2 x3 = some r) (hH : HW Z M s H locs) (hl : lv_has ls 6 [(0, .ref (Z.2.2.1 138)), (1, .int x1), (2, .int x2), (3, .int x3)]) : W p l e R s m args below meth c H locs 0 0 Q (F0 m 0 ls []) := by
  have hx := S.1
  have hb := S.2.1
  have hown := S.2.2.2.1
  have ht := S.2.2.2.2
  unfold f_MC_extracted at hf0
  refine lv_aload_n hx hb d_MC_extracted_0 rfl (lv_at hl 0 rfl) ?_
  refine g_MC_10 S hX hH hZ d_MC_extracted_1 ?_
  refine lv_iload_n hx hb d_MC_extracted_4 rfl (lv_at hl 1 rfl) ?_
  refine q_cVi (As := [.int x1]) (rest := []) S hX hH (c_Play_isHonest l hI hZ 0 M x1 isPlay_0 rfl) (cw_MC_174 S.2.2.2.2 (Nat.le_trans (Nat.le_of_ble_eq_true rfl) hR.1) (Nat.le_trans (Nat.le_of_ble_eq_true rfl) hR.2)) (rc_Play hX hH hZ isPlay_0) rfl hl.1 rfl (Nat.le_of_ble_eq_true rfl) d_MC_extracted_5 ⟨Nat.zero_le _, Nat.zero_le _⟩ (fun H locs hH => ?_)
  refine lv_if_eq (tgt := 27) hx hb d_MC_extracted_8 (by decide) (fun hc => ?_) (fun hc => ?_)
  · replace hf0 := o_t hc hf0
    refine lv_iconst (v := (-1 : Int32)) hx hb d_MC_extracted_27 (by decide) ?_
    obtain rfl := o_v hf0
    exact hQ _ _ _ _ hH d_MC_extracted_28
  · replace hf0 := o_f hc hf0
    refine lv_iload_n hx hb d_MC_extracted_11 rfl (lv_at hl 2 rfl) ?_
    refine q_cSi (As := [.int x2]) (rest := []) S hX hH (c_MC_isValue l hI M x2 rfl) (cw_MC_102 S.2.2.2.2 (Nat.le_trans (Nat.le_of_ble_eq_true rfl) hR.1) (Nat.le_trans (Nat.le_of_ble_eq_true rfl) hR.2)) rfl hl.1 rfl (Nat.le_of_ble_eq_true rfl) d_MC_extracted_12 ⟨Nat.zero_le _, Nat.zero_le _⟩ (fun H locs hH => ?_)
    refine lv_if_eq (tgt := 27) hx hb d_MC_extracted_15 (by decide) (fun hc => ?_) (fun hc => ?_)
    · replace hf0 := o_t hc hf0
      refine lv_iconst (v := (-1 : Int32)) hx hb d_MC_extracted_27 (by decide) ?_
      obtain rfl := o_v hf0
      exact hQ _ _ _ _ hH d_MC_extracted_28
    · replace hf0 := o_f hc hf0
      refine lv_iload_n hx hb d_MC_extracted_18 rfl (lv_at hl 3 rfl) ?_
      refine lv_if_lt (tgt := 27) hx hb d_MC_extracted_19 (by decide) (fun hc => ?_) (fun hc => ?_)
      · replace hf0 := o_t hc hf0
        refine lv_iconst (v := (-1 : Int32)) hx hb d_MC_extracted_27 (by decide) ?_
        obtain rfl := o_v hf0
        exact hQ _ _ _ _ hH d_MC_extracted_28
      · replace hf0 := o_f hc hf0
        refine lv_iload_n hx hb d_MC_extracted_22 rfl (lv_at hl 3 rfl) ?_
        refine lv_iconst (v := (3 : Int32)) hx hb d_MC_extracted_23 (by decide) ?_
        refine lv_icmp_le (tgt := 29) hx hb d_MC_extracted_24 (by decide) (fun hc => ?_) (fun hc => ?_)
        · replace hf0 := o_t hc hf0
          refine lv_iload_n hx hb d_MC_extracted_29 rfl (lv_at hl 1 rfl) ?_
          refine lv_iload_n hx hb d_MC_extracted_30 rfl (lv_at hl 2 rfl) ?_
          refine q_cSi (As := [.int x1, .int x2]) (rest := []) S hX hH (c_MC_cellOf l hI M x1 x2 rfl) (cw_MC_186 S.2.2.2.2 (Nat.le_trans (Nat.le_of_ble_eq_true rfl) hR.1) (Nat.le_trans (Nat.le_of_ble_eq_true rfl) hR.2)) rfl hl.1 rfl (Nat.le_of_ble_eq_true rfl) d_MC_extracted_31 ⟨Nat.zero_le _, Nat.zero_le _⟩ (fun H locs hH => ?_)
          refine lv_istore (lv' := [(4, .int (f_MC_cellOf x1 x2)), (0, .ref (Z.2.2.1 138)), (1, .int x1), (2, .int x2), (3, .int x3)]) hx hb d_MC_extracted_34 hl (by decide) rfl (fun ls hl => ?_)
          refine lv_aload_n hx hb d_MC_extracted_36 rfl (lv_at hl 1 rfl) ?_
          refine g_MC_28 S hX hH hZ d_MC_extracted_37 ?_
          refine g_MC_189 S hX hH hZ isRun_112 d_MC_extracted_40 ?_
          refine lv_iload hx hb d_MC_extracted_43 (lv_at hl 0 rfl) ?_
          obtain ⟨hn1, hf0⟩ := o_in hf0
          refine q_iald (j := (f_MC_cellOf x1 x2).toNatClampNeg) hx hb hX hH (aa_Run_7 hZ isRun_112) hn1 rfl d_MC_extracted_45 ?_
          refine lv_istore (lv' := [(5, .int (M 119 (f_MC_cellOf x1 x2).toNatClampNeg)), (4, .int (f_MC_cellOf x1 x2)), (0, .ref (Z.2.2.1 138)), (1, .int x1), (2, .int x2), (3, .int x3)]) hx hb d_MC_extracted_46 hl (by decide) rfl (fun ls hl => ?_)
          refine lv_iload hx hb d_MC_extracted_48 (lv_at hl 0 rfl) ?_
          refine lv_bipush (v := (99 : Int32)) hx hb d_MC_extracted_50 (by decide) ?_
          refine lv_icmp_ne (tgt := 58) hx hb d_MC_extracted_52 (by decide) (fun hc => ?_) (fun hc => ?_)
          · replace hf0 := o_f hc hf0
            refine lv_iload_n hx hb d_MC_extracted_58 rfl (lv_at hl 5 rfl) ?_
            by_cases hcv0 : x3 = (0 : Int32)
            · replace hf0 := o_t hcv0 hf0
              refine lv_tableIn (tgt := 84) hx hb d_MC_extracted_59 (by rw [hcv0]; decide) (by rw [hcv0]; decide) (by rw [hcv0]; rfl) (by decide) ?_
              refine lv_iload hx hb d_MC_extracted_84 (lv_at hl 0 rfl) ?_
              obtain rfl := o_v hf0
              exact hQ _ _ _ _ hH d_MC_extracted_86
            replace hf0 := o_f hcv0 hf0
            by_cases hcv1 : x3 = (1 : Int32)
            · replace hf0 := o_t hcv1 hf0
              refine lv_tableIn (tgt := 87) hx hb d_MC_extracted_59 (by rw [hcv1]; decide) (by rw [hcv1]; decide) (by rw [hcv1]; rfl) (by decide) ?_
              refine lv_aload_n hx hb d_MC_extracted_87 rfl (lv_at hl 2 rfl) ?_
              refine g_MC_28 S hX hH hZ d_MC_extracted_88 ?_
              refine g_MC_192 S hX hH hZ isRun_112 d_MC_extracted_91 ?_
              refine lv_iload hx hb d_MC_extracted_94 (lv_at hl 1 rfl) ?_
              refine q_iald (j := (f_MC_cellOf x1 x2).toNatClampNeg) hx hb hX hH (aa_Run_8 hZ isRun_112) hn1 rfl d_MC_extracted_96 ?_
              obtain rfl := o_v hf0
              exact hQ _ _ _ _ hH d_MC_extracted_97
            replace hf0 := o_f hcv1 hf0
            by_cases hcv2 : x3 = (2 : Int32)
            · replace hf0 := o_t hcv2 hf0
              refine lv_tableIn (tgt := 98) hx hb d_MC_extracted_59 (by rw [hcv2]; decide) (by rw [hcv2]; decide) (by rw [hcv2]; rfl) (by decide) ?_
              refine lv_aload_n hx hb d_MC_extracted_98 rfl (lv_at hl 2 rfl) ?_
              refine g_MC_28 S hX hH hZ d_MC_extracted_99 ?_
              refine g_MC_195 S hX hH hZ isRun_112 d_MC_extracted_102 ?_
              refine lv_iload hx hb d_MC_extracted_105 (lv_at hl 1 rfl) ?_
              refine q_iald (j := (f_MC_cellOf x1 x2).toNatClampNeg) hx hb hX hH (aa_Run_9 hZ isRun_112) hn1 rfl d_MC_extracted_107 ?_
              refine q_cSi (As := [.int (M 121 (f_MC_cellOf x1 x2).toNatClampNeg)]) (rest := []) S hX hH (c_Chain_size l hI M (M 121 (f_MC_cellOf x1 x2).toNatClampNeg) rfl) (cw_MC_168 S.2.2.2.2 (Nat.le_trans (Nat.le_of_ble_eq_true rfl) hR.1) (Nat.le_trans (Nat.le_of_ble_eq_true rfl) hR.2)) rfl hl.1 rfl (Nat.le_of_ble_eq_true rfl) d_MC_extracted_108 ⟨Nat.zero_le _, Nat.zero_le _⟩ (fun H locs hH => ?_)
              obtain rfl := o_v hf0
              exact hQ _ _ _ _ hH d_MC_extracted_111
            replace hf0 := o_f hcv2 hf0
            refine lv_tableOut (tgt := 112) hx hb d_MC_extracted_59 (sw_out (fun v h1 h2 => by rcases (show v = 0 ∨ v = 1 ∨ v = 2 by omega) with rfl | rfl | rfl <;> assumption)) (by decide) ?_
            refine lv_aload_n hx hb d_MC_extracted_112 rfl (lv_at hl 2 rfl) ?_
            refine g_MC_28 S hX hH hZ d_MC_extracted_113 ?_
            refine lv_iload_n hx hb d_MC_extracted_116 rfl (lv_at hl 3 rfl) ?_
            refine lv_iload_n hx hb d_MC_extracted_117 rfl (lv_at hl 4 rfl) ?_
            obtain ⟨y3, hc2, hf0⟩ := o_b hf0
            refine q_cVi (As := [.int x1, .int x2]) (rest := []) S hX hH (c_Run_relays l hI hZ 112 M x1 x2 isRun_112 hc2) (cw_MC_198 S.2.2.2.2 (Nat.le_trans (Nat.le_of_ble_eq_true rfl) hR.1) (Nat.le_trans (Nat.le_of_ble_eq_true rfl) hR.2)) (rc_Run hX hH hZ isRun_112) rfl hl.1 rfl (Nat.le_of_ble_eq_true rfl) d_MC_extracted_118 ⟨Nat.zero_le _, Nat.zero_le _⟩ (fun H locs hH => ?_)
            refine lv_if_eq (tgt := 128) hx hb d_MC_extracted_121 (by decide) (fun hc => ?_) (fun hc => ?_)
            · replace hf0 := o_t hc hf0
              refine lv_iconst (v := (0 : Int32)) hx hb d_MC_extracted_128 (by decide) ?_
              obtain rfl := o_v hf0
              exact hQ _ _ _ _ hH d_MC_extracted_129
            · replace hf0 := o_f hc hf0
              refine lv_iconst (v := (1 : Int32)) hx hb d_MC_extracted_124 (by decide) ?_
              refine lv_goto (tgt := 129) hx hb d_MC_extracted_125 (by decide) ?_
              obtain rfl := o_v hf0
              exact hQ _ _ _ _ hH d_MC_extracted_129
          · replace hf0 := o_t hc hf0
            refine lv_bipush (v := (-2 : Int32)) hx hb d_MC_extracted_55 (by decide) ?_
            obtain rfl := o_v hf0
            exact hQ _ _ _ _ hH d_MC_extracted_57
        · replace hf0 := o_f hc hf0
          refine lv_iconst (v := (-1 : Int32)) hx hb d_MC_extracted_27 (by decide) ?_
          obtain rfl := o_v hf0
          exact hQ _ _ _ _ hH d_MC_extracted_28
theorem c_MC_extracted (l : Launch) {Z : WD} (hI : wI Z) (hZ : IsC Z) (M : Mem) (x1 : Int32) (x2 : Int32) (x3 : Int32) {r : Int32} (hf : f_MC_extracted M x1 x2 x3 = some r) : Ci l Z y_MC_extracted b_MC_extracted 6 (some .int) 2 47 [.ref (Z.2.2.1 138), .int x1, .int x2, .int x3] M M r := by
  refine Met.ofW (cc := b_MC_extracted) (maxL := 6) (ret := (some .int)) (by decide) rfl ?_
  intro p e s m args below meth c s₁ B hml hv
  obtain ⟨rfl, hP, hX⟩ := hv
  have S : CallFix p m c b_MC_extracted 6 s ([.ref (Z.2.2.1 138), .int x1, .int x2, .int x3] : List Value).toArray gtb R_MC := ⟨B.exec, B.bytes, hml, findClass_of_methodNamed B.named, fun w hw => atoms_spec (ws := .code y_MC_extracted b_MC_extracted 6 (some .int) :: gtb) B.pre w (List.mem_cons_of_mem _ hw)⟩
  have hl := lv_entry ([.ref (Z.2.2.1 138), .int x1, .int x2, .int x3]) (n := 6) (Nat.le_of_ble_eq_true rfl)
  rw [lg_entry_eq]
  exact wk_MC_extracted hI hZ M x1 x2 x3 S hX ⟨Nat.le_refl _, Nat.le_refl _⟩ (fun pc H locs ls hH d => q_ri S.1 S.2.1 B.returns B.notSynchronized hH rfl rfl d) hf ⟨hP, va_S.rf⟩ hl
noncomputable def f_MC_holders_L32 (M : Mem) (x1 : Int32) (x2 : Int32) (x3 : Int32) (x4 : Int32) : Option ((Int32 × Int32) ⊕ Int32) := if (M 0 0) ≤ x4 then some (.inr x3) else 
    bnd (f_Run_setOf 112 M x4 x2) (fun y2 => 
    if ((y2 >>> (x1 &&& 31)) &&& (1 : Int32)) = 0 then some (.inl (x3, x4 + (1 : Int32))) else some (.inl (x3 ||| ((1 : Int32) <<< (x4 &&& 31)), x4 + (1 : Int32))))
noncomputable def f_MC_holders_W32 (M : Mem) (x1 : Int32) (x2 : Int32) (u : (Int32 × Int32)) : Option Int32 := loop (fun t => f_MC_holders_L32 M x1 x2 t.1 t.2) u
noncomputable def f_MC_holders_J32 (M : Mem) (x1 : Int32) (x2 : Int32) (x3 : Int32) (x4 : Int32) : Option (Int32) := bnd (f_MC_holders_W32 M x1 x2 (x3, x4)) (fun e32 => some e32)
noncomputable def f_MC_holders (M : Mem) (x1 : Int32) (x2 : Int32) : Option Int32 := 
    if (M 0 0) = 0 then some (-1 : Int32) else 
    if (bI (f_MC_isValue x1)) = 0 then some (-1 : Int32) else 
    if (bI (f_MC_hasRoundBehind M x2)) = 0 then some (-1 : Int32) else f_MC_holders_J32 M x1 x2 (0 : Int32) (0 : Int32)
set_option maxHeartbeats 4000000 in
theorem wk_MC_holders {l : Launch} {Z : WD} (hI : wI Z) (hZ : IsC Z) (M : Mem) (x1 : Int32) (x2 : Int32) {r : Int32} {p : Program} {e : Env} {R : Room} {s : State} {m : MethodId} {args : Array Value} {below : List Frame} {meth : Method} {c : Code} {H : Heap} {locs : List Loc} {ls : Array Slot} {Q : State → Prop} (S : CallFix p m c b_MC_holders 5 s args gtb R_MC) (hX : wX Z s) (hR : 2 ≤ R.frames ∧ 42 ≤ R.locals) (hQ : ∀ (pc : Nat) (H : Heap) (locs : List Loc) (ls : Array Slot), HW Z M s H locs → decode b_MC_holders pc = .ok (.ireturn, 1) → W p l e R s m args below meth c H locs 0 0 Q (F0 m pc ls [.int r])) (hf0 : f_MC_holders M x1 x2 = some r) (hH : HW Z M s H locs) (hl : lv_has ls 5 [(0, .ref (Z.2.2.1 138)), (1, .int x1), (2, .int x2)]) : W p l e R s m args below meth c H locs 0 0 Q (F0 m 0 ls []) := by
  have hx := S.1
  have hb := S.2.1
  have hown := S.2.2.2.1
  have ht := S.2.2.2.2
  unfold f_MC_holders at hf0
  have J32 : ∀ (x1 : Int32) (x2 : Int32) (x3 : Int32) (x4 : Int32) (H : Heap) (locs : List Loc) (ls : Array Slot), f_MC_holders_J32 M x1 x2 x3 x4 = some r → HW Z M s H locs → lv_has ls 5 [(0, .ref (Z.2.2.1 138)), (1, .int x1), (2, .int x2), (3, .int x3), (4, .int x4)] → W p l e R s m args below meth c H locs 0 0 Q (F0 m 32 ls []) := by
    intro x1 x2 x3 x4 H locs ls hf0 hH hl
    unfold f_MC_holders_J32 at hf0
    obtain ⟨e32, he32, hf0⟩ := o_b hf0
    unfold f_MC_holders_W32 at he32
    refine loop_W (fun t => ∀ (H : Heap) (locs : List Loc) (ls : Array Slot), HW Z M s H locs → lv_has ls 5 [(0, .ref (Z.2.2.1 138)), (1, .int x1), (2, .int x2), (3, .int t.1), (4, .int t.2)] → W p l e R s m args below meth c H locs 0 0 Q (F0 m 32 ls [])) ?_ he32 H locs ls hH hl
    rintro ⟨x3, x4⟩ o1 hf1 hG1 hR1 H locs ls hH hl
    replace hH : HW Z M s H locs := hH
    replace hl : lv_has ls 5 [(0, .ref (Z.2.2.1 138)), (1, .int x1), (2, .int x2), (3, .int x3), (4, .int x4)] := hl
    replace hf1 : f_MC_holders_L32 M x1 x2 x3 x4 = some o1 := hf1
    unfold f_MC_holders_L32 at hf1
    refine lv_iload hx hb d_MC_holders_32 (lv_at hl 4 rfl) ?_
    refine lv_aload_n hx hb d_MC_holders_34 rfl (lv_at hl 0 rfl) ?_
    refine g_MC_10 S hX hH hZ d_MC_holders_35 ?_
    refine g_MC_71 S hX hH hZ isPlay_0 d_MC_holders_38 ?_
    refine lv_icmp_ge (tgt := 74) hx hb d_MC_holders_41 (by decide) (fun hc => ?_) (fun hc => ?_)
    · replace hf1 := o_t hc hf1
      refine lv_iload_n hx hb d_MC_holders_74 rfl (lv_at hl 3 rfl) ?_
      obtain rfl := hR1 _ (o_v hf1).symm
      obtain rfl := o_v hf0
      exact hQ _ _ _ _ hH d_MC_holders_75
    · replace hf1 := o_f hc hf1
      refine lv_aload_n hx hb d_MC_holders_44 rfl (lv_at hl 0 rfl) ?_
      refine g_MC_28 S hX hH hZ d_MC_holders_45 ?_
      refine lv_iload hx hb d_MC_holders_48 (lv_at hl 4 rfl) ?_
      refine lv_iload_n hx hb d_MC_holders_50 rfl (lv_at hl 2 rfl) ?_
      obtain ⟨y2, hc1, hf1⟩ := o_b hf1
      refine q_cVi (As := [.int x4, .int x2]) (rest := []) S hX hH (c_Run_setOf l hI hZ 112 M x4 x2 isRun_112 hc1) (cw_MC_180 S.2.2.2.2 (Nat.le_trans (Nat.le_of_ble_eq_true rfl) hR.1) (Nat.le_trans (Nat.le_of_ble_eq_true rfl) hR.2)) (rc_Run hX hH hZ isRun_112) rfl hl.1 rfl (Nat.le_of_ble_eq_true rfl) d_MC_holders_51 ⟨Nat.zero_le _, Nat.zero_le _⟩ (fun H locs hH => ?_)
      refine lv_iload_n hx hb d_MC_holders_54 rfl (lv_at hl 1 rfl) ?_
      refine lv_ishr hx hb d_MC_holders_55 ?_
      refine lv_iconst (v := (1 : Int32)) hx hb d_MC_holders_56 (by decide) ?_
      refine lv_iand hx hb d_MC_holders_57 ?_
      refine lv_if_eq (tgt := 68) hx hb d_MC_holders_58 (by decide) (fun hc => ?_) (fun hc => ?_)
      · replace hf1 := o_t hc hf1
        refine lv_iinc (v := x4 + (1 : Int32)) (lv' := [(4, .int (x4 + (1 : Int32))), (0, .ref (Z.2.2.1 138)), (1, .int x1), (2, .int x2), (3, .int x3)]) hx hb d_MC_holders_68 hl (k := 4) rfl rfl (by decide) rfl (fun ls hl => ?_)
        refine lv_goto (tgt := 32) hx hb d_MC_holders_71 (by decide) ?_
        exact hG1 _ (o_v hf1).symm _ _ _ hH (lv_sub hl [1, 2, 3, 4, 0] rfl)
      · replace hf1 := o_f hc hf1
        refine lv_iload_n hx hb d_MC_holders_61 rfl (lv_at hl 3 rfl) ?_
        refine lv_iconst (v := (1 : Int32)) hx hb d_MC_holders_62 (by decide) ?_
        refine lv_iload hx hb d_MC_holders_63 (lv_at hl 4 rfl) ?_
        refine lv_ishl hx hb d_MC_holders_65 ?_
        refine lv_ior hx hb d_MC_holders_66 ?_
        refine lv_istore_n (lv' := [(3, .int (x3 ||| ((1 : Int32) <<< (x4 &&& 31)))), (0, .ref (Z.2.2.1 138)), (1, .int x1), (2, .int x2), (4, .int x4)]) hx hb d_MC_holders_67 rfl hl (by decide) rfl (fun ls hl => ?_)
        refine lv_iinc (v := x4 + (1 : Int32)) (lv' := [(4, .int (x4 + (1 : Int32))), (3, .int (x3 ||| ((1 : Int32) <<< (x4 &&& 31)))), (0, .ref (Z.2.2.1 138)), (1, .int x1), (2, .int x2)]) hx hb d_MC_holders_68 hl (k := 4) rfl rfl (by decide) rfl (fun ls hl => ?_)
        refine lv_goto (tgt := 32) hx hb d_MC_holders_71 (by decide) ?_
        exact hG1 _ (o_v hf1).symm _ _ _ hH (lv_sub hl [2, 3, 4, 1, 0] rfl)
  refine lv_aload_n hx hb d_MC_holders_0 rfl (lv_at hl 0 rfl) ?_
  refine g_MC_10 S hX hH hZ d_MC_holders_1 ?_
  refine g_MC_71 S hX hH hZ isPlay_0 d_MC_holders_4 ?_
  refine lv_if_eq (tgt := 25) hx hb d_MC_holders_7 (by decide) (fun hc => ?_) (fun hc => ?_)
  · replace hf0 := o_t hc hf0
    refine lv_iconst (v := (-1 : Int32)) hx hb d_MC_holders_25 (by decide) ?_
    obtain rfl := o_v hf0
    exact hQ _ _ _ _ hH d_MC_holders_26
  · replace hf0 := o_f hc hf0
    refine lv_iload_n hx hb d_MC_holders_10 rfl (lv_at hl 1 rfl) ?_
    refine q_cSi (As := [.int x1]) (rest := []) S hX hH (c_MC_isValue l hI M x1 rfl) (cw_MC_102 S.2.2.2.2 (Nat.le_trans (Nat.le_of_ble_eq_true rfl) hR.1) (Nat.le_trans (Nat.le_of_ble_eq_true rfl) hR.2)) rfl hl.1 rfl (Nat.le_of_ble_eq_true rfl) d_MC_holders_11 ⟨Nat.zero_le _, Nat.zero_le _⟩ (fun H locs hH => ?_)
    refine lv_if_eq (tgt := 25) hx hb d_MC_holders_14 (by decide) (fun hc => ?_) (fun hc => ?_)
    · replace hf0 := o_t hc hf0
      refine lv_iconst (v := (-1 : Int32)) hx hb d_MC_holders_25 (by decide) ?_
      obtain rfl := o_v hf0
      exact hQ _ _ _ _ hH d_MC_holders_26
    · replace hf0 := o_f hc hf0
      refine lv_aload_n hx hb d_MC_holders_17 rfl (lv_at hl 0 rfl) ?_
      refine lv_iload_n hx hb d_MC_holders_18 rfl (lv_at hl 2 rfl) ?_
      refine q_cVi (As := [.int x2]) (rest := []) S hX hH (c_MC_hasRoundBehind l hI hZ M x2 rfl) (cw_MC_177 S.2.2.2.2 (Nat.le_trans (Nat.le_of_ble_eq_true rfl) hR.1) (Nat.le_trans (Nat.le_of_ble_eq_true rfl) hR.2)) (rc_MC hX hH hZ) rfl hl.1 rfl (Nat.le_of_ble_eq_true rfl) d_MC_holders_19 ⟨Nat.zero_le _, Nat.zero_le _⟩ (fun H locs hH => ?_)
      refine lv_if_ne (tgt := 27) hx hb d_MC_holders_22 (by decide) (fun hc => ?_) (fun hc => ?_)
      · replace hf0 := o_f hc hf0
        refine lv_iconst (v := (0 : Int32)) hx hb d_MC_holders_27 (by decide) ?_
        refine lv_istore_n (lv' := [(3, .int (0 : Int32)), (0, .ref (Z.2.2.1 138)), (1, .int x1), (2, .int x2)]) hx hb d_MC_holders_28 rfl hl (by decide) rfl (fun ls hl => ?_)
        refine lv_iconst (v := (0 : Int32)) hx hb d_MC_holders_29 (by decide) ?_
        refine lv_istore (lv' := [(4, .int (0 : Int32)), (3, .int (0 : Int32)), (0, .ref (Z.2.2.1 138)), (1, .int x1), (2, .int x2)]) hx hb d_MC_holders_30 hl (by decide) rfl (fun ls hl => ?_)
        exact J32 _ _ _ _ _ _ _ hf0 hH (lv_sub hl [2, 3, 4, 1, 0] rfl)
      · replace hf0 := o_t hc hf0
        refine lv_iconst (v := (-1 : Int32)) hx hb d_MC_holders_25 (by decide) ?_
        obtain rfl := o_v hf0
        exact hQ _ _ _ _ hH d_MC_holders_26
theorem c_MC_holders (l : Launch) {Z : WD} (hI : wI Z) (hZ : IsC Z) (M : Mem) (x1 : Int32) (x2 : Int32) {r : Int32} (hf : f_MC_holders M x1 x2 = some r) : Ci l Z y_MC_holders b_MC_holders 5 (some .int) 2 42 [.ref (Z.2.2.1 138), .int x1, .int x2] M M r := by
  refine Met.ofW (cc := b_MC_holders) (maxL := 5) (ret := (some .int)) (by decide) rfl ?_
  intro p e s m args below meth c s₁ B hml hv
  obtain ⟨rfl, hP, hX⟩ := hv
  have S : CallFix p m c b_MC_holders 5 s ([.ref (Z.2.2.1 138), .int x1, .int x2] : List Value).toArray gtb R_MC := ⟨B.exec, B.bytes, hml, findClass_of_methodNamed B.named, fun w hw => atoms_spec (ws := .code y_MC_holders b_MC_holders 5 (some .int) :: gtb) B.pre w (List.mem_cons_of_mem _ hw)⟩
  have hl := lv_entry ([.ref (Z.2.2.1 138), .int x1, .int x2]) (n := 5) (Nat.le_of_ble_eq_true rfl)
  rw [lg_entry_eq]
  exact wk_MC_holders hI hZ M x1 x2 S hX ⟨Nat.le_refl _, Nat.le_refl _⟩ (fun pc H locs ls hH d => q_ri S.1 S.2.1 B.returns B.notSynchronized hH rfl rfl d) hf ⟨hP, va_S.rf⟩ hl
noncomputable def f_MC_path (M : Mem) (x1 : Int32) (x2 : Int32) (x3 : Int32) : Option Int32 := 
    if (bI (f_Play_isHonest 0 M x1)) = 0 then some (-1 : Int32) else 
    if (bI (f_MC_isValue x2)) = 0 then some (-1 : Int32) else 
    if (-1 : Int32) ≤ x3 then 
    gIn (f_MC_cellOf x1 x2) 32 (if (M 119 (f_MC_cellOf x1 x2).toNatClampNeg) = (99 : Int32) then some (-2 : Int32) else 
    if x3 = (-1 : Int32) then some (f_Chain_size (M 121 (f_MC_cellOf x1 x2).toNatClampNeg)) else 
    if (f_Chain_size (M 121 (f_MC_cellOf x1 x2).toNatClampNeg)) ≤ x3 then some (-2 : Int32) else some (f_Chain_markAt (M 121 (f_MC_cellOf x1 x2).toNatClampNeg) x3)) else some (-1 : Int32)
set_option maxHeartbeats 4000000 in
theorem wk_MC_path {l : Launch} {Z : WD} (hI : wI Z) (hZ : IsC Z) (M : Mem) (x1 : Int32) (x2 : Int32) (x3 : Int32) {r : Int32} {p : Program} {e : Env} {R : Room} {s : State} {m : MethodId} {args : Array Value} {below : List Frame} {meth : Method} {c : Code} {H : Heap} {locs : List Loc} {ls : Array Slot} {Q : State → Prop} (S : CallFix p m c b_MC_path 6 s args gtb R_MC) (hX : wX Z s) (hR : 2 ≤ R.frames ∧ 42 ≤ R.locals) (hQ : ∀ (pc : Nat) (H : Heap) (locs : List Loc) (ls : Array Slot), HW Z M s H locs → decode b_MC_path pc = .ok (.ireturn, 1) → W p l e R s m args below meth c H locs 0 0 Q (F0 m pc ls [.int r])) (hf0 : f_MC_path M x1 x2 x3 = some r) (hH : HW Z M s H locs) (hl : lv_has ls 6 [(0, .ref (Z.2.2.1 138)), (1, .int x1), (2, .int x2), (3, .int x3)]) : W p l e R s m args below meth c H locs 0 0 Q (F0 m 0 ls []) := by
  have hx := S.1
  have hb := S.2.1
  have hown := S.2.2.2.1
  have ht := S.2.2.2.2
  unfold f_MC_path at hf0
  refine lv_aload_n hx hb d_MC_path_0 rfl (lv_at hl 0 rfl) ?_
  refine g_MC_10 S hX hH hZ d_MC_path_1 ?_
  refine lv_iload_n hx hb d_MC_path_4 rfl (lv_at hl 1 rfl) ?_
  refine q_cVi (As := [.int x1]) (rest := []) S hX hH (c_Play_isHonest l hI hZ 0 M x1 isPlay_0 rfl) (cw_MC_174 S.2.2.2.2 (Nat.le_trans (Nat.le_of_ble_eq_true rfl) hR.1) (Nat.le_trans (Nat.le_of_ble_eq_true rfl) hR.2)) (rc_Play hX hH hZ isPlay_0) rfl hl.1 rfl (Nat.le_of_ble_eq_true rfl) d_MC_path_5 ⟨Nat.zero_le _, Nat.zero_le _⟩ (fun H locs hH => ?_)
  refine lv_if_eq (tgt := 23) hx hb d_MC_path_8 (by decide) (fun hc => ?_) (fun hc => ?_)
  · replace hf0 := o_t hc hf0
    refine lv_iconst (v := (-1 : Int32)) hx hb d_MC_path_23 (by decide) ?_
    obtain rfl := o_v hf0
    exact hQ _ _ _ _ hH d_MC_path_24
  · replace hf0 := o_f hc hf0
    refine lv_iload_n hx hb d_MC_path_11 rfl (lv_at hl 2 rfl) ?_
    refine q_cSi (As := [.int x2]) (rest := []) S hX hH (c_MC_isValue l hI M x2 rfl) (cw_MC_102 S.2.2.2.2 (Nat.le_trans (Nat.le_of_ble_eq_true rfl) hR.1) (Nat.le_trans (Nat.le_of_ble_eq_true rfl) hR.2)) rfl hl.1 rfl (Nat.le_of_ble_eq_true rfl) d_MC_path_12 ⟨Nat.zero_le _, Nat.zero_le _⟩ (fun H locs hH => ?_)
    refine lv_if_eq (tgt := 23) hx hb d_MC_path_15 (by decide) (fun hc => ?_) (fun hc => ?_)
    · replace hf0 := o_t hc hf0
      refine lv_iconst (v := (-1 : Int32)) hx hb d_MC_path_23 (by decide) ?_
      obtain rfl := o_v hf0
      exact hQ _ _ _ _ hH d_MC_path_24
    · replace hf0 := o_f hc hf0
      refine lv_iload_n hx hb d_MC_path_18 rfl (lv_at hl 3 rfl) ?_
      refine lv_iconst (v := (-1 : Int32)) hx hb d_MC_path_19 (by decide) ?_
      refine lv_icmp_ge (tgt := 25) hx hb d_MC_path_20 (by decide) (fun hc => ?_) (fun hc => ?_)
      · replace hf0 := o_t hc hf0
        refine lv_iload_n hx hb d_MC_path_25 rfl (lv_at hl 1 rfl) ?_
        refine lv_iload_n hx hb d_MC_path_26 rfl (lv_at hl 2 rfl) ?_
        refine q_cSi (As := [.int x1, .int x2]) (rest := []) S hX hH (c_MC_cellOf l hI M x1 x2 rfl) (cw_MC_186 S.2.2.2.2 (Nat.le_trans (Nat.le_of_ble_eq_true rfl) hR.1) (Nat.le_trans (Nat.le_of_ble_eq_true rfl) hR.2)) rfl hl.1 rfl (Nat.le_of_ble_eq_true rfl) d_MC_path_27 ⟨Nat.zero_le _, Nat.zero_le _⟩ (fun H locs hH => ?_)
        refine lv_istore (lv' := [(4, .int (f_MC_cellOf x1 x2)), (0, .ref (Z.2.2.1 138)), (1, .int x1), (2, .int x2), (3, .int x3)]) hx hb d_MC_path_30 hl (by decide) rfl (fun ls hl => ?_)
        refine lv_aload_n hx hb d_MC_path_32 rfl (lv_at hl 1 rfl) ?_
        refine g_MC_28 S hX hH hZ d_MC_path_33 ?_
        refine g_MC_189 S hX hH hZ isRun_112 d_MC_path_36 ?_
        refine lv_iload hx hb d_MC_path_39 (lv_at hl 0 rfl) ?_
        obtain ⟨hn1, hf0⟩ := o_in hf0
        refine q_iald (j := (f_MC_cellOf x1 x2).toNatClampNeg) hx hb hX hH (aa_Run_7 hZ isRun_112) hn1 rfl d_MC_path_41 ?_
        refine lv_bipush (v := (99 : Int32)) hx hb d_MC_path_42 (by decide) ?_
        refine lv_icmp_ne (tgt := 50) hx hb d_MC_path_44 (by decide) (fun hc => ?_) (fun hc => ?_)
        · replace hf0 := o_f hc hf0
          refine lv_aload_n hx hb d_MC_path_50 rfl (lv_at hl 1 rfl) ?_
          refine g_MC_28 S hX hH hZ d_MC_path_51 ?_
          refine g_MC_195 S hX hH hZ isRun_112 d_MC_path_54 ?_
          refine lv_iload hx hb d_MC_path_57 (lv_at hl 0 rfl) ?_
          refine q_iald (j := (f_MC_cellOf x1 x2).toNatClampNeg) hx hb hX hH (aa_Run_9 hZ isRun_112) hn1 rfl d_MC_path_59 ?_
          refine lv_istore (lv' := [(5, .int (M 121 (f_MC_cellOf x1 x2).toNatClampNeg)), (4, .int (f_MC_cellOf x1 x2)), (0, .ref (Z.2.2.1 138)), (1, .int x1), (2, .int x2), (3, .int x3)]) hx hb d_MC_path_60 hl (by decide) rfl (fun ls hl => ?_)
          refine lv_iload_n hx hb d_MC_path_62 rfl (lv_at hl 5 rfl) ?_
          refine lv_iconst (v := (-1 : Int32)) hx hb d_MC_path_63 (by decide) ?_
          refine lv_icmp_ne (tgt := 73) hx hb d_MC_path_64 (by decide) (fun hc => ?_) (fun hc => ?_)
          · replace hf0 := o_f hc hf0
            refine lv_iload_n hx hb d_MC_path_73 rfl (lv_at hl 5 rfl) ?_
            refine lv_iload hx hb d_MC_path_74 (lv_at hl 0 rfl) ?_
            refine q_cSi (As := [.int (M 121 (f_MC_cellOf x1 x2).toNatClampNeg)]) (rest := [.int x3]) S hX hH (c_Chain_size l hI M (M 121 (f_MC_cellOf x1 x2).toNatClampNeg) rfl) (cw_MC_168 S.2.2.2.2 (Nat.le_trans (Nat.le_of_ble_eq_true rfl) hR.1) (Nat.le_trans (Nat.le_of_ble_eq_true rfl) hR.2)) rfl hl.1 rfl (Nat.le_of_ble_eq_true rfl) d_MC_path_76 ⟨Nat.zero_le _, Nat.zero_le _⟩ (fun H locs hH => ?_)
            refine lv_icmp_ge (tgt := 91) hx hb d_MC_path_79 (by decide) (fun hc => ?_) (fun hc => ?_)
            · replace hf0 := o_t hc hf0
              refine lv_bipush (v := (-2 : Int32)) hx hb d_MC_path_91 (by decide) ?_
              obtain rfl := o_v hf0
              exact hQ _ _ _ _ hH d_MC_path_93
            · replace hf0 := o_f hc hf0
              refine lv_iload hx hb d_MC_path_82 (lv_at hl 0 rfl) ?_
              refine lv_iload_n hx hb d_MC_path_84 rfl (lv_at hl 5 rfl) ?_
              refine q_cSi (As := [.int (M 121 (f_MC_cellOf x1 x2).toNatClampNeg), .int x3]) (rest := []) S hX hH (c_Chain_markAt l hI M (M 121 (f_MC_cellOf x1 x2).toNatClampNeg) x3 rfl) (cw_MC_161 S.2.2.2.2 (Nat.le_trans (Nat.le_of_ble_eq_true rfl) hR.1) (Nat.le_trans (Nat.le_of_ble_eq_true rfl) hR.2)) rfl hl.1 rfl (Nat.le_of_ble_eq_true rfl) d_MC_path_85 ⟨Nat.zero_le _, Nat.zero_le _⟩ (fun H locs hH => ?_)
              refine lv_goto (tgt := 93) hx hb d_MC_path_88 (by decide) ?_
              obtain rfl := o_v hf0
              exact hQ _ _ _ _ hH d_MC_path_93
          · replace hf0 := o_t hc hf0
            refine lv_iload hx hb d_MC_path_67 (lv_at hl 0 rfl) ?_
            refine q_cSi (As := [.int (M 121 (f_MC_cellOf x1 x2).toNatClampNeg)]) (rest := []) S hX hH (c_Chain_size l hI M (M 121 (f_MC_cellOf x1 x2).toNatClampNeg) rfl) (cw_MC_168 S.2.2.2.2 (Nat.le_trans (Nat.le_of_ble_eq_true rfl) hR.1) (Nat.le_trans (Nat.le_of_ble_eq_true rfl) hR.2)) rfl hl.1 rfl (Nat.le_of_ble_eq_true rfl) d_MC_path_69 ⟨Nat.zero_le _, Nat.zero_le _⟩ (fun H locs hH => ?_)
            obtain rfl := o_v hf0
            exact hQ _ _ _ _ hH d_MC_path_72
        · replace hf0 := o_t hc hf0
          refine lv_bipush (v := (-2 : Int32)) hx hb d_MC_path_47 (by decide) ?_
          obtain rfl := o_v hf0
          exact hQ _ _ _ _ hH d_MC_path_49
      · replace hf0 := o_f hc hf0
        refine lv_iconst (v := (-1 : Int32)) hx hb d_MC_path_23 (by decide) ?_
        obtain rfl := o_v hf0
        exact hQ _ _ _ _ hH d_MC_path_24
theorem c_MC_path (l : Launch) {Z : WD} (hI : wI Z) (hZ : IsC Z) (M : Mem) (x1 : Int32) (x2 : Int32) (x3 : Int32) {r : Int32} (hf : f_MC_path M x1 x2 x3 = some r) : Ci l Z y_MC_path b_MC_path 6 (some .int) 2 42 [.ref (Z.2.2.1 138), .int x1, .int x2, .int x3] M M r := by
  refine Met.ofW (cc := b_MC_path) (maxL := 6) (ret := (some .int)) (by decide) rfl ?_
  intro p e s m args below meth c s₁ B hml hv
  obtain ⟨rfl, hP, hX⟩ := hv
  have S : CallFix p m c b_MC_path 6 s ([.ref (Z.2.2.1 138), .int x1, .int x2, .int x3] : List Value).toArray gtb R_MC := ⟨B.exec, B.bytes, hml, findClass_of_methodNamed B.named, fun w hw => atoms_spec (ws := .code y_MC_path b_MC_path 6 (some .int) :: gtb) B.pre w (List.mem_cons_of_mem _ hw)⟩
  have hl := lv_entry ([.ref (Z.2.2.1 138), .int x1, .int x2, .int x3]) (n := 6) (Nat.le_of_ble_eq_true rfl)
  rw [lg_entry_eq]
  exact wk_MC_path hI hZ M x1 x2 x3 S hX ⟨Nat.le_refl _, Nat.le_refl _⟩ (fun pc H locs ls hH d => q_ri S.1 S.2.1 B.returns B.notSynchronized hH rfl rfl d) hf ⟨hP, va_S.rf⟩ hl
theorem cw_MC_201 {R : Room} {s : State} {args : Array Value} (ht : ∀ w ∈ gtb, w.before args s = true) (h1 : 3 + 1 ≤ R.frames) (h2 : 8 + (7 + 11) + 64 ≤ R.locals) : CallW R s args R_MC R_Run 201 y_Run_firstTwoFaced b_Run_firstTwoFaced 7 (some .int) (.code y_Run_firstTwoFaced b_Run_firstTwoFaced 7 (some .int) :: gtb) { frames := 3, cells := 0, slots := 0, locals := 64 } 0 0 1 := cwV 1 ht (gV w3_224 w3_225 w3_226 w1_4 w3_227) rfl rfl rfl ⟨rfl, by decide, by decide, by decide +kernel⟩ ⟨h1, h2⟩
noncomputable def f_MC_caught (M : Mem) (x1 : Int32) : Option Int32 := 
    if (bI (f_Play_isHonest 0 M x1)) = 0 then some (-1 : Int32) else bnd (f_Run_firstTwoFaced 112 M x1) (fun y2 => some y2)
set_option maxHeartbeats 4000000 in
theorem wk_MC_caught {l : Launch} {Z : WD} (hI : wI Z) (hZ : IsC Z) (M : Mem) (x1 : Int32) {r : Int32} {p : Program} {e : Env} {R : Room} {s : State} {m : MethodId} {args : Array Value} {below : List Frame} {meth : Method} {c : Code} {H : Heap} {locs : List Loc} {ls : Array Slot} {Q : State → Prop} (S : CallFix p m c b_MC_caught 2 s args gtb R_MC) (hX : wX Z s) (hR : 4 ≤ R.frames ∧ 90 ≤ R.locals) (hQ : ∀ (pc : Nat) (H : Heap) (locs : List Loc) (ls : Array Slot), HW Z M s H locs → decode b_MC_caught pc = .ok (.ireturn, 1) → W p l e R s m args below meth c H locs 0 0 Q (F0 m pc ls [.int r])) (hf0 : f_MC_caught M x1 = some r) (hH : HW Z M s H locs) (hl : lv_has ls 2 [(0, .ref (Z.2.2.1 138)), (1, .int x1)]) : W p l e R s m args below meth c H locs 0 0 Q (F0 m 0 ls []) := by
  have hx := S.1
  have hb := S.2.1
  have hown := S.2.2.2.1
  have ht := S.2.2.2.2
  unfold f_MC_caught at hf0
  refine lv_aload_n hx hb d_MC_caught_0 rfl (lv_at hl 0 rfl) ?_
  refine g_MC_10 S hX hH hZ d_MC_caught_1 ?_
  refine lv_iload_n hx hb d_MC_caught_4 rfl (lv_at hl 1 rfl) ?_
  refine q_cVi (As := [.int x1]) (rest := []) S hX hH (c_Play_isHonest l hI hZ 0 M x1 isPlay_0 rfl) (cw_MC_174 S.2.2.2.2 (Nat.le_trans (Nat.le_of_ble_eq_true rfl) hR.1) (Nat.le_trans (Nat.le_of_ble_eq_true rfl) hR.2)) (rc_Play hX hH hZ isPlay_0) rfl hl.1 rfl (Nat.le_of_ble_eq_true rfl) d_MC_caught_5 ⟨Nat.zero_le _, Nat.zero_le _⟩ (fun H locs hH => ?_)
  refine lv_if_ne (tgt := 13) hx hb d_MC_caught_8 (by decide) (fun hc => ?_) (fun hc => ?_)
  · replace hf0 := o_f hc hf0
    refine lv_aload_n hx hb d_MC_caught_13 rfl (lv_at hl 0 rfl) ?_
    refine g_MC_28 S hX hH hZ d_MC_caught_14 ?_
    refine lv_iload_n hx hb d_MC_caught_17 rfl (lv_at hl 1 rfl) ?_
    obtain ⟨y2, hc1, hf0⟩ := o_b hf0
    refine q_cVi (As := [.int x1]) (rest := []) S hX hH (c_Run_firstTwoFaced l hI hZ 112 M x1 isRun_112 hc1) (cw_MC_201 S.2.2.2.2 (Nat.le_trans (Nat.le_of_ble_eq_true rfl) hR.1) (Nat.le_trans (Nat.le_of_ble_eq_true rfl) hR.2)) (rc_Run hX hH hZ isRun_112) rfl hl.1 rfl (Nat.le_of_ble_eq_true rfl) d_MC_caught_18 ⟨Nat.zero_le _, Nat.zero_le _⟩ (fun H locs hH => ?_)
    obtain rfl := o_v hf0
    exact hQ _ _ _ _ hH d_MC_caught_21
  · replace hf0 := o_t hc hf0
    refine lv_iconst (v := (-1 : Int32)) hx hb d_MC_caught_11 (by decide) ?_
    obtain rfl := o_v hf0
    exact hQ _ _ _ _ hH d_MC_caught_12
theorem c_MC_caught (l : Launch) {Z : WD} (hI : wI Z) (hZ : IsC Z) (M : Mem) (x1 : Int32) {r : Int32} (hf : f_MC_caught M x1 = some r) : Ci l Z y_MC_caught b_MC_caught 2 (some .int) 4 90 [.ref (Z.2.2.1 138), .int x1] M M r := by
  refine Met.ofW (cc := b_MC_caught) (maxL := 2) (ret := (some .int)) (by decide) rfl ?_
  intro p e s m args below meth c s₁ B hml hv
  obtain ⟨rfl, hP, hX⟩ := hv
  have S : CallFix p m c b_MC_caught 2 s ([.ref (Z.2.2.1 138), .int x1] : List Value).toArray gtb R_MC := ⟨B.exec, B.bytes, hml, findClass_of_methodNamed B.named, fun w hw => atoms_spec (ws := .code y_MC_caught b_MC_caught 2 (some .int) :: gtb) B.pre w (List.mem_cons_of_mem _ hw)⟩
  have hl := lv_entry ([.ref (Z.2.2.1 138), .int x1]) (n := 2) (Nat.le_of_ble_eq_true rfl)
  rw [lg_entry_eq]
  exact wk_MC_caught hI hZ M x1 S hX ⟨Nat.le_refl _, Nat.le_refl _⟩ (fun pc H locs ls hH d => q_ri S.1 S.2.1 B.returns B.notSynchronized hH rfl rfl d) hf ⟨hP, va_S.rf⟩ hl
noncomputable def f_MC_hasLetter_J19 (M : Mem) : Bool := false
noncomputable def f_MC_hasLetter (M : Mem) (x1 : Int32) : Bool := if x1 < 0 then f_MC_hasLetter_J19 M else if (M 112 4) ≤ x1 then f_MC_hasLetter_J19 M else true
set_option maxHeartbeats 4000000 in
theorem wk_MC_hasLetter {l : Launch} {Z : WD} (hI : wI Z) (hZ : IsC Z) (M : Mem) (x1 : Int32) {r : Bool} {p : Program} {e : Env} {R : Room} {s : State} {m : MethodId} {args : Array Value} {below : List Frame} {meth : Method} {c : Code} {H : Heap} {locs : List Loc} {ls : Array Slot} {Q : State → Prop} (S : CallFix p m c b_MC_hasLetter 2 s args gtb R_MC) (hX : wX Z s) (hR : 0 ≤ R.frames ∧ 0 ≤ R.locals) (hQ : ∀ (pc : Nat) (H : Heap) (locs : List Loc) (ls : Array Slot), HW Z M s H locs → decode b_MC_hasLetter pc = .ok (.ireturn, 1) → W p l e R s m args below meth c H locs 0 0 Q (F0 m pc ls [.int (bI r)])) (hf0 : f_MC_hasLetter M x1 = r) (hH : HW Z M s H locs) (hl : lv_has ls 2 [(0, .ref (Z.2.2.1 138)), (1, .int x1)]) : W p l e R s m args below meth c H locs 0 0 Q (F0 m 0 ls []) := by
  have hx := S.1
  have hb := S.2.1
  have hown := S.2.2.2.1
  have ht := S.2.2.2.2
  unfold f_MC_hasLetter at hf0
  have J19 : ∀ (H : Heap) (locs : List Loc) (ls : Array Slot), f_MC_hasLetter_J19 M = r → HW Z M s H locs → lv_has ls 2 [] → W p l e R s m args below meth c H locs 0 0 Q (F0 m 19 ls []) := by
    intro H locs ls hf0 hH hl
    unfold f_MC_hasLetter_J19 at hf0
    refine lv_iconst (v := (0 : Int32)) hx hb d_MC_hasLetter_19 (by decide) ?_
    subst hf0
    exact hQ _ _ _ _ hH d_MC_hasLetter_20
  refine lv_iload_n hx hb d_MC_hasLetter_0 rfl (lv_at hl 1 rfl) ?_
  refine lv_if_lt (tgt := 19) hx hb d_MC_hasLetter_1 (by decide) (fun hc => ?_) (fun hc => ?_)
  · replace hf0 := o_t hc hf0
    exact J19 _ _ _ hf0 hH (lv_sub hl [] rfl)
  · replace hf0 := o_f hc hf0
    refine lv_iload_n hx hb d_MC_hasLetter_4 rfl (lv_at hl 1 rfl) ?_
    refine lv_aload_n hx hb d_MC_hasLetter_5 rfl (lv_at hl 0 rfl) ?_
    refine g_MC_28 S hX hH hZ d_MC_hasLetter_6 ?_
    refine g_MC_204 S hX hH hZ isRun_112 d_MC_hasLetter_9 ?_
    refine lv_icmp_ge (tgt := 19) hx hb d_MC_hasLetter_12 (by decide) (fun hc => ?_) (fun hc => ?_)
    · replace hf0 := o_t hc hf0
      exact J19 _ _ _ hf0 hH (lv_sub hl [] rfl)
    · replace hf0 := o_f hc hf0
      refine lv_iconst (v := (1 : Int32)) hx hb d_MC_hasLetter_15 (by decide) ?_
      refine lv_goto (tgt := 20) hx hb d_MC_hasLetter_16 (by decide) ?_
      subst hf0
      exact hQ _ _ _ _ hH d_MC_hasLetter_20
theorem c_MC_hasLetter (l : Launch) {Z : WD} (hI : wI Z) (hZ : IsC Z) (M : Mem) (x1 : Int32) {r : Bool} (hf : f_MC_hasLetter M x1 = r) : Ci l Z y_MC_hasLetter b_MC_hasLetter 2 (some .boolean) 0 0 [.ref (Z.2.2.1 138), .int x1] M M (bI r) := by
  refine Met.ofW (cc := b_MC_hasLetter) (maxL := 2) (ret := (some .boolean)) (by decide) rfl ?_
  intro p e s m args below meth c s₁ B hml hv
  obtain ⟨rfl, hP, hX⟩ := hv
  have S : CallFix p m c b_MC_hasLetter 2 s ([.ref (Z.2.2.1 138), .int x1] : List Value).toArray gtb R_MC := ⟨B.exec, B.bytes, hml, findClass_of_methodNamed B.named, fun w hw => atoms_spec (ws := .code y_MC_hasLetter b_MC_hasLetter 2 (some .boolean) :: gtb) B.pre w (List.mem_cons_of_mem _ hw)⟩
  have hl := lv_entry ([.ref (Z.2.2.1 138), .int x1]) (n := 2) (Nat.le_of_ble_eq_true rfl)
  rw [lg_entry_eq]
  exact wk_MC_hasLetter hI hZ M x1 S hX ⟨Nat.le_refl _, Nat.le_refl _⟩ (fun pc H locs ls hH d => q_rz S.1 S.2.1 B.returns B.notSynchronized hH rfl rfl d) hf ⟨hP, va_S.rf⟩ hl
theorem cw_MC_207 {R : Room} {s : State} {args : Array Value} (ht : ∀ w ∈ gtb, w.before args s = true) (h1 : 0 + 1 ≤ R.frames) (h2 : 8 + (2 + 11) + 0 ≤ R.locals) : CallW R s args R_MC R_MC 207 y_MC_hasLetter b_MC_hasLetter 2 (some .boolean) (.code y_MC_hasLetter b_MC_hasLetter 2 (some .boolean) :: gtb) { frames := 0, cells := 0, slots := 0, locals := 0 } 0 0 1 := cwV 1 ht (gV w3_234 w3_236 ws_MC_hasLetter w1_1 w3_237) rfl rfl rfl ⟨rfl, by decide, by decide, by decide +kernel⟩ ⟨h1, h2⟩
theorem cw_MC_213 {R : Room} {s : State} {args : Array Value} (ht : ∀ w ∈ gtb, w.before args s = true) (h1 : 0 + 1 ≤ R.frames) (h2 : 8 + (1 + 11) + 0 ≤ R.locals) : CallB R s args R_MC 213 y_Route_roundOf b_Route_roundOf 1 (some .int) (.code y_Route_roundOf b_Route_roundOf 1 (some .int) :: gtb) { frames := 0, cells := 0, slots := 0, locals := 0 } 0 0 1 ∧ (Cond.static y_Route_roundOf).before args s = true := va_cwS 1 ht (gS w3_238 w2_18 w1_7 w2_19) rfl rfl rfl ⟨by decide, by decide, by decide +kernel⟩ ⟨h1, h2⟩
theorem cw_MC_216 {R : Room} {s : State} {args : Array Value} (ht : ∀ w ∈ gtb, w.before args s = true) (h1 : 0 + 1 ≤ R.frames) (h2 : 8 + (1 + 11) + 0 ≤ R.locals) : CallB R s args R_MC 216 y_Route_fromOf b_Route_fromOf 1 (some .int) (.code y_Route_fromOf b_Route_fromOf 1 (some .int) :: gtb) { frames := 0, cells := 0, slots := 0, locals := 0 } 0 0 1 ∧ (Cond.static y_Route_fromOf).before args s = true := va_cwS 1 ht (gS w3_239 w2_33 w1_7 w2_34) rfl rfl rfl ⟨by decide, by decide, by decide +kernel⟩ ⟨h1, h2⟩
theorem cw_MC_219 {R : Room} {s : State} {args : Array Value} (ht : ∀ w ∈ gtb, w.before args s = true) (h1 : 0 + 1 ≤ R.frames) (h2 : 8 + (1 + 11) + 0 ≤ R.locals) : CallB R s args R_MC 219 y_Route_toOf b_Route_toOf 1 (some .int) (.code y_Route_toOf b_Route_toOf 1 (some .int) :: gtb) { frames := 0, cells := 0, slots := 0, locals := 0 } 0 0 1 ∧ (Cond.static y_Route_toOf).before args s = true := va_cwS 1 ht (gS w4_0 w2_54 w1_7 w2_55) rfl rfl rfl ⟨by decide, by decide, by decide +kernel⟩ ⟨h1, h2⟩
noncomputable def f_MC_letter_J29 (M : Mem) (x1 : Int32) (x2 : Int32) : Option (Int32) := if (bI (f_MC_hasLetter M x1)) = 0 then some (-1 : Int32) else 
    if x2 = (0 : Int32) then gIn x1 212 (some (f_Route_roundOf (M 114 x1.toNatClampNeg))) else 
    if x2 = (1 : Int32) then gIn x1 212 (some (f_Route_fromOf (M 114 x1.toNatClampNeg))) else 
    if x2 = (2 : Int32) then gIn x1 212 (some (f_Route_toOf (M 114 x1.toNatClampNeg))) else 
    if x2 = (3 : Int32) then gIn x1 212 (some (M 115 x1.toNatClampNeg)) else 
    if x2 = (4 : Int32) then gIn x1 212 (some (f_Chain_size (M 116 x1.toNatClampNeg))) else 
    if x2 = (5 : Int32) then gIn x1 212 (some (M 117 x1.toNatClampNeg)) else if x2 = (6 : Int32) then gIn x1 212 (some (M 118 x1.toNatClampNeg)) else some (-1 : Int32)
noncomputable def f_MC_letter (M : Mem) (x1 : Int32) (x2 : Int32) : Option Int32 := 
    if (M 0 0) = 0 then some (-1 : Int32) else 
    if x1 = (-1 : Int32) then if x2 = 0 then some (M 112 4) else f_MC_letter_J29 M x1 x2 else f_MC_letter_J29 M x1 x2
set_option maxHeartbeats 4000000 in
theorem wk_MC_letter {l : Launch} {Z : WD} (hI : wI Z) (hZ : IsC Z) (M : Mem) (x1 : Int32) (x2 : Int32) {r : Int32} {p : Program} {e : Env} {R : Room} {s : State} {m : MethodId} {args : Array Value} {below : List Frame} {meth : Method} {c : Code} {H : Heap} {locs : List Loc} {ls : Array Slot} {Q : State → Prop} (S : CallFix p m c b_MC_letter 3 s args gtb R_MC) (hX : wX Z s) (hR : 1 ≤ R.frames ∧ 21 ≤ R.locals) (hQ : ∀ (pc : Nat) (H : Heap) (locs : List Loc) (ls : Array Slot), HW Z M s H locs → decode b_MC_letter pc = .ok (.ireturn, 1) → W p l e R s m args below meth c H locs 0 0 Q (F0 m pc ls [.int r])) (hf0 : f_MC_letter M x1 x2 = some r) (hH : HW Z M s H locs) (hl : lv_has ls 3 [(0, .ref (Z.2.2.1 138)), (1, .int x1), (2, .int x2)]) : W p l e R s m args below meth c H locs 0 0 Q (F0 m 0 ls []) := by
  have hx := S.1
  have hb := S.2.1
  have hown := S.2.2.2.1
  have ht := S.2.2.2.2
  unfold f_MC_letter at hf0
  have J29 : ∀ (x1 : Int32) (x2 : Int32) (H : Heap) (locs : List Loc) (ls : Array Slot), f_MC_letter_J29 M x1 x2 = some r → HW Z M s H locs → lv_has ls 3 [(0, .ref (Z.2.2.1 138)), (1, .int x1), (2, .int x2)] → W p l e R s m args below meth c H locs 0 0 Q (F0 m 29 ls []) := by
    intro x1 x2 H locs ls hf0 hH hl
    unfold f_MC_letter_J29 at hf0
    refine lv_aload_n hx hb d_MC_letter_29 rfl (lv_at hl 0 rfl) ?_
    refine lv_iload_n hx hb d_MC_letter_30 rfl (lv_at hl 1 rfl) ?_
    refine q_cVi (As := [.int x1]) (rest := []) S hX hH (c_MC_hasLetter l hI hZ M x1 rfl) (cw_MC_207 S.2.2.2.2 (Nat.le_trans (Nat.le_of_ble_eq_true rfl) hR.1) (Nat.le_trans (Nat.le_of_ble_eq_true rfl) hR.2)) (rc_MC hX hH hZ) rfl hl.1 rfl (Nat.le_of_ble_eq_true rfl) d_MC_letter_31 ⟨Nat.zero_le _, Nat.zero_le _⟩ (fun H locs hH => ?_)
    refine lv_if_ne (tgt := 39) hx hb d_MC_letter_34 (by decide) (fun hc => ?_) (fun hc => ?_)
    · replace hf0 := o_f hc hf0
      refine lv_iload_n hx hb d_MC_letter_39 rfl (lv_at hl 2 rfl) ?_
      by_cases hcv0 : x2 = (0 : Int32)
      · replace hf0 := o_t hcv0 hf0
        refine lv_tableIn (tgt := 84) hx hb d_MC_letter_40 (by rw [hcv0]; decide) (by rw [hcv0]; decide) (by rw [hcv0]; rfl) (by decide) ?_
        refine lv_aload_n hx hb d_MC_letter_84 rfl (lv_at hl 0 rfl) ?_
        refine g_MC_28 S hX hH hZ d_MC_letter_85 ?_
        refine g_MC_210 S hX hH hZ isRun_112 d_MC_letter_88 ?_
        refine lv_iload_n hx hb d_MC_letter_91 rfl (lv_at hl 1 rfl) ?_
        obtain ⟨hn1, hf0⟩ := o_in hf0
        refine q_iald (j := x1.toNatClampNeg) hx hb hX hH (aa_Run_2 hZ isRun_112) hn1 rfl d_MC_letter_92 ?_
        refine q_cSi (As := [.int (M 114 x1.toNatClampNeg)]) (rest := []) S hX hH (c_Route_roundOf l hI M (M 114 x1.toNatClampNeg) rfl) (cw_MC_213 S.2.2.2.2 (Nat.le_trans (Nat.le_of_ble_eq_true rfl) hR.1) (Nat.le_trans (Nat.le_of_ble_eq_true rfl) hR.2)) rfl hl.1 rfl (Nat.le_of_ble_eq_true rfl) d_MC_letter_93 ⟨Nat.zero_le _, Nat.zero_le _⟩ (fun H locs hH => ?_)
        obtain rfl := o_v hf0
        exact hQ _ _ _ _ hH d_MC_letter_96
      replace hf0 := o_f hcv0 hf0
      by_cases hcv1 : x2 = (1 : Int32)
      · replace hf0 := o_t hcv1 hf0
        refine lv_tableIn (tgt := 97) hx hb d_MC_letter_40 (by rw [hcv1]; decide) (by rw [hcv1]; decide) (by rw [hcv1]; rfl) (by decide) ?_
        refine lv_aload_n hx hb d_MC_letter_97 rfl (lv_at hl 0 rfl) ?_
        refine g_MC_28 S hX hH hZ d_MC_letter_98 ?_
        refine g_MC_210 S hX hH hZ isRun_112 d_MC_letter_101 ?_
        refine lv_iload_n hx hb d_MC_letter_104 rfl (lv_at hl 1 rfl) ?_
        obtain ⟨hn2, hf0⟩ := o_in hf0
        refine q_iald (j := x1.toNatClampNeg) hx hb hX hH (aa_Run_2 hZ isRun_112) hn2 rfl d_MC_letter_105 ?_
        refine q_cSi (As := [.int (M 114 x1.toNatClampNeg)]) (rest := []) S hX hH (c_Route_fromOf l hI M (M 114 x1.toNatClampNeg) rfl) (cw_MC_216 S.2.2.2.2 (Nat.le_trans (Nat.le_of_ble_eq_true rfl) hR.1) (Nat.le_trans (Nat.le_of_ble_eq_true rfl) hR.2)) rfl hl.1 rfl (Nat.le_of_ble_eq_true rfl) d_MC_letter_106 ⟨Nat.zero_le _, Nat.zero_le _⟩ (fun H locs hH => ?_)
        obtain rfl := o_v hf0
        exact hQ _ _ _ _ hH d_MC_letter_109
      replace hf0 := o_f hcv1 hf0
      by_cases hcv2 : x2 = (2 : Int32)
      · replace hf0 := o_t hcv2 hf0
        refine lv_tableIn (tgt := 110) hx hb d_MC_letter_40 (by rw [hcv2]; decide) (by rw [hcv2]; decide) (by rw [hcv2]; rfl) (by decide) ?_
        refine lv_aload_n hx hb d_MC_letter_110 rfl (lv_at hl 0 rfl) ?_
        refine g_MC_28 S hX hH hZ d_MC_letter_111 ?_
        refine g_MC_210 S hX hH hZ isRun_112 d_MC_letter_114 ?_
        refine lv_iload_n hx hb d_MC_letter_117 rfl (lv_at hl 1 rfl) ?_
        obtain ⟨hn3, hf0⟩ := o_in hf0
        refine q_iald (j := x1.toNatClampNeg) hx hb hX hH (aa_Run_2 hZ isRun_112) hn3 rfl d_MC_letter_118 ?_
        refine q_cSi (As := [.int (M 114 x1.toNatClampNeg)]) (rest := []) S hX hH (c_Route_toOf l hI M (M 114 x1.toNatClampNeg) rfl) (cw_MC_219 S.2.2.2.2 (Nat.le_trans (Nat.le_of_ble_eq_true rfl) hR.1) (Nat.le_trans (Nat.le_of_ble_eq_true rfl) hR.2)) rfl hl.1 rfl (Nat.le_of_ble_eq_true rfl) d_MC_letter_119 ⟨Nat.zero_le _, Nat.zero_le _⟩ (fun H locs hH => ?_)
        obtain rfl := o_v hf0
        exact hQ _ _ _ _ hH d_MC_letter_122
      replace hf0 := o_f hcv2 hf0
      by_cases hcv3 : x2 = (3 : Int32)
      · replace hf0 := o_t hcv3 hf0
        refine lv_tableIn (tgt := 123) hx hb d_MC_letter_40 (by rw [hcv3]; decide) (by rw [hcv3]; decide) (by rw [hcv3]; rfl) (by decide) ?_
        refine lv_aload_n hx hb d_MC_letter_123 rfl (lv_at hl 0 rfl) ?_
        refine g_MC_28 S hX hH hZ d_MC_letter_124 ?_
        refine g_MC_222 S hX hH hZ isRun_112 d_MC_letter_127 ?_
        refine lv_iload_n hx hb d_MC_letter_130 rfl (lv_at hl 1 rfl) ?_
        obtain ⟨hn4, hf0⟩ := o_in hf0
        refine q_iald (j := x1.toNatClampNeg) hx hb hX hH (aa_Run_3 hZ isRun_112) hn4 rfl d_MC_letter_131 ?_
        obtain rfl := o_v hf0
        exact hQ _ _ _ _ hH d_MC_letter_132
      replace hf0 := o_f hcv3 hf0
      by_cases hcv4 : x2 = (4 : Int32)
      · replace hf0 := o_t hcv4 hf0
        refine lv_tableIn (tgt := 133) hx hb d_MC_letter_40 (by rw [hcv4]; decide) (by rw [hcv4]; decide) (by rw [hcv4]; rfl) (by decide) ?_
        refine lv_aload_n hx hb d_MC_letter_133 rfl (lv_at hl 0 rfl) ?_
        refine g_MC_28 S hX hH hZ d_MC_letter_134 ?_
        refine g_MC_225 S hX hH hZ isRun_112 d_MC_letter_137 ?_
        refine lv_iload_n hx hb d_MC_letter_140 rfl (lv_at hl 1 rfl) ?_
        obtain ⟨hn5, hf0⟩ := o_in hf0
        refine q_iald (j := x1.toNatClampNeg) hx hb hX hH (aa_Run_4 hZ isRun_112) hn5 rfl d_MC_letter_141 ?_
        refine q_cSi (As := [.int (M 116 x1.toNatClampNeg)]) (rest := []) S hX hH (c_Chain_size l hI M (M 116 x1.toNatClampNeg) rfl) (cw_MC_168 S.2.2.2.2 (Nat.le_trans (Nat.le_of_ble_eq_true rfl) hR.1) (Nat.le_trans (Nat.le_of_ble_eq_true rfl) hR.2)) rfl hl.1 rfl (Nat.le_of_ble_eq_true rfl) d_MC_letter_142 ⟨Nat.zero_le _, Nat.zero_le _⟩ (fun H locs hH => ?_)
        obtain rfl := o_v hf0
        exact hQ _ _ _ _ hH d_MC_letter_145
      replace hf0 := o_f hcv4 hf0
      by_cases hcv5 : x2 = (5 : Int32)
      · replace hf0 := o_t hcv5 hf0
        refine lv_tableIn (tgt := 146) hx hb d_MC_letter_40 (by rw [hcv5]; decide) (by rw [hcv5]; decide) (by rw [hcv5]; rfl) (by decide) ?_
        refine lv_aload_n hx hb d_MC_letter_146 rfl (lv_at hl 0 rfl) ?_
        refine g_MC_28 S hX hH hZ d_MC_letter_147 ?_
        refine g_MC_228 S hX hH hZ isRun_112 d_MC_letter_150 ?_
        refine lv_iload_n hx hb d_MC_letter_153 rfl (lv_at hl 1 rfl) ?_
        obtain ⟨hn6, hf0⟩ := o_in hf0
        refine q_iald (j := x1.toNatClampNeg) hx hb hX hH (aa_Run_5 hZ isRun_112) hn6 rfl d_MC_letter_154 ?_
        obtain rfl := o_v hf0
        exact hQ _ _ _ _ hH d_MC_letter_155
      replace hf0 := o_f hcv5 hf0
      by_cases hcv6 : x2 = (6 : Int32)
      · replace hf0 := o_t hcv6 hf0
        refine lv_tableIn (tgt := 156) hx hb d_MC_letter_40 (by rw [hcv6]; decide) (by rw [hcv6]; decide) (by rw [hcv6]; rfl) (by decide) ?_
        refine lv_aload_n hx hb d_MC_letter_156 rfl (lv_at hl 0 rfl) ?_
        refine g_MC_28 S hX hH hZ d_MC_letter_157 ?_
        refine g_MC_231 S hX hH hZ isRun_112 d_MC_letter_160 ?_
        refine lv_iload_n hx hb d_MC_letter_163 rfl (lv_at hl 1 rfl) ?_
        obtain ⟨hn7, hf0⟩ := o_in hf0
        refine q_iald (j := x1.toNatClampNeg) hx hb hX hH (aa_Run_6 hZ isRun_112) hn7 rfl d_MC_letter_164 ?_
        obtain rfl := o_v hf0
        exact hQ _ _ _ _ hH d_MC_letter_165
      replace hf0 := o_f hcv6 hf0
      refine lv_tableOut (tgt := 166) hx hb d_MC_letter_40 (sw_out (fun v h1 h2 => by rcases (show v = 0 ∨ v = 1 ∨ v = 2 ∨ v = 3 ∨ v = 4 ∨ v = 5 ∨ v = 6 by omega) with rfl | rfl | rfl | rfl | rfl | rfl | rfl <;> assumption)) (by decide) ?_
      refine lv_iconst (v := (-1 : Int32)) hx hb d_MC_letter_166 (by decide) ?_
      obtain rfl := o_v hf0
      exact hQ _ _ _ _ hH d_MC_letter_167
    · replace hf0 := o_t hc hf0
      refine lv_iconst (v := (-1 : Int32)) hx hb d_MC_letter_37 (by decide) ?_
      obtain rfl := o_v hf0
      exact hQ _ _ _ _ hH d_MC_letter_38
  refine lv_aload_n hx hb d_MC_letter_0 rfl (lv_at hl 0 rfl) ?_
  refine g_MC_10 S hX hH hZ d_MC_letter_1 ?_
  refine g_MC_71 S hX hH hZ isPlay_0 d_MC_letter_4 ?_
  refine lv_if_ne (tgt := 12) hx hb d_MC_letter_7 (by decide) (fun hc => ?_) (fun hc => ?_)
  · replace hf0 := o_f hc hf0
    refine lv_iload_n hx hb d_MC_letter_12 rfl (lv_at hl 1 rfl) ?_
    refine lv_iconst (v := (-1 : Int32)) hx hb d_MC_letter_13 (by decide) ?_
    refine lv_icmp_ne (tgt := 29) hx hb d_MC_letter_14 (by decide) (fun hc => ?_) (fun hc => ?_)
    · replace hf0 := o_f hc hf0
      exact J29 _ _ _ _ _ hf0 hH (lv_sub hl [0, 1, 2] rfl)
    · replace hf0 := o_t hc hf0
      refine lv_iload_n hx hb d_MC_letter_17 rfl (lv_at hl 2 rfl) ?_
      refine lv_if_ne (tgt := 29) hx hb d_MC_letter_18 (by decide) (fun hc => ?_) (fun hc => ?_)
      · replace hf0 := o_f hc hf0
        exact J29 _ _ _ _ _ hf0 hH (lv_sub hl [0, 1, 2] rfl)
      · replace hf0 := o_t hc hf0
        refine lv_aload_n hx hb d_MC_letter_21 rfl (lv_at hl 0 rfl) ?_
        refine g_MC_28 S hX hH hZ d_MC_letter_22 ?_
        refine g_MC_204 S hX hH hZ isRun_112 d_MC_letter_25 ?_
        obtain rfl := o_v hf0
        exact hQ _ _ _ _ hH d_MC_letter_28
  · replace hf0 := o_t hc hf0
    refine lv_iconst (v := (-1 : Int32)) hx hb d_MC_letter_10 (by decide) ?_
    obtain rfl := o_v hf0
    exact hQ _ _ _ _ hH d_MC_letter_11
theorem c_MC_letter (l : Launch) {Z : WD} (hI : wI Z) (hZ : IsC Z) (M : Mem) (x1 : Int32) (x2 : Int32) {r : Int32} (hf : f_MC_letter M x1 x2 = some r) : Ci l Z y_MC_letter b_MC_letter 3 (some .int) 1 21 [.ref (Z.2.2.1 138), .int x1, .int x2] M M r := by
  refine Met.ofW (cc := b_MC_letter) (maxL := 3) (ret := (some .int)) (by decide) rfl ?_
  intro p e s m args below meth c s₁ B hml hv
  obtain ⟨rfl, hP, hX⟩ := hv
  have S : CallFix p m c b_MC_letter 3 s ([.ref (Z.2.2.1 138), .int x1, .int x2] : List Value).toArray gtb R_MC := ⟨B.exec, B.bytes, hml, findClass_of_methodNamed B.named, fun w hw => atoms_spec (ws := .code y_MC_letter b_MC_letter 3 (some .int) :: gtb) B.pre w (List.mem_cons_of_mem _ hw)⟩
  have hl := lv_entry ([.ref (Z.2.2.1 138), .int x1, .int x2]) (n := 3) (Nat.le_of_ble_eq_true rfl)
  rw [lg_entry_eq]
  exact wk_MC_letter hI hZ M x1 x2 S hX ⟨Nat.le_refl _, Nat.le_refl _⟩ (fun pc H locs ls hH d => q_ri S.1 S.2.1 B.returns B.notSynchronized hH rfl rfl d) hf ⟨hP, va_S.rf⟩ hl
noncomputable def f_MC_mark (M : Mem) (x1 : Int32) (x2 : Int32) : Option Int32 := 
    if (bI (f_MC_hasLetter M x1)) = 0 then some (-1 : Int32) else 
    if x2 < 0 then some (-1 : Int32) else 
    gIn x1 212 (if x2 < (f_Chain_size (M 116 x1.toNatClampNeg)) then some (f_Chain_markAt (M 116 x1.toNatClampNeg) x2) else some (-1 : Int32))
set_option maxHeartbeats 4000000 in
theorem wk_MC_mark {l : Launch} {Z : WD} (hI : wI Z) (hZ : IsC Z) (M : Mem) (x1 : Int32) (x2 : Int32) {r : Int32} {p : Program} {e : Env} {R : Room} {s : State} {m : MethodId} {args : Array Value} {below : List Frame} {meth : Method} {c : Code} {H : Heap} {locs : List Loc} {ls : Array Slot} {Q : State → Prop} (S : CallFix p m c b_MC_mark 3 s args gtb R_MC) (hX : wX Z s) (hR : 1 ≤ R.frames ∧ 21 ≤ R.locals) (hQ : ∀ (pc : Nat) (H : Heap) (locs : List Loc) (ls : Array Slot), HW Z M s H locs → decode b_MC_mark pc = .ok (.ireturn, 1) → W p l e R s m args below meth c H locs 0 0 Q (F0 m pc ls [.int r])) (hf0 : f_MC_mark M x1 x2 = some r) (hH : HW Z M s H locs) (hl : lv_has ls 3 [(0, .ref (Z.2.2.1 138)), (1, .int x1), (2, .int x2)]) : W p l e R s m args below meth c H locs 0 0 Q (F0 m 0 ls []) := by
  have hx := S.1
  have hb := S.2.1
  have hown := S.2.2.2.1
  have ht := S.2.2.2.2
  unfold f_MC_mark at hf0
  refine lv_aload_n hx hb d_MC_mark_0 rfl (lv_at hl 0 rfl) ?_
  refine lv_iload_n hx hb d_MC_mark_1 rfl (lv_at hl 1 rfl) ?_
  refine q_cVi (As := [.int x1]) (rest := []) S hX hH (c_MC_hasLetter l hI hZ M x1 rfl) (cw_MC_207 S.2.2.2.2 (Nat.le_trans (Nat.le_of_ble_eq_true rfl) hR.1) (Nat.le_trans (Nat.le_of_ble_eq_true rfl) hR.2)) (rc_MC hX hH hZ) rfl hl.1 rfl (Nat.le_of_ble_eq_true rfl) d_MC_mark_2 ⟨Nat.zero_le _, Nat.zero_le _⟩ (fun H locs hH => ?_)
  refine lv_if_eq (tgt := 28) hx hb d_MC_mark_5 (by decide) (fun hc => ?_) (fun hc => ?_)
  · replace hf0 := o_t hc hf0
    refine lv_iconst (v := (-1 : Int32)) hx hb d_MC_mark_28 (by decide) ?_
    obtain rfl := o_v hf0
    exact hQ _ _ _ _ hH d_MC_mark_29
  · replace hf0 := o_f hc hf0
    refine lv_iload_n hx hb d_MC_mark_8 rfl (lv_at hl 2 rfl) ?_
    refine lv_if_lt (tgt := 28) hx hb d_MC_mark_9 (by decide) (fun hc => ?_) (fun hc => ?_)
    · replace hf0 := o_t hc hf0
      refine lv_iconst (v := (-1 : Int32)) hx hb d_MC_mark_28 (by decide) ?_
      obtain rfl := o_v hf0
      exact hQ _ _ _ _ hH d_MC_mark_29
    · replace hf0 := o_f hc hf0
      refine lv_iload_n hx hb d_MC_mark_12 rfl (lv_at hl 2 rfl) ?_
      refine lv_aload_n hx hb d_MC_mark_13 rfl (lv_at hl 0 rfl) ?_
      refine g_MC_28 S hX hH hZ d_MC_mark_14 ?_
      refine g_MC_225 S hX hH hZ isRun_112 d_MC_mark_17 ?_
      refine lv_iload_n hx hb d_MC_mark_20 rfl (lv_at hl 1 rfl) ?_
      obtain ⟨hn1, hf0⟩ := o_in hf0
      refine q_iald (j := x1.toNatClampNeg) hx hb hX hH (aa_Run_4 hZ isRun_112) hn1 rfl d_MC_mark_21 ?_
      refine q_cSi (As := [.int (M 116 x1.toNatClampNeg)]) (rest := [.int x2]) S hX hH (c_Chain_size l hI M (M 116 x1.toNatClampNeg) rfl) (cw_MC_168 S.2.2.2.2 (Nat.le_trans (Nat.le_of_ble_eq_true rfl) hR.1) (Nat.le_trans (Nat.le_of_ble_eq_true rfl) hR.2)) rfl hl.1 rfl (Nat.le_of_ble_eq_true rfl) d_MC_mark_22 ⟨Nat.zero_le _, Nat.zero_le _⟩ (fun H locs hH => ?_)
      refine lv_icmp_lt (tgt := 30) hx hb d_MC_mark_25 (by decide) (fun hc => ?_) (fun hc => ?_)
      · replace hf0 := o_t hc hf0
        refine lv_aload_n hx hb d_MC_mark_30 rfl (lv_at hl 0 rfl) ?_
        refine g_MC_28 S hX hH hZ d_MC_mark_31 ?_
        refine g_MC_225 S hX hH hZ isRun_112 d_MC_mark_34 ?_
        refine lv_iload_n hx hb d_MC_mark_37 rfl (lv_at hl 1 rfl) ?_
        refine q_iald (j := x1.toNatClampNeg) hx hb hX hH (aa_Run_4 hZ isRun_112) hn1 rfl d_MC_mark_38 ?_
        refine lv_iload_n hx hb d_MC_mark_39 rfl (lv_at hl 2 rfl) ?_
        refine q_cSi (As := [.int (M 116 x1.toNatClampNeg), .int x2]) (rest := []) S hX hH (c_Chain_markAt l hI M (M 116 x1.toNatClampNeg) x2 rfl) (cw_MC_161 S.2.2.2.2 (Nat.le_trans (Nat.le_of_ble_eq_true rfl) hR.1) (Nat.le_trans (Nat.le_of_ble_eq_true rfl) hR.2)) rfl hl.1 rfl (Nat.le_of_ble_eq_true rfl) d_MC_mark_40 ⟨Nat.zero_le _, Nat.zero_le _⟩ (fun H locs hH => ?_)
        obtain rfl := o_v hf0
        exact hQ _ _ _ _ hH d_MC_mark_43
      · replace hf0 := o_f hc hf0
        refine lv_iconst (v := (-1 : Int32)) hx hb d_MC_mark_28 (by decide) ?_
        obtain rfl := o_v hf0
        exact hQ _ _ _ _ hH d_MC_mark_29
theorem c_MC_mark (l : Launch) {Z : WD} (hI : wI Z) (hZ : IsC Z) (M : Mem) (x1 : Int32) (x2 : Int32) {r : Int32} (hf : f_MC_mark M x1 x2 = some r) : Ci l Z y_MC_mark b_MC_mark 3 (some .int) 1 21 [.ref (Z.2.2.1 138), .int x1, .int x2] M M r := by
  refine Met.ofW (cc := b_MC_mark) (maxL := 3) (ret := (some .int)) (by decide) rfl ?_
  intro p e s m args below meth c s₁ B hml hv
  obtain ⟨rfl, hP, hX⟩ := hv
  have S : CallFix p m c b_MC_mark 3 s ([.ref (Z.2.2.1 138), .int x1, .int x2] : List Value).toArray gtb R_MC := ⟨B.exec, B.bytes, hml, findClass_of_methodNamed B.named, fun w hw => atoms_spec (ws := .code y_MC_mark b_MC_mark 3 (some .int) :: gtb) B.pre w (List.mem_cons_of_mem _ hw)⟩
  have hl := lv_entry ([.ref (Z.2.2.1 138), .int x1, .int x2]) (n := 3) (Nat.le_of_ble_eq_true rfl)
  rw [lg_entry_eq]
  exact wk_MC_mark hI hZ M x1 x2 S hX ⟨Nat.le_refl _, Nat.le_refl _⟩ (fun pc H locs ls hH d => q_ri S.1 S.2.1 B.returns B.notSynchronized hH rfl rfl d) hf ⟨hP, va_S.rf⟩ hl
theorem cw_MC_236 {R : Room} {s : State} {args : Array Value} (ht : ∀ w ∈ gtb, w.before args s = true) (h1 : 1 + 1 ≤ R.frames) (h2 : 8 + (5 + 11) + 21 ≤ R.locals) : CallB R s args R_MC 236 y_Chain_pack b_Chain_pack 5 (some .long) (.code y_Chain_pack b_Chain_pack 5 (some .long) :: gtb) { frames := 1, cells := 0, slots := 0, locals := 21 } 0 0 2 ∧ (Cond.static y_Chain_pack).before args s = true := va_cwS 2 ht (gS w4_10 w4_11 w1_6 w4_12) rfl rfl rfl ⟨by decide, by decide, by decide +kernel⟩ ⟨h1, h2⟩
noncomputable def f_MC_packed (M : Mem) (x1 : Int32) : Option Int64 := 
    if (bI (f_MC_hasLetter M x1)) = 0 then some (-1 : Int64) else 
    gIn x1 212 (bnd (f_Chain_pack (M 116 x1.toNatClampNeg) (M 115 x1.toNatClampNeg)) (fun y3 => some y3))
set_option maxHeartbeats 4000000 in
theorem wk_MC_packed {l : Launch} {Z : WD} (hI : wI Z) (hZ : IsC Z) (M : Mem) (x1 : Int32) {r : Int64} {p : Program} {e : Env} {R : Room} {s : State} {m : MethodId} {args : Array Value} {below : List Frame} {meth : Method} {c : Code} {H : Heap} {locs : List Loc} {ls : Array Slot} {Q : State → Prop} (S : CallFix p m c b_MC_packed 2 s args gtb R_MC) (hX : wX Z s) (hR : 2 ≤ R.frames ∧ 45 ≤ R.locals) (hQ : ∀ (pc : Nat) (H : Heap) (locs : List Loc) (ls : Array Slot), HW Z M s H locs → decode b_MC_packed pc = .ok (.lreturn, 1) → W p l e R s m args below meth c H locs 0 0 Q (F0 m pc ls [.long r])) (hf0 : f_MC_packed M x1 = some r) (hH : HW Z M s H locs) (hl : lv_has ls 2 [(0, .ref (Z.2.2.1 138)), (1, .int x1)]) : W p l e R s m args below meth c H locs 0 0 Q (F0 m 0 ls []) := by
  have hx := S.1
  have hb := S.2.1
  have hown := S.2.2.2.1
  have ht := S.2.2.2.2
  unfold f_MC_packed at hf0
  refine lv_aload_n hx hb d_MC_packed_0 rfl (lv_at hl 0 rfl) ?_
  refine lv_iload_n hx hb d_MC_packed_1 rfl (lv_at hl 1 rfl) ?_
  refine q_cVi (As := [.int x1]) (rest := []) S hX hH (c_MC_hasLetter l hI hZ M x1 rfl) (cw_MC_207 S.2.2.2.2 (Nat.le_trans (Nat.le_of_ble_eq_true rfl) hR.1) (Nat.le_trans (Nat.le_of_ble_eq_true rfl) hR.2)) (rc_MC hX hH hZ) rfl hl.1 rfl (Nat.le_of_ble_eq_true rfl) d_MC_packed_2 ⟨Nat.zero_le _, Nat.zero_le _⟩ (fun H locs hH => ?_)
  refine lv_if_ne (tgt := 12) hx hb d_MC_packed_5 (by decide) (fun hc => ?_) (fun hc => ?_)
  · replace hf0 := o_f hc hf0
    refine lv_aload_n hx hb d_MC_packed_12 rfl (lv_at hl 0 rfl) ?_
    refine g_MC_28 S hX hH hZ d_MC_packed_13 ?_
    refine g_MC_225 S hX hH hZ isRun_112 d_MC_packed_16 ?_
    refine lv_iload_n hx hb d_MC_packed_19 rfl (lv_at hl 1 rfl) ?_
    obtain ⟨hn1, hf0⟩ := o_in hf0
    refine q_iald (j := x1.toNatClampNeg) hx hb hX hH (aa_Run_4 hZ isRun_112) hn1 rfl d_MC_packed_20 ?_
    refine lv_aload_n hx hb d_MC_packed_21 rfl (lv_at hl 0 rfl) ?_
    refine g_MC_28 S hX hH hZ d_MC_packed_22 ?_
    refine g_MC_222 S hX hH hZ isRun_112 d_MC_packed_25 ?_
    refine lv_iload_n hx hb d_MC_packed_28 rfl (lv_at hl 1 rfl) ?_
    refine q_iald (j := x1.toNatClampNeg) hx hb hX hH (aa_Run_3 hZ isRun_112) hn1 rfl d_MC_packed_29 ?_
    obtain ⟨y3, hc2, hf0⟩ := o_b hf0
    refine q_cSl (As := [.int (M 116 x1.toNatClampNeg), .int (M 115 x1.toNatClampNeg)]) (rest := []) S hX hH (c_Chain_pack l hI M (M 116 x1.toNatClampNeg) (M 115 x1.toNatClampNeg) hc2) (cw_MC_236 S.2.2.2.2 (Nat.le_trans (Nat.le_of_ble_eq_true rfl) hR.1) (Nat.le_trans (Nat.le_of_ble_eq_true rfl) hR.2)) rfl hl.1 rfl (Nat.le_of_ble_eq_true rfl) d_MC_packed_30 ⟨Nat.zero_le _, Nat.zero_le _⟩ (fun H locs hH => ?_)
    obtain rfl := o_v hf0
    exact hQ _ _ _ _ hH d_MC_packed_33
  · replace hf0 := o_t hc hf0
    refine lv_ldc2 (v := (-1 : Int64)) hx hb hown (ht _ w4_9) d_MC_packed_8 ?_
    obtain rfl := o_v hf0
    exact hQ _ _ _ _ hH d_MC_packed_11
theorem c_MC_packed (l : Launch) {Z : WD} (hI : wI Z) (hZ : IsC Z) (M : Mem) (x1 : Int32) {r : Int64} (hf : f_MC_packed M x1 = some r) : Cl l Z y_MC_packed b_MC_packed 2 (some .long) 2 45 [.ref (Z.2.2.1 138), .int x1] M M r := by
  refine Met.ofW (cc := b_MC_packed) (maxL := 2) (ret := (some .long)) (by decide) rfl ?_
  intro p e s m args below meth c s₁ B hml hv
  obtain ⟨rfl, hP, hX⟩ := hv
  have S : CallFix p m c b_MC_packed 2 s ([.ref (Z.2.2.1 138), .int x1] : List Value).toArray gtb R_MC := ⟨B.exec, B.bytes, hml, findClass_of_methodNamed B.named, fun w hw => atoms_spec (ws := .code y_MC_packed b_MC_packed 2 (some .long) :: gtb) B.pre w (List.mem_cons_of_mem _ hw)⟩
  have hl := lv_entry ([.ref (Z.2.2.1 138), .int x1]) (n := 2) (Nat.le_of_ble_eq_true rfl)
  rw [lg_entry_eq]
  exact wk_MC_packed hI hZ M x1 S hX ⟨Nat.le_refl _, Nat.le_refl _⟩ (fun pc H locs ls hH d => q_rl S.1 S.2.1 B.returns B.notSynchronized hH rfl rfl d) hf ⟨hP, va_S.rf⟩ hl
theorem cw_MC_240 {R : Room} {s : State} {args : Array Value} (ht : ∀ w ∈ gtb, w.before args s = true) (h1 : 3 + 1 ≤ R.frames) (h2 : 8 + (7 + 11) + 64 ≤ R.locals) : CallB R s args R_MC 240 y_Chain_unpack b_Chain_unpack 7 (some .int) (.code y_Chain_unpack b_Chain_unpack 7 (some .int) :: gtb) { frames := 3, cells := 0, slots := 0, locals := 64 } 0 0 1 ∧ (Cond.static y_Chain_unpack).before args s = true := va_cwS 1 ht (gS w4_19 w4_20 w1_6 w4_21) rfl rfl rfl ⟨by decide, by decide, by decide +kernel⟩ ⟨h1, h2⟩
noncomputable def f_MC_open_J47 (x1 : Int64) (x3 : Int32) (x4 : Int32) : Option (Int32) := if x3 = 0 then some ((x1 - x1 / (4 : Int64) * (4 : Int64)).toInt32) else 
    if x3 = (1 : Int32) then some (f_Chain_size x4) else 
    if (f_Chain_size x4) ≤ (x3 - (10 : Int32)) then some (-2 : Int32) else some (f_Chain_markAt x4 (x3 - (10 : Int32)))
noncomputable def f_MC_open_J23 (x1 : Int64) (x3 : Int32) (x4 : Int32) (s0 : Int32) : Option (Int32) := if x4 = (-1 : Int32) then some (-1 : Int32) else 
    if x3 = 0 then f_MC_open_J47 x1 x3 x4 else 
    if x3 = (1 : Int32) then f_MC_open_J47 x1 x3 x4 else if s0 = 0 then some (-1 : Int32) else f_MC_open_J47 x1 x3 x4
noncomputable def f_MC_open_J22 (x1 : Int64) (x3 : Int32) (x4 : Int32) : Option (Int32) := f_MC_open_J23 x1 x3 x4 (0 : Int32)
noncomputable def f_MC_open (x1 : Int64) (x3 : Int32) : Option Int32 := 
    bnd (f_Chain_unpack x1) (fun y2 => 
    if x3 < (10 : Int32) then f_MC_open_J22 x1 x3 y2 else if (18 : Int32) ≤ x3 then f_MC_open_J22 x1 x3 y2 else f_MC_open_J23 x1 x3 y2 (1 : Int32))
set_option maxHeartbeats 4000000 in
theorem wk_MC_open {l : Launch} {Z : WD} (hI : wI Z) (hZ : IsC Z) (M : Mem) (x1 : Int64) (x3 : Int32) {r : Int32} {p : Program} {e : Env} {R : Room} {s : State} {m : MethodId} {args : Array Value} {below : List Frame} {meth : Method} {c : Code} {H : Heap} {locs : List Loc} {ls : Array Slot} {Q : State → Prop} (S : CallFix p m c b_MC_open 6 s args gtb R_MC) (hX : wX Z s) (hR : 4 ≤ R.frames ∧ 90 ≤ R.locals) (hQ : ∀ (pc : Nat) (H : Heap) (locs : List Loc) (ls : Array Slot), HW Z M s H locs → decode b_MC_open pc = .ok (.ireturn, 1) → W p l e R s m args below meth c H locs 0 0 Q (F0 m pc ls [.int r])) (hf0 : f_MC_open x1 x3 = some r) (hH : HW Z M s H locs) (hl : lv_has ls 6 [(0, .ref (Z.2.2.1 138)), (1, .long x1), (3, .int x3)]) : W p l e R s m args below meth c H locs 0 0 Q (F0 m 0 ls []) := by
  have hx := S.1
  have hb := S.2.1
  have hown := S.2.2.2.1
  have ht := S.2.2.2.2
  unfold f_MC_open at hf0
  have J47 : ∀ (x1 : Int64) (x3 : Int32) (x4 : Int32) (H : Heap) (locs : List Loc) (ls : Array Slot), f_MC_open_J47 x1 x3 x4 = some r → HW Z M s H locs → lv_has ls 6 [(1, .long x1), (3, .int x3), (4, .int x4)] → W p l e R s m args below meth c H locs 0 0 Q (F0 m 47 ls []) := by
    intro x1 x3 x4 H locs ls hf0 hH hl
    unfold f_MC_open_J47 at hf0
    refine lv_iload_n hx hb d_MC_open_47 rfl (lv_at hl 1 rfl) ?_
    refine lv_if_ne (tgt := 58) hx hb d_MC_open_48 (by decide) (fun hc => ?_) (fun hc => ?_)
    · replace hf0 := o_f hc hf0
      refine lv_iload_n hx hb d_MC_open_58 rfl (lv_at hl 1 rfl) ?_
      refine lv_iconst (v := (1 : Int32)) hx hb d_MC_open_59 (by decide) ?_
      refine lv_icmp_ne (tgt := 69) hx hb d_MC_open_60 (by decide) (fun hc => ?_) (fun hc => ?_)
      · replace hf0 := o_f hc hf0
        refine lv_iload_n hx hb d_MC_open_69 rfl (lv_at hl 1 rfl) ?_
        refine lv_bipush (v := (10 : Int32)) hx hb d_MC_open_70 (by decide) ?_
        refine lv_isub hx hb d_MC_open_72 ?_
        refine lv_iload hx hb d_MC_open_73 (lv_at hl 2 rfl) ?_
        refine q_cSi (As := [.int x4]) (rest := [.int (x3 - (10 : Int32))]) S hX hH (c_Chain_size l hI M x4 rfl) (cw_MC_168 S.2.2.2.2 (Nat.le_trans (Nat.le_of_ble_eq_true rfl) hR.1) (Nat.le_trans (Nat.le_of_ble_eq_true rfl) hR.2)) rfl hl.1 rfl (Nat.le_of_ble_eq_true rfl) d_MC_open_75 ⟨Nat.zero_le _, Nat.zero_le _⟩ (fun H locs hH => ?_)
        refine lv_icmp_ge (tgt := 93) hx hb d_MC_open_78 (by decide) (fun hc => ?_) (fun hc => ?_)
        · replace hf0 := o_t hc hf0
          refine lv_bipush (v := (-2 : Int32)) hx hb d_MC_open_93 (by decide) ?_
          obtain rfl := o_v hf0
          exact hQ _ _ _ _ hH d_MC_open_95
        · replace hf0 := o_f hc hf0
          refine lv_iload hx hb d_MC_open_81 (lv_at hl 2 rfl) ?_
          refine lv_iload_n hx hb d_MC_open_83 rfl (lv_at hl 1 rfl) ?_
          refine lv_bipush (v := (10 : Int32)) hx hb d_MC_open_84 (by decide) ?_
          refine lv_isub hx hb d_MC_open_86 ?_
          refine q_cSi (As := [.int x4, .int (x3 - (10 : Int32))]) (rest := []) S hX hH (c_Chain_markAt l hI M x4 (x3 - (10 : Int32)) rfl) (cw_MC_161 S.2.2.2.2 (Nat.le_trans (Nat.le_of_ble_eq_true rfl) hR.1) (Nat.le_trans (Nat.le_of_ble_eq_true rfl) hR.2)) rfl hl.1 rfl (Nat.le_of_ble_eq_true rfl) d_MC_open_87 ⟨Nat.zero_le _, Nat.zero_le _⟩ (fun H locs hH => ?_)
          refine lv_goto (tgt := 95) hx hb d_MC_open_90 (by decide) ?_
          obtain rfl := o_v hf0
          exact hQ _ _ _ _ hH d_MC_open_95
      · replace hf0 := o_t hc hf0
        refine lv_iload hx hb d_MC_open_63 (lv_at hl 2 rfl) ?_
        refine q_cSi (As := [.int x4]) (rest := []) S hX hH (c_Chain_size l hI M x4 rfl) (cw_MC_168 S.2.2.2.2 (Nat.le_trans (Nat.le_of_ble_eq_true rfl) hR.1) (Nat.le_trans (Nat.le_of_ble_eq_true rfl) hR.2)) rfl hl.1 rfl (Nat.le_of_ble_eq_true rfl) d_MC_open_65 ⟨Nat.zero_le _, Nat.zero_le _⟩ (fun H locs hH => ?_)
        obtain rfl := o_v hf0
        exact hQ _ _ _ _ hH d_MC_open_68
    · replace hf0 := o_t hc hf0
      refine lv_lload_n hx hb d_MC_open_51 rfl (lv_at hl 0 rfl) ?_
      refine lv_ldc2 (v := (4 : Int64)) hx hb hown (ht _ w4_22) d_MC_open_52 ?_
      refine lv_lrem hx hb d_MC_open_55 (by decide) ?_
      refine lv_l2i hx hb d_MC_open_56 rfl ?_
      obtain rfl := o_v hf0
      exact hQ _ _ _ _ hH d_MC_open_57
  have J23 : ∀ (x1 : Int64) (x3 : Int32) (x4 : Int32) (s0 : Int32) (H : Heap) (locs : List Loc) (ls : Array Slot), f_MC_open_J23 x1 x3 x4 s0 = some r → HW Z M s H locs → lv_has ls 6 [(1, .long x1), (3, .int x3), (4, .int x4)] → W p l e R s m args below meth c H locs 0 0 Q (F0 m 23 ls [.int s0]) := by
    intro x1 x3 x4 s0 H locs ls hf0 hH hl
    unfold f_MC_open_J23 at hf0
    refine lv_istore (lv' := [(5, .int s0), (1, .long x1), (3, .int x3), (4, .int x4)]) hx hb d_MC_open_23 hl (by decide) rfl (fun ls hl => ?_)
    refine lv_iload hx hb d_MC_open_25 (lv_at hl 3 rfl) ?_
    refine lv_iconst (v := (-1 : Int32)) hx hb d_MC_open_27 (by decide) ?_
    refine lv_icmp_eq (tgt := 45) hx hb d_MC_open_28 (by decide) (fun hc => ?_) (fun hc => ?_)
    · replace hf0 := o_t hc hf0
      refine lv_iconst (v := (-1 : Int32)) hx hb d_MC_open_45 (by decide) ?_
      obtain rfl := o_v hf0
      exact hQ _ _ _ _ hH d_MC_open_46
    · replace hf0 := o_f hc hf0
      refine lv_iload_n hx hb d_MC_open_31 rfl (lv_at hl 2 rfl) ?_
      refine lv_if_eq (tgt := 47) hx hb d_MC_open_32 (by decide) (fun hc => ?_) (fun hc => ?_)
      · replace hf0 := o_t hc hf0
        exact J47 _ _ _ _ _ _ hf0 hH (lv_sub hl [1, 2, 3] rfl)
      · replace hf0 := o_f hc hf0
        refine lv_iload_n hx hb d_MC_open_35 rfl (lv_at hl 2 rfl) ?_
        refine lv_iconst (v := (1 : Int32)) hx hb d_MC_open_36 (by decide) ?_
        refine lv_icmp_eq (tgt := 47) hx hb d_MC_open_37 (by decide) (fun hc => ?_) (fun hc => ?_)
        · replace hf0 := o_t hc hf0
          exact J47 _ _ _ _ _ _ hf0 hH (lv_sub hl [1, 2, 3] rfl)
        · replace hf0 := o_f hc hf0
          refine lv_iload hx hb d_MC_open_40 (lv_at hl 0 rfl) ?_
          refine lv_if_ne (tgt := 47) hx hb d_MC_open_42 (by decide) (fun hc => ?_) (fun hc => ?_)
          · replace hf0 := o_f hc hf0
            exact J47 _ _ _ _ _ _ hf0 hH (lv_sub hl [1, 2, 3] rfl)
          · replace hf0 := o_t hc hf0
            refine lv_iconst (v := (-1 : Int32)) hx hb d_MC_open_45 (by decide) ?_
            obtain rfl := o_v hf0
            exact hQ _ _ _ _ hH d_MC_open_46
  have J22 : ∀ (x1 : Int64) (x3 : Int32) (x4 : Int32) (H : Heap) (locs : List Loc) (ls : Array Slot), f_MC_open_J22 x1 x3 x4 = some r → HW Z M s H locs → lv_has ls 6 [(1, .long x1), (3, .int x3), (4, .int x4)] → W p l e R s m args below meth c H locs 0 0 Q (F0 m 22 ls []) := by
    intro x1 x3 x4 H locs ls hf0 hH hl
    unfold f_MC_open_J22 at hf0
    refine lv_iconst (v := (0 : Int32)) hx hb d_MC_open_22 (by decide) ?_
    exact J23 _ _ _ _ _ _ _ hf0 hH (lv_sub hl [0, 1, 2] rfl)
  refine lv_lload_n hx hb d_MC_open_0 rfl (lv_at hl 1 rfl) ?_
  obtain ⟨y2, hc1, hf0⟩ := o_b hf0
  refine q_cSi (As := [.long x1]) (rest := []) S hX hH (c_Chain_unpack l hI M x1 hc1) (cw_MC_240 S.2.2.2.2 (Nat.le_trans (Nat.le_of_ble_eq_true rfl) hR.1) (Nat.le_trans (Nat.le_of_ble_eq_true rfl) hR.2)) rfl hl.1 rfl (Nat.le_of_ble_eq_true rfl) d_MC_open_1 ⟨Nat.zero_le _, Nat.zero_le _⟩ (fun H locs hH => ?_)
  refine lv_istore (lv' := [(4, .int y2), (0, .ref (Z.2.2.1 138)), (1, .long x1), (3, .int x3)]) hx hb d_MC_open_4 hl (by decide) rfl (fun ls hl => ?_)
  refine lv_iload_n hx hb d_MC_open_6 rfl (lv_at hl 3 rfl) ?_
  refine lv_bipush (v := (10 : Int32)) hx hb d_MC_open_7 (by decide) ?_
  refine lv_icmp_lt (tgt := 22) hx hb d_MC_open_9 (by decide) (fun hc => ?_) (fun hc => ?_)
  · replace hf0 := o_t hc hf0
    exact J22 _ _ _ _ _ _ hf0 hH (lv_sub hl [2, 3, 0] rfl)
  · replace hf0 := o_f hc hf0
    refine lv_iload_n hx hb d_MC_open_12 rfl (lv_at hl 3 rfl) ?_
    refine lv_bipush (v := (18 : Int32)) hx hb d_MC_open_13 (by decide) ?_
    refine lv_icmp_ge (tgt := 22) hx hb d_MC_open_15 (by decide) (fun hc => ?_) (fun hc => ?_)
    · replace hf0 := o_t hc hf0
      exact J22 _ _ _ _ _ _ hf0 hH (lv_sub hl [2, 3, 0] rfl)
    · replace hf0 := o_f hc hf0
      refine lv_iconst (v := (1 : Int32)) hx hb d_MC_open_18 (by decide) ?_
      refine lv_goto (tgt := 23) hx hb d_MC_open_19 (by decide) ?_
      exact J23 _ _ _ _ _ _ _ hf0 hH (lv_sub hl [2, 3, 0] rfl)
theorem c_MC_open (l : Launch) {Z : WD} (hI : wI Z) (hZ : IsC Z) (M : Mem) (x1 : Int64) (x3 : Int32) {r : Int32} (hf : f_MC_open x1 x3 = some r) : Ci l Z y_MC_open b_MC_open 6 (some .int) 4 90 [.ref (Z.2.2.1 138), .long x1, .int x3] M M r := by
  refine Met.ofW (cc := b_MC_open) (maxL := 6) (ret := (some .int)) (by decide) rfl ?_
  intro p e s m args below meth c s₁ B hml hv
  obtain ⟨rfl, hP, hX⟩ := hv
  have S : CallFix p m c b_MC_open 6 s ([.ref (Z.2.2.1 138), .long x1, .int x3] : List Value).toArray gtb R_MC := ⟨B.exec, B.bytes, hml, findClass_of_methodNamed B.named, fun w hw => atoms_spec (ws := .code y_MC_open b_MC_open 6 (some .int) :: gtb) B.pre w (List.mem_cons_of_mem _ hw)⟩
  have hl := lv_entry ([.ref (Z.2.2.1 138), .long x1, .int x3]) (n := 6) (Nat.le_of_ble_eq_true rfl)
  rw [lg_entry_eq]
  exact wk_MC_open hI hZ M x1 x3 S hX ⟨Nat.le_refl _, Nat.le_refl _⟩ (fun pc H locs ls hH d => q_ri S.1 S.2.1 B.returns B.notSynchronized hH rfl rfl d) hf ⟨hP, va_S.rf⟩ hl
theorem cw_MC_246 {R : Room} {s : State} {args : Array Value} (ht : ∀ w ∈ gtb, w.before args s = true) (h1 : 0 + 1 ≤ R.frames) (h2 : 8 + (1 + 11) + 0 ≤ R.locals) : CallB R s args R_MC 246 y_MC_isRoundOrNone b_MC_isRoundOrNone 1 (some .boolean) (.code y_MC_isRoundOrNone b_MC_isRoundOrNone 1 (some .boolean) :: gtb) { frames := 0, cells := 0, slots := 0, locals := 0 } 0 0 1 ∧ (Cond.static y_MC_isRoundOrNone).before args s = true := va_cwS 1 ht (gS w4_27 w4_28 w1_1 w4_29) rfl rfl rfl ⟨by decide, by decide, by decide +kernel⟩ ⟨h1, h2⟩
theorem cw_MC_249 {R : Room} {s : State} {args : Array Value} (ht : ∀ w ∈ gtb, w.before args s = true) (h1 : 1 + 1 ≤ R.frames) (h2 : 8 + (4 + 11) + 20 ≤ R.locals) : CallW R s args R_MC R_Run 249 y_Run_lettersOf b_Run_lettersOf 4 (some .int) (.code y_Run_lettersOf b_Run_lettersOf 4 (some .int) :: gtb) { frames := 1, cells := 0, slots := 0, locals := 20 } 0 0 1 := cwV 1 ht (gV w4_30 w4_31 w4_32 w1_4 w4_33) rfl rfl rfl ⟨rfl, by decide, by decide, by decide +kernel⟩ ⟨h1, h2⟩
noncomputable def f_MC_sent (M : Mem) (x1 : Int32) : Option Int32 := 
    if (M 0 0) = 0 then some (-1 : Int32) else 
    if (bI (f_MC_isRoundOrNone x1)) = 0 then some (-1 : Int32) else if x1 = (-1 : Int32) then some (M 112 4) else bnd (f_Run_lettersOf 112 M x1) (fun y2 => some y2)
set_option maxHeartbeats 4000000 in
theorem wk_MC_sent {l : Launch} {Z : WD} (hI : wI Z) (hZ : IsC Z) (M : Mem) (x1 : Int32) {r : Int32} {p : Program} {e : Env} {R : Room} {s : State} {m : MethodId} {args : Array Value} {below : List Frame} {meth : Method} {c : Code} {H : Heap} {locs : List Loc} {ls : Array Slot} {Q : State → Prop} (S : CallFix p m c b_MC_sent 2 s args gtb R_MC) (hX : wX Z s) (hR : 2 ≤ R.frames ∧ 43 ≤ R.locals) (hQ : ∀ (pc : Nat) (H : Heap) (locs : List Loc) (ls : Array Slot), HW Z M s H locs → decode b_MC_sent pc = .ok (.ireturn, 1) → W p l e R s m args below meth c H locs 0 0 Q (F0 m pc ls [.int r])) (hf0 : f_MC_sent M x1 = some r) (hH : HW Z M s H locs) (hl : lv_has ls 2 [(0, .ref (Z.2.2.1 138)), (1, .int x1)]) : W p l e R s m args below meth c H locs 0 0 Q (F0 m 0 ls []) := by
  have hx := S.1
  have hb := S.2.1
  have hown := S.2.2.2.1
  have ht := S.2.2.2.2
  unfold f_MC_sent at hf0
  refine lv_aload_n hx hb d_MC_sent_0 rfl (lv_at hl 0 rfl) ?_
  refine g_MC_10 S hX hH hZ d_MC_sent_1 ?_
  refine g_MC_71 S hX hH hZ isPlay_0 d_MC_sent_4 ?_
  refine lv_if_eq (tgt := 17) hx hb d_MC_sent_7 (by decide) (fun hc => ?_) (fun hc => ?_)
  · replace hf0 := o_t hc hf0
    refine lv_iconst (v := (-1 : Int32)) hx hb d_MC_sent_17 (by decide) ?_
    obtain rfl := o_v hf0
    exact hQ _ _ _ _ hH d_MC_sent_18
  · replace hf0 := o_f hc hf0
    refine lv_iload_n hx hb d_MC_sent_10 rfl (lv_at hl 1 rfl) ?_
    refine q_cSi (As := [.int x1]) (rest := []) S hX hH (c_MC_isRoundOrNone l hI M x1 rfl) (cw_MC_246 S.2.2.2.2 (Nat.le_trans (Nat.le_of_ble_eq_true rfl) hR.1) (Nat.le_trans (Nat.le_of_ble_eq_true rfl) hR.2)) rfl hl.1 rfl (Nat.le_of_ble_eq_true rfl) d_MC_sent_11 ⟨Nat.zero_le _, Nat.zero_le _⟩ (fun H locs hH => ?_)
    refine lv_if_ne (tgt := 19) hx hb d_MC_sent_14 (by decide) (fun hc => ?_) (fun hc => ?_)
    · replace hf0 := o_f hc hf0
      refine lv_iload_n hx hb d_MC_sent_19 rfl (lv_at hl 1 rfl) ?_
      refine lv_iconst (v := (-1 : Int32)) hx hb d_MC_sent_20 (by decide) ?_
      refine lv_icmp_ne (tgt := 34) hx hb d_MC_sent_21 (by decide) (fun hc => ?_) (fun hc => ?_)
      · replace hf0 := o_f hc hf0
        refine lv_aload_n hx hb d_MC_sent_34 rfl (lv_at hl 0 rfl) ?_
        refine g_MC_28 S hX hH hZ d_MC_sent_35 ?_
        refine lv_iload_n hx hb d_MC_sent_38 rfl (lv_at hl 1 rfl) ?_
        obtain ⟨y2, hc1, hf0⟩ := o_b hf0
        refine q_cVi (As := [.int x1]) (rest := []) S hX hH (c_Run_lettersOf l hI hZ 112 M x1 isRun_112 hc1) (cw_MC_249 S.2.2.2.2 (Nat.le_trans (Nat.le_of_ble_eq_true rfl) hR.1) (Nat.le_trans (Nat.le_of_ble_eq_true rfl) hR.2)) (rc_Run hX hH hZ isRun_112) rfl hl.1 rfl (Nat.le_of_ble_eq_true rfl) d_MC_sent_39 ⟨Nat.zero_le _, Nat.zero_le _⟩ (fun H locs hH => ?_)
        obtain rfl := o_v hf0
        exact hQ _ _ _ _ hH d_MC_sent_42
      · replace hf0 := o_t hc hf0
        refine lv_aload_n hx hb d_MC_sent_24 rfl (lv_at hl 0 rfl) ?_
        refine g_MC_28 S hX hH hZ d_MC_sent_25 ?_
        refine g_MC_204 S hX hH hZ isRun_112 d_MC_sent_28 ?_
        refine lv_goto (tgt := 42) hx hb d_MC_sent_31 (by decide) ?_
        obtain rfl := o_v hf0
        exact hQ _ _ _ _ hH d_MC_sent_42
    · replace hf0 := o_t hc hf0
      refine lv_iconst (v := (-1 : Int32)) hx hb d_MC_sent_17 (by decide) ?_
      obtain rfl := o_v hf0
      exact hQ _ _ _ _ hH d_MC_sent_18
theorem c_MC_sent (l : Launch) {Z : WD} (hI : wI Z) (hZ : IsC Z) (M : Mem) (x1 : Int32) {r : Int32} (hf : f_MC_sent M x1 = some r) : Ci l Z y_MC_sent b_MC_sent 2 (some .int) 2 43 [.ref (Z.2.2.1 138), .int x1] M M r := by
  refine Met.ofW (cc := b_MC_sent) (maxL := 2) (ret := (some .int)) (by decide) rfl ?_
  intro p e s m args below meth c s₁ B hml hv
  obtain ⟨rfl, hP, hX⟩ := hv
  have S : CallFix p m c b_MC_sent 2 s ([.ref (Z.2.2.1 138), .int x1] : List Value).toArray gtb R_MC := ⟨B.exec, B.bytes, hml, findClass_of_methodNamed B.named, fun w hw => atoms_spec (ws := .code y_MC_sent b_MC_sent 2 (some .int) :: gtb) B.pre w (List.mem_cons_of_mem _ hw)⟩
  have hl := lv_entry ([.ref (Z.2.2.1 138), .int x1]) (n := 2) (Nat.le_of_ble_eq_true rfl)
  rw [lg_entry_eq]
  exact wk_MC_sent hI hZ M x1 S hX ⟨Nat.le_refl _, Nat.le_refl _⟩ (fun pc H locs ls hH d => q_ri S.1 S.2.1 B.returns B.notSynchronized hH rfl rfl d) hf ⟨hP, va_S.rf⟩ hl
theorem cw_MC_255 {R : Room} {s : State} {args : Array Value} (ht : ∀ w ∈ gtb, w.before args s = true) (h1 : 2 + 1 ≤ R.frames) (h2 : 8 + (4 + 11) + 42 ≤ R.locals) : CallW R s args R_MC R_Play 255 y_Play_idlePlans b_Play_idlePlans 4 (some .int) (.code y_Play_idlePlans b_Play_idlePlans 4 (some .int) :: gtb) { frames := 2, cells := 0, slots := 0, locals := 42 } 0 0 0 := cwV 0 ht (gV w4_38 w4_39 w4_40 w1_2 w4_41) rfl rfl rfl ⟨rfl, by decide, by decide, by decide +kernel⟩ ⟨h1, h2⟩
noncomputable def f_MC_forged (M : Mem) (x1 : Int32) : Option Int32 := 
    if x1 = 0 then some (M 112 3) else if x1 = (1 : Int32) then bnd (f_Play_idlePlans 0 M) (fun y2 => some y2) else some (-1 : Int32)
set_option maxHeartbeats 4000000 in
theorem wk_MC_forged {l : Launch} {Z : WD} (hI : wI Z) (hZ : IsC Z) (M : Mem) (x1 : Int32) {r : Int32} {p : Program} {e : Env} {R : Room} {s : State} {m : MethodId} {args : Array Value} {below : List Frame} {meth : Method} {c : Code} {H : Heap} {locs : List Loc} {ls : Array Slot} {Q : State → Prop} (S : CallFix p m c b_MC_forged 2 s args gtb R_MC) (hX : wX Z s) (hR : 3 ≤ R.frames ∧ 65 ≤ R.locals) (hQ : ∀ (pc : Nat) (H : Heap) (locs : List Loc) (ls : Array Slot), HW Z M s H locs → decode b_MC_forged pc = .ok (.ireturn, 1) → W p l e R s m args below meth c H locs 0 0 Q (F0 m pc ls [.int r])) (hf0 : f_MC_forged M x1 = some r) (hH : HW Z M s H locs) (hl : lv_has ls 2 [(0, .ref (Z.2.2.1 138)), (1, .int x1)]) : W p l e R s m args below meth c H locs 0 0 Q (F0 m 0 ls []) := by
  have hx := S.1
  have hb := S.2.1
  have hown := S.2.2.2.1
  have ht := S.2.2.2.2
  unfold f_MC_forged at hf0
  refine lv_iload_n hx hb d_MC_forged_0 rfl (lv_at hl 1 rfl) ?_
  refine lv_if_ne (tgt := 12) hx hb d_MC_forged_1 (by decide) (fun hc => ?_) (fun hc => ?_)
  · replace hf0 := o_f hc hf0
    refine lv_iload_n hx hb d_MC_forged_12 rfl (lv_at hl 1 rfl) ?_
    refine lv_iconst (v := (1 : Int32)) hx hb d_MC_forged_13 (by decide) ?_
    refine lv_icmp_ne (tgt := 27) hx hb d_MC_forged_14 (by decide) (fun hc => ?_) (fun hc => ?_)
    · replace hf0 := o_f hc hf0
      refine lv_iconst (v := (-1 : Int32)) hx hb d_MC_forged_27 (by decide) ?_
      obtain rfl := o_v hf0
      exact hQ _ _ _ _ hH d_MC_forged_28
    · replace hf0 := o_t hc hf0
      refine lv_aload_n hx hb d_MC_forged_17 rfl (lv_at hl 0 rfl) ?_
      refine g_MC_10 S hX hH hZ d_MC_forged_18 ?_
      obtain ⟨y2, hc1, hf0⟩ := o_b hf0
      refine q_cVi (As := []) (rest := []) S hX hH (c_Play_idlePlans l hI hZ 0 M isPlay_0 hc1) (cw_MC_255 S.2.2.2.2 (Nat.le_trans (Nat.le_of_ble_eq_true rfl) hR.1) (Nat.le_trans (Nat.le_of_ble_eq_true rfl) hR.2)) (rc_Play hX hH hZ isPlay_0) rfl hl.1 rfl (Nat.le_of_ble_eq_true rfl) d_MC_forged_21 ⟨Nat.zero_le _, Nat.zero_le _⟩ (fun H locs hH => ?_)
      refine lv_goto (tgt := 28) hx hb d_MC_forged_24 (by decide) ?_
      obtain rfl := o_v hf0
      exact hQ _ _ _ _ hH d_MC_forged_28
  · replace hf0 := o_t hc hf0
    refine lv_aload_n hx hb d_MC_forged_4 rfl (lv_at hl 0 rfl) ?_
    refine g_MC_28 S hX hH hZ d_MC_forged_5 ?_
    refine g_MC_252 S hX hH hZ isRun_112 d_MC_forged_8 ?_
    obtain rfl := o_v hf0
    exact hQ _ _ _ _ hH d_MC_forged_11
theorem c_MC_forged (l : Launch) {Z : WD} (hI : wI Z) (hZ : IsC Z) (M : Mem) (x1 : Int32) {r : Int32} (hf : f_MC_forged M x1 = some r) : Ci l Z y_MC_forged b_MC_forged 2 (some .int) 3 65 [.ref (Z.2.2.1 138), .int x1] M M r := by
  refine Met.ofW (cc := b_MC_forged) (maxL := 2) (ret := (some .int)) (by decide) rfl ?_
  intro p e s m args below meth c s₁ B hml hv
  obtain ⟨rfl, hP, hX⟩ := hv
  have S : CallFix p m c b_MC_forged 2 s ([.ref (Z.2.2.1 138), .int x1] : List Value).toArray gtb R_MC := ⟨B.exec, B.bytes, hml, findClass_of_methodNamed B.named, fun w hw => atoms_spec (ws := .code y_MC_forged b_MC_forged 2 (some .int) :: gtb) B.pre w (List.mem_cons_of_mem _ hw)⟩
  have hl := lv_entry ([.ref (Z.2.2.1 138), .int x1]) (n := 2) (Nat.le_of_ble_eq_true rfl)
  rw [lg_entry_eq]
  exact wk_MC_forged hI hZ M x1 S hX ⟨Nat.le_refl _, Nat.le_refl _⟩ (fun pc H locs ls hH d => q_ri S.1 S.2.1 B.returns B.notSynchronized hH rfl rfl d) hf ⟨hP, va_S.rf⟩ hl
noncomputable def f_MC_known (M : Mem) (x1 : Int32) (x2 : Int32) : Option Int32 := 
    if (bI (f_Play_hasParty 0 M x1)) = 0 then some (-1 : Int32) else 
    if (bI (f_MC_isValue x2)) = 0 then some (-1 : Int32) else 
    gIn (f_MC_cellOf x1 x2) 32 (if (M 122 (f_MC_cellOf x1 x2).toNatClampNeg) = (99 : Int32) then some (-2 : Int32) else some (M 122 (f_MC_cellOf x1 x2).toNatClampNeg))
set_option maxHeartbeats 4000000 in
theorem wk_MC_known {l : Launch} {Z : WD} (hI : wI Z) (hZ : IsC Z) (M : Mem) (x1 : Int32) (x2 : Int32) {r : Int32} {p : Program} {e : Env} {R : Room} {s : State} {m : MethodId} {args : Array Value} {below : List Frame} {meth : Method} {c : Code} {H : Heap} {locs : List Loc} {ls : Array Slot} {Q : State → Prop} (S : CallFix p m c b_MC_known 4 s args gtb R_MC) (hX : wX Z s) (hR : 1 ≤ R.frames ∧ 21 ≤ R.locals) (hQ : ∀ (pc : Nat) (H : Heap) (locs : List Loc) (ls : Array Slot), HW Z M s H locs → decode b_MC_known pc = .ok (.ireturn, 1) → W p l e R s m args below meth c H locs 0 0 Q (F0 m pc ls [.int r])) (hf0 : f_MC_known M x1 x2 = some r) (hH : HW Z M s H locs) (hl : lv_has ls 4 [(0, .ref (Z.2.2.1 138)), (1, .int x1), (2, .int x2)]) : W p l e R s m args below meth c H locs 0 0 Q (F0 m 0 ls []) := by
  have hx := S.1
  have hb := S.2.1
  have hown := S.2.2.2.1
  have ht := S.2.2.2.2
  unfold f_MC_known at hf0
  refine lv_aload_n hx hb d_MC_known_0 rfl (lv_at hl 0 rfl) ?_
  refine g_MC_10 S hX hH hZ d_MC_known_1 ?_
  refine lv_iload_n hx hb d_MC_known_4 rfl (lv_at hl 1 rfl) ?_
  refine q_cVi (As := [.int x1]) (rest := []) S hX hH (c_Play_hasParty l hI hZ 0 M x1 isPlay_0 rfl) (cw_MC_85 S.2.2.2.2 (Nat.le_trans (Nat.le_of_ble_eq_true rfl) hR.1) (Nat.le_trans (Nat.le_of_ble_eq_true rfl) hR.2)) (rc_Play hX hH hZ isPlay_0) rfl hl.1 rfl (Nat.le_of_ble_eq_true rfl) d_MC_known_5 ⟨Nat.zero_le _, Nat.zero_le _⟩ (fun H locs hH => ?_)
  refine lv_if_eq (tgt := 18) hx hb d_MC_known_8 (by decide) (fun hc => ?_) (fun hc => ?_)
  · replace hf0 := o_t hc hf0
    refine lv_iconst (v := (-1 : Int32)) hx hb d_MC_known_18 (by decide) ?_
    obtain rfl := o_v hf0
    exact hQ _ _ _ _ hH d_MC_known_19
  · replace hf0 := o_f hc hf0
    refine lv_iload_n hx hb d_MC_known_11 rfl (lv_at hl 2 rfl) ?_
    refine q_cSi (As := [.int x2]) (rest := []) S hX hH (c_MC_isValue l hI M x2 rfl) (cw_MC_102 S.2.2.2.2 (Nat.le_trans (Nat.le_of_ble_eq_true rfl) hR.1) (Nat.le_trans (Nat.le_of_ble_eq_true rfl) hR.2)) rfl hl.1 rfl (Nat.le_of_ble_eq_true rfl) d_MC_known_12 ⟨Nat.zero_le _, Nat.zero_le _⟩ (fun H locs hH => ?_)
    refine lv_if_ne (tgt := 20) hx hb d_MC_known_15 (by decide) (fun hc => ?_) (fun hc => ?_)
    · replace hf0 := o_f hc hf0
      refine lv_aload_n hx hb d_MC_known_20 rfl (lv_at hl 0 rfl) ?_
      refine g_MC_28 S hX hH hZ d_MC_known_21 ?_
      refine g_MC_258 S hX hH hZ isRun_112 d_MC_known_24 ?_
      refine lv_iload_n hx hb d_MC_known_27 rfl (lv_at hl 1 rfl) ?_
      refine lv_iload_n hx hb d_MC_known_28 rfl (lv_at hl 2 rfl) ?_
      refine q_cSi (As := [.int x1, .int x2]) (rest := [.ref (Z.2.2.1 122)]) S hX hH (c_MC_cellOf l hI M x1 x2 rfl) (cw_MC_186 S.2.2.2.2 (Nat.le_trans (Nat.le_of_ble_eq_true rfl) hR.1) (Nat.le_trans (Nat.le_of_ble_eq_true rfl) hR.2)) rfl hl.1 rfl (Nat.le_of_ble_eq_true rfl) d_MC_known_29 ⟨Nat.zero_le _, Nat.zero_le _⟩ (fun H locs hH => ?_)
      obtain ⟨hn1, hf0⟩ := o_in hf0
      refine q_iald (j := (f_MC_cellOf x1 x2).toNatClampNeg) hx hb hX hH (aa_Run_10 hZ isRun_112) hn1 rfl d_MC_known_32 ?_
      refine lv_istore_n (lv' := [(3, .int (M 122 (f_MC_cellOf x1 x2).toNatClampNeg)), (0, .ref (Z.2.2.1 138)), (1, .int x1), (2, .int x2)]) hx hb d_MC_known_33 rfl hl (by decide) rfl (fun ls hl => ?_)
      refine lv_iload_n hx hb d_MC_known_34 rfl (lv_at hl 0 rfl) ?_
      refine lv_bipush (v := (99 : Int32)) hx hb d_MC_known_35 (by decide) ?_
      refine lv_icmp_ne (tgt := 45) hx hb d_MC_known_37 (by decide) (fun hc => ?_) (fun hc => ?_)
      · replace hf0 := o_f hc hf0
        refine lv_iload_n hx hb d_MC_known_45 rfl (lv_at hl 0 rfl) ?_
        obtain rfl := o_v hf0
        exact hQ _ _ _ _ hH d_MC_known_46
      · replace hf0 := o_t hc hf0
        refine lv_bipush (v := (-2 : Int32)) hx hb d_MC_known_40 (by decide) ?_
        refine lv_goto (tgt := 46) hx hb d_MC_known_42 (by decide) ?_
        obtain rfl := o_v hf0
        exact hQ _ _ _ _ hH d_MC_known_46
    · replace hf0 := o_t hc hf0
      refine lv_iconst (v := (-1 : Int32)) hx hb d_MC_known_18 (by decide) ?_
      obtain rfl := o_v hf0
      exact hQ _ _ _ _ hH d_MC_known_19
theorem c_MC_known (l : Launch) {Z : WD} (hI : wI Z) (hZ : IsC Z) (M : Mem) (x1 : Int32) (x2 : Int32) {r : Int32} (hf : f_MC_known M x1 x2 = some r) : Ci l Z y_MC_known b_MC_known 4 (some .int) 1 21 [.ref (Z.2.2.1 138), .int x1, .int x2] M M r := by
  refine Met.ofW (cc := b_MC_known) (maxL := 4) (ret := (some .int)) (by decide) rfl ?_
  intro p e s m args below meth c s₁ B hml hv
  obtain ⟨rfl, hP, hX⟩ := hv
  have S : CallFix p m c b_MC_known 4 s ([.ref (Z.2.2.1 138), .int x1, .int x2] : List Value).toArray gtb R_MC := ⟨B.exec, B.bytes, hml, findClass_of_methodNamed B.named, fun w hw => atoms_spec (ws := .code y_MC_known b_MC_known 4 (some .int) :: gtb) B.pre w (List.mem_cons_of_mem _ hw)⟩
  have hl := lv_entry ([.ref (Z.2.2.1 138), .int x1, .int x2]) (n := 4) (Nat.le_of_ble_eq_true rfl)
  rw [lg_entry_eq]
  exact wk_MC_known hI hZ M x1 x2 S hX ⟨Nat.le_refl _, Nat.le_refl _⟩ (fun pc H locs ls hH d => q_ri S.1 S.2.1 B.returns B.notSynchronized hH rfl rfl d) hf ⟨hP, va_S.rf⟩ hl
theorem cw_MC_264 {R : Room} {s : State} {args : Array Value} (ht : ∀ w ∈ gtb, w.before args s = true) (h1 : 2 + 1 ≤ R.frames) (h2 : 8 + (4 + 11) + 41 ≤ R.locals) : CallW R s args R_MC R_Run 264 y_Run_bitsOf b_Run_bitsOf 4 (some .int) (.code y_Run_bitsOf b_Run_bitsOf 4 (some .int) :: gtb) { frames := 2, cells := 0, slots := 0, locals := 41 } 0 0 1 := cwV 1 ht (gV w4_61 w4_62 w4_63 w1_4 w4_64) rfl rfl rfl ⟨rfl, by decide, by decide, by decide +kernel⟩ ⟨h1, h2⟩
theorem cw_MC_261 {R : Room} {s : State} {args : Array Value} (ht : ∀ w ∈ gtb, w.before args s = true) (h1 : 2 + 1 ≤ R.frames) (h2 : 8 + (3 + 11) + 41 ≤ R.locals) : CallW R s args R_MC R_Run 261 y_Run_greatestBits b_Run_greatestBits 3 (some .int) (.code y_Run_greatestBits b_Run_greatestBits 3 (some .int) :: gtb) { frames := 2, cells := 0, slots := 0, locals := 41 } 0 0 0 := cwV 0 ht (gV w4_52 w4_53 w4_54 w1_4 w4_55) rfl rfl rfl ⟨rfl, by decide, by decide, by decide +kernel⟩ ⟨h1, h2⟩
noncomputable def f_MC_bits (M : Mem) (x1 : Int32) : Option Int32 := 
    if (M 0 0) = 0 then some (-1 : Int32) else 
    if (bI (f_MC_isRoundOrNone x1)) = 0 then some (-1 : Int32) else 
    if x1 = (-1 : Int32) then bnd (f_Run_greatestBits 112 M) (fun y4 => some y4) else bnd (f_Run_bitsOf 112 M x1) (fun y2 => some y2)
set_option maxHeartbeats 4000000 in
theorem wk_MC_bits {l : Launch} {Z : WD} (hI : wI Z) (hZ : IsC Z) (M : Mem) (x1 : Int32) {r : Int32} {p : Program} {e : Env} {R : Room} {s : State} {m : MethodId} {args : Array Value} {below : List Frame} {meth : Method} {c : Code} {H : Heap} {locs : List Loc} {ls : Array Slot} {Q : State → Prop} (S : CallFix p m c b_MC_bits 2 s args gtb R_MC) (hX : wX Z s) (hR : 3 ≤ R.frames ∧ 64 ≤ R.locals) (hQ : ∀ (pc : Nat) (H : Heap) (locs : List Loc) (ls : Array Slot), HW Z M s H locs → decode b_MC_bits pc = .ok (.ireturn, 1) → W p l e R s m args below meth c H locs 0 0 Q (F0 m pc ls [.int r])) (hf0 : f_MC_bits M x1 = some r) (hH : HW Z M s H locs) (hl : lv_has ls 2 [(0, .ref (Z.2.2.1 138)), (1, .int x1)]) : W p l e R s m args below meth c H locs 0 0 Q (F0 m 0 ls []) := by
  have hx := S.1
  have hb := S.2.1
  have hown := S.2.2.2.1
  have ht := S.2.2.2.2
  unfold f_MC_bits at hf0
  refine lv_aload_n hx hb d_MC_bits_0 rfl (lv_at hl 0 rfl) ?_
  refine g_MC_10 S hX hH hZ d_MC_bits_1 ?_
  refine g_MC_71 S hX hH hZ isPlay_0 d_MC_bits_4 ?_
  refine lv_if_eq (tgt := 17) hx hb d_MC_bits_7 (by decide) (fun hc => ?_) (fun hc => ?_)
  · replace hf0 := o_t hc hf0
    refine lv_iconst (v := (-1 : Int32)) hx hb d_MC_bits_17 (by decide) ?_
    obtain rfl := o_v hf0
    exact hQ _ _ _ _ hH d_MC_bits_18
  · replace hf0 := o_f hc hf0
    refine lv_iload_n hx hb d_MC_bits_10 rfl (lv_at hl 1 rfl) ?_
    refine q_cSi (As := [.int x1]) (rest := []) S hX hH (c_MC_isRoundOrNone l hI M x1 rfl) (cw_MC_246 S.2.2.2.2 (Nat.le_trans (Nat.le_of_ble_eq_true rfl) hR.1) (Nat.le_trans (Nat.le_of_ble_eq_true rfl) hR.2)) rfl hl.1 rfl (Nat.le_of_ble_eq_true rfl) d_MC_bits_11 ⟨Nat.zero_le _, Nat.zero_le _⟩ (fun H locs hH => ?_)
    refine lv_if_ne (tgt := 19) hx hb d_MC_bits_14 (by decide) (fun hc => ?_) (fun hc => ?_)
    · replace hf0 := o_f hc hf0
      refine lv_iload_n hx hb d_MC_bits_19 rfl (lv_at hl 1 rfl) ?_
      refine lv_iconst (v := (-1 : Int32)) hx hb d_MC_bits_20 (by decide) ?_
      refine lv_icmp_ne (tgt := 34) hx hb d_MC_bits_21 (by decide) (fun hc => ?_) (fun hc => ?_)
      · replace hf0 := o_f hc hf0
        refine lv_aload_n hx hb d_MC_bits_34 rfl (lv_at hl 0 rfl) ?_
        refine g_MC_28 S hX hH hZ d_MC_bits_35 ?_
        refine lv_iload_n hx hb d_MC_bits_38 rfl (lv_at hl 1 rfl) ?_
        obtain ⟨y2, hc1, hf0⟩ := o_b hf0
        refine q_cVi (As := [.int x1]) (rest := []) S hX hH (c_Run_bitsOf l hI hZ 112 M x1 isRun_112 hc1) (cw_MC_264 S.2.2.2.2 (Nat.le_trans (Nat.le_of_ble_eq_true rfl) hR.1) (Nat.le_trans (Nat.le_of_ble_eq_true rfl) hR.2)) (rc_Run hX hH hZ isRun_112) rfl hl.1 rfl (Nat.le_of_ble_eq_true rfl) d_MC_bits_39 ⟨Nat.zero_le _, Nat.zero_le _⟩ (fun H locs hH => ?_)
        obtain rfl := o_v hf0
        exact hQ _ _ _ _ hH d_MC_bits_42
      · replace hf0 := o_t hc hf0
        refine lv_aload_n hx hb d_MC_bits_24 rfl (lv_at hl 0 rfl) ?_
        refine g_MC_28 S hX hH hZ d_MC_bits_25 ?_
        obtain ⟨y4, hc3, hf0⟩ := o_b hf0
        refine q_cVi (As := []) (rest := []) S hX hH (c_Run_greatestBits l hI hZ 112 M isRun_112 hc3) (cw_MC_261 S.2.2.2.2 (Nat.le_trans (Nat.le_of_ble_eq_true rfl) hR.1) (Nat.le_trans (Nat.le_of_ble_eq_true rfl) hR.2)) (rc_Run hX hH hZ isRun_112) rfl hl.1 rfl (Nat.le_of_ble_eq_true rfl) d_MC_bits_28 ⟨Nat.zero_le _, Nat.zero_le _⟩ (fun H locs hH => ?_)
        refine lv_goto (tgt := 42) hx hb d_MC_bits_31 (by decide) ?_
        obtain rfl := o_v hf0
        exact hQ _ _ _ _ hH d_MC_bits_42
    · replace hf0 := o_t hc hf0
      refine lv_iconst (v := (-1 : Int32)) hx hb d_MC_bits_17 (by decide) ?_
      obtain rfl := o_v hf0
      exact hQ _ _ _ _ hH d_MC_bits_18
theorem c_MC_bits (l : Launch) {Z : WD} (hI : wI Z) (hZ : IsC Z) (M : Mem) (x1 : Int32) {r : Int32} (hf : f_MC_bits M x1 = some r) : Ci l Z y_MC_bits b_MC_bits 2 (some .int) 3 64 [.ref (Z.2.2.1 138), .int x1] M M r := by
  refine Met.ofW (cc := b_MC_bits) (maxL := 2) (ret := (some .int)) (by decide) rfl ?_
  intro p e s m args below meth c s₁ B hml hv
  obtain ⟨rfl, hP, hX⟩ := hv
  have S : CallFix p m c b_MC_bits 2 s ([.ref (Z.2.2.1 138), .int x1] : List Value).toArray gtb R_MC := ⟨B.exec, B.bytes, hml, findClass_of_methodNamed B.named, fun w hw => atoms_spec (ws := .code y_MC_bits b_MC_bits 2 (some .int) :: gtb) B.pre w (List.mem_cons_of_mem _ hw)⟩
  have hl := lv_entry ([.ref (Z.2.2.1 138), .int x1]) (n := 2) (Nat.le_of_ble_eq_true rfl)
  rw [lg_entry_eq]
  exact wk_MC_bits hI hZ M x1 S hX ⟨Nat.le_refl _, Nat.le_refl _⟩ (fun pc H locs ls hH d => q_ri S.1 S.2.1 B.returns B.notSynchronized hH rfl rfl d) hf ⟨hP, va_S.rf⟩ hl
theorem cw_MC_270 {R : Room} {s : State} {args : Array Value} (ht : ∀ w ∈ gtb, w.before args s = true) (h1 : 1 + 1 ≤ R.frames) (h2 : 8 + (5 + 11) + 20 ≤ R.locals) : CallW R s args R_MC R_Run 270 y_Run_loadOf b_Run_loadOf 5 (some .int) (.code y_Run_loadOf b_Run_loadOf 5 (some .int) :: gtb) { frames := 1, cells := 0, slots := 0, locals := 20 } 0 0 2 := cwV 2 ht (gV w4_77 w4_74 w4_75 w1_4 w4_76) rfl rfl rfl ⟨rfl, by decide, by decide, by decide +kernel⟩ ⟨h1, h2⟩
theorem cw_MC_267 {R : Room} {s : State} {args : Array Value} (ht : ∀ w ∈ gtb, w.before args s = true) (h1 : 2 + 1 ≤ R.frames) (h2 : 8 + (4 + 11) + 44 ≤ R.locals) : CallW R s args R_MC R_Run 267 y_Run_greatestLoad b_Run_greatestLoad 4 (some .int) (.code y_Run_greatestLoad b_Run_greatestLoad 4 (some .int) :: gtb) { frames := 2, cells := 0, slots := 0, locals := 44 } 0 0 0 := cwV 0 ht (gV w4_69 w4_70 w4_71 w1_4 w4_72) rfl rfl rfl ⟨rfl, by decide, by decide, by decide +kernel⟩ ⟨h1, h2⟩
noncomputable def f_MC_load (M : Mem) (x1 : Int32) (x2 : Int32) : Option Int32 := 
    if (M 0 0) = 0 then some (-1 : Int32) else 
    if x1 = (-1 : Int32) then bnd (f_Run_greatestLoad 112 M) (fun y4 => some y4) else 
    if (bI (f_Play_hasParty 0 M x1)) = 0 then some (-1 : Int32) else 
    if (bI (f_Play_hasParty 0 M x2)) = 0 then some (-1 : Int32) else if x1 = x2 then some (-1 : Int32) else bnd (f_Run_loadOf 112 M x1 x2) (fun y2 => some y2)
set_option maxHeartbeats 4000000 in
theorem wk_MC_load {l : Launch} {Z : WD} (hI : wI Z) (hZ : IsC Z) (M : Mem) (x1 : Int32) (x2 : Int32) {r : Int32} {p : Program} {e : Env} {R : Room} {s : State} {m : MethodId} {args : Array Value} {below : List Frame} {meth : Method} {c : Code} {H : Heap} {locs : List Loc} {ls : Array Slot} {Q : State → Prop} (S : CallFix p m c b_MC_load 3 s args gtb R_MC) (hX : wX Z s) (hR : 3 ≤ R.frames ∧ 67 ≤ R.locals) (hQ : ∀ (pc : Nat) (H : Heap) (locs : List Loc) (ls : Array Slot), HW Z M s H locs → decode b_MC_load pc = .ok (.ireturn, 1) → W p l e R s m args below meth c H locs 0 0 Q (F0 m pc ls [.int r])) (hf0 : f_MC_load M x1 x2 = some r) (hH : HW Z M s H locs) (hl : lv_has ls 3 [(0, .ref (Z.2.2.1 138)), (1, .int x1), (2, .int x2)]) : W p l e R s m args below meth c H locs 0 0 Q (F0 m 0 ls []) := by
  have hx := S.1
  have hb := S.2.1
  have hown := S.2.2.2.1
  have ht := S.2.2.2.2
  unfold f_MC_load at hf0
  refine lv_aload_n hx hb d_MC_load_0 rfl (lv_at hl 0 rfl) ?_
  refine g_MC_10 S hX hH hZ d_MC_load_1 ?_
  refine g_MC_71 S hX hH hZ isPlay_0 d_MC_load_4 ?_
  refine lv_if_ne (tgt := 12) hx hb d_MC_load_7 (by decide) (fun hc => ?_) (fun hc => ?_)
  · replace hf0 := o_f hc hf0
    refine lv_iload_n hx hb d_MC_load_12 rfl (lv_at hl 1 rfl) ?_
    refine lv_iconst (v := (-1 : Int32)) hx hb d_MC_load_13 (by decide) ?_
    refine lv_icmp_ne (tgt := 25) hx hb d_MC_load_14 (by decide) (fun hc => ?_) (fun hc => ?_)
    · replace hf0 := o_f hc hf0
      refine lv_aload_n hx hb d_MC_load_25 rfl (lv_at hl 0 rfl) ?_
      refine g_MC_10 S hX hH hZ d_MC_load_26 ?_
      refine lv_iload_n hx hb d_MC_load_29 rfl (lv_at hl 1 rfl) ?_
      refine q_cVi (As := [.int x1]) (rest := []) S hX hH (c_Play_hasParty l hI hZ 0 M x1 isPlay_0 rfl) (cw_MC_85 S.2.2.2.2 (Nat.le_trans (Nat.le_of_ble_eq_true rfl) hR.1) (Nat.le_trans (Nat.le_of_ble_eq_true rfl) hR.2)) (rc_Play hX hH hZ isPlay_0) rfl hl.1 rfl (Nat.le_of_ble_eq_true rfl) d_MC_load_30 ⟨Nat.zero_le _, Nat.zero_le _⟩ (fun H locs hH => ?_)
      refine lv_if_eq (tgt := 52) hx hb d_MC_load_33 (by decide) (fun hc => ?_) (fun hc => ?_)
      · replace hf0 := o_t hc hf0
        refine lv_iconst (v := (-1 : Int32)) hx hb d_MC_load_52 (by decide) ?_
        obtain rfl := o_v hf0
        exact hQ _ _ _ _ hH d_MC_load_53
      · replace hf0 := o_f hc hf0
        refine lv_aload_n hx hb d_MC_load_36 rfl (lv_at hl 0 rfl) ?_
        refine g_MC_10 S hX hH hZ d_MC_load_37 ?_
        refine lv_iload_n hx hb d_MC_load_40 rfl (lv_at hl 2 rfl) ?_
        refine q_cVi (As := [.int x2]) (rest := []) S hX hH (c_Play_hasParty l hI hZ 0 M x2 isPlay_0 rfl) (cw_MC_85 S.2.2.2.2 (Nat.le_trans (Nat.le_of_ble_eq_true rfl) hR.1) (Nat.le_trans (Nat.le_of_ble_eq_true rfl) hR.2)) (rc_Play hX hH hZ isPlay_0) rfl hl.1 rfl (Nat.le_of_ble_eq_true rfl) d_MC_load_41 ⟨Nat.zero_le _, Nat.zero_le _⟩ (fun H locs hH => ?_)
        refine lv_if_eq (tgt := 52) hx hb d_MC_load_44 (by decide) (fun hc => ?_) (fun hc => ?_)
        · replace hf0 := o_t hc hf0
          refine lv_iconst (v := (-1 : Int32)) hx hb d_MC_load_52 (by decide) ?_
          obtain rfl := o_v hf0
          exact hQ _ _ _ _ hH d_MC_load_53
        · replace hf0 := o_f hc hf0
          refine lv_iload_n hx hb d_MC_load_47 rfl (lv_at hl 1 rfl) ?_
          refine lv_iload_n hx hb d_MC_load_48 rfl (lv_at hl 2 rfl) ?_
          refine lv_icmp_ne (tgt := 54) hx hb d_MC_load_49 (by decide) (fun hc => ?_) (fun hc => ?_)
          · replace hf0 := o_f hc hf0
            refine lv_aload_n hx hb d_MC_load_54 rfl (lv_at hl 0 rfl) ?_
            refine g_MC_28 S hX hH hZ d_MC_load_55 ?_
            refine lv_iload_n hx hb d_MC_load_58 rfl (lv_at hl 1 rfl) ?_
            refine lv_iload_n hx hb d_MC_load_59 rfl (lv_at hl 2 rfl) ?_
            obtain ⟨y2, hc1, hf0⟩ := o_b hf0
            refine q_cVi (As := [.int x1, .int x2]) (rest := []) S hX hH (c_Run_loadOf l hI hZ 112 M x1 x2 isRun_112 hc1) (cw_MC_270 S.2.2.2.2 (Nat.le_trans (Nat.le_of_ble_eq_true rfl) hR.1) (Nat.le_trans (Nat.le_of_ble_eq_true rfl) hR.2)) (rc_Run hX hH hZ isRun_112) rfl hl.1 rfl (Nat.le_of_ble_eq_true rfl) d_MC_load_60 ⟨Nat.zero_le _, Nat.zero_le _⟩ (fun H locs hH => ?_)
            obtain rfl := o_v hf0
            exact hQ _ _ _ _ hH d_MC_load_63
          · replace hf0 := o_t hc hf0
            refine lv_iconst (v := (-1 : Int32)) hx hb d_MC_load_52 (by decide) ?_
            obtain rfl := o_v hf0
            exact hQ _ _ _ _ hH d_MC_load_53
    · replace hf0 := o_t hc hf0
      refine lv_aload_n hx hb d_MC_load_17 rfl (lv_at hl 0 rfl) ?_
      refine g_MC_28 S hX hH hZ d_MC_load_18 ?_
      obtain ⟨y4, hc3, hf0⟩ := o_b hf0
      refine q_cVi (As := []) (rest := []) S hX hH (c_Run_greatestLoad l hI hZ 112 M isRun_112 hc3) (cw_MC_267 S.2.2.2.2 (Nat.le_trans (Nat.le_of_ble_eq_true rfl) hR.1) (Nat.le_trans (Nat.le_of_ble_eq_true rfl) hR.2)) (rc_Run hX hH hZ isRun_112) rfl hl.1 rfl (Nat.le_of_ble_eq_true rfl) d_MC_load_21 ⟨Nat.zero_le _, Nat.zero_le _⟩ (fun H locs hH => ?_)
      obtain rfl := o_v hf0
      exact hQ _ _ _ _ hH d_MC_load_24
  · replace hf0 := o_t hc hf0
    refine lv_iconst (v := (-1 : Int32)) hx hb d_MC_load_10 (by decide) ?_
    obtain rfl := o_v hf0
    exact hQ _ _ _ _ hH d_MC_load_11
theorem c_MC_load (l : Launch) {Z : WD} (hI : wI Z) (hZ : IsC Z) (M : Mem) (x1 : Int32) (x2 : Int32) {r : Int32} (hf : f_MC_load M x1 x2 = some r) : Ci l Z y_MC_load b_MC_load 3 (some .int) 3 67 [.ref (Z.2.2.1 138), .int x1, .int x2] M M r := by
  refine Met.ofW (cc := b_MC_load) (maxL := 3) (ret := (some .int)) (by decide) rfl ?_
  intro p e s m args below meth c s₁ B hml hv
  obtain ⟨rfl, hP, hX⟩ := hv
  have S : CallFix p m c b_MC_load 3 s ([.ref (Z.2.2.1 138), .int x1, .int x2] : List Value).toArray gtb R_MC := ⟨B.exec, B.bytes, hml, findClass_of_methodNamed B.named, fun w hw => atoms_spec (ws := .code y_MC_load b_MC_load 3 (some .int) :: gtb) B.pre w (List.mem_cons_of_mem _ hw)⟩
  have hl := lv_entry ([.ref (Z.2.2.1 138), .int x1, .int x2]) (n := 3) (Nat.le_of_ble_eq_true rfl)
  rw [lg_entry_eq]
  exact wk_MC_load hI hZ M x1 x2 S hX ⟨Nat.le_refl _, Nat.le_refl _⟩ (fun pc H locs ls hH d => q_ri S.1 S.2.1 B.returns B.notSynchronized hH rfl rfl d) hf ⟨hP, va_S.rf⟩ hl
theorem cw_MC_273 {R : Room} {s : State} {args : Array Value} (ht : ∀ w ∈ gtb, w.before args s = true) (h1 : 2 + 1 ≤ R.frames) (h2 : 8 + (3 + 11) + 40 ≤ R.locals) : CallW R s args R_MC R_Play 273 y_Play_soundParties b_Play_soundParties 3 (some .int) (.code y_Play_soundParties b_Play_soundParties 3 (some .int) :: gtb) { frames := 2, cells := 0, slots := 0, locals := 40 } 0 0 0 := cwV 0 ht (gV w4_82 w4_83 w4_84 w1_2 w4_85) rfl rfl rfl ⟨rfl, by decide, by decide, by decide +kernel⟩ ⟨h1, h2⟩
theorem cw_MC_276 {R : Room} {s : State} {args : Array Value} (ht : ∀ w ∈ gtb, w.before args s = true) (h1 : 3 + 1 ≤ R.frames) (h2 : 8 + (5 + 11) + 65 ≤ R.locals) : CallW R s args R_MC R_Run 276 y_Run_haveOneDecision b_Run_haveOneDecision 5 (some .boolean) (.code y_Run_haveOneDecision b_Run_haveOneDecision 5 (some .boolean) :: gtb) { frames := 3, cells := 0, slots := 0, locals := 65 } 0 0 1 := cwV 1 ht (gV w4_91 w4_92 w4_93 w1_4 w4_94) rfl rfl rfl ⟨rfl, by decide, by decide, by decide +kernel⟩ ⟨h1, h2⟩
noncomputable def f_MC_alike (M : Mem) : Option Int32 := 
    bnd (f_Play_soundParties 0 M) (fun y2 => 
    bnd (f_Run_haveOneDecision 112 M y2) (fun y4 => if (bI y4) = 0 then some (0 : Int32) else some (1 : Int32)))
set_option maxHeartbeats 4000000 in
theorem wk_MC_alike {l : Launch} {Z : WD} (hI : wI Z) (hZ : IsC Z) (M : Mem) {r : Int32} {p : Program} {e : Env} {R : Room} {s : State} {m : MethodId} {args : Array Value} {below : List Frame} {meth : Method} {c : Code} {H : Heap} {locs : List Loc} {ls : Array Slot} {Q : State → Prop} (S : CallFix p m c b_MC_alike 1 s args gtb R_MC) (hX : wX Z s) (hR : 4 ≤ R.frames ∧ 89 ≤ R.locals) (hQ : ∀ (pc : Nat) (H : Heap) (locs : List Loc) (ls : Array Slot), HW Z M s H locs → decode b_MC_alike pc = .ok (.ireturn, 1) → W p l e R s m args below meth c H locs 0 0 Q (F0 m pc ls [.int r])) (hf0 : f_MC_alike M = some r) (hH : HW Z M s H locs) (hl : lv_has ls 1 [(0, .ref (Z.2.2.1 138))]) : W p l e R s m args below meth c H locs 0 0 Q (F0 m 0 ls []) := by
  have hx := S.1
  have hb := S.2.1
  have hown := S.2.2.2.1
  have ht := S.2.2.2.2
  unfold f_MC_alike at hf0
  refine lv_aload_n hx hb d_MC_alike_0 rfl (lv_at hl 0 rfl) ?_
  refine g_MC_28 S hX hH hZ d_MC_alike_1 ?_
  refine lv_aload_n hx hb d_MC_alike_4 rfl (lv_at hl 0 rfl) ?_
  refine g_MC_10 S hX hH hZ d_MC_alike_5 ?_
  obtain ⟨y2, hc1, hf0⟩ := o_b hf0
  refine q_cVi (As := []) (rest := [.ref (Z.2.2.1 112)]) S hX hH (c_Play_soundParties l hI hZ 0 M isPlay_0 hc1) (cw_MC_273 S.2.2.2.2 (Nat.le_trans (Nat.le_of_ble_eq_true rfl) hR.1) (Nat.le_trans (Nat.le_of_ble_eq_true rfl) hR.2)) (rc_Play hX hH hZ isPlay_0) rfl hl.1 rfl (Nat.le_of_ble_eq_true rfl) d_MC_alike_8 ⟨Nat.zero_le _, Nat.zero_le _⟩ (fun H locs hH => ?_)
  obtain ⟨y4, hc3, hf0⟩ := o_b hf0
  refine q_cVi (As := [.int y2]) (rest := []) S hX hH (c_Run_haveOneDecision l hI hZ 112 M y2 isRun_112 hc3) (cw_MC_276 S.2.2.2.2 (Nat.le_trans (Nat.le_of_ble_eq_true rfl) hR.1) (Nat.le_trans (Nat.le_of_ble_eq_true rfl) hR.2)) (rc_Run hX hH hZ isRun_112) rfl hl.1 rfl (Nat.le_of_ble_eq_true rfl) d_MC_alike_11 ⟨Nat.zero_le _, Nat.zero_le _⟩ (fun H locs hH => ?_)
  refine lv_if_eq (tgt := 21) hx hb d_MC_alike_14 (by decide) (fun hc => ?_) (fun hc => ?_)
  · replace hf0 := o_t hc hf0
    refine lv_iconst (v := (0 : Int32)) hx hb d_MC_alike_21 (by decide) ?_
    obtain rfl := o_v hf0
    exact hQ _ _ _ _ hH d_MC_alike_22
  · replace hf0 := o_f hc hf0
    refine lv_iconst (v := (1 : Int32)) hx hb d_MC_alike_17 (by decide) ?_
    refine lv_goto (tgt := 22) hx hb d_MC_alike_18 (by decide) ?_
    obtain rfl := o_v hf0
    exact hQ _ _ _ _ hH d_MC_alike_22
theorem c_MC_alike (l : Launch) {Z : WD} (hI : wI Z) (hZ : IsC Z) (M : Mem) {r : Int32} (hf : f_MC_alike M = some r) : Ci l Z y_MC_alike b_MC_alike 1 (some .int) 4 89 [.ref (Z.2.2.1 138)] M M r := by
  refine Met.ofW (cc := b_MC_alike) (maxL := 1) (ret := (some .int)) (by decide) rfl ?_
  intro p e s m args below meth c s₁ B hml hv
  obtain ⟨rfl, hP, hX⟩ := hv
  have S : CallFix p m c b_MC_alike 1 s ([.ref (Z.2.2.1 138)] : List Value).toArray gtb R_MC := ⟨B.exec, B.bytes, hml, findClass_of_methodNamed B.named, fun w hw => atoms_spec (ws := .code y_MC_alike b_MC_alike 1 (some .int) :: gtb) B.pre w (List.mem_cons_of_mem _ hw)⟩
  have hl := lv_entry ([.ref (Z.2.2.1 138)]) (n := 1) (Nat.le_of_ble_eq_true rfl)
  rw [lg_entry_eq]
  exact wk_MC_alike hI hZ M S hX ⟨Nat.le_refl _, Nat.le_refl _⟩ (fun pc H locs ls hH d => q_ri S.1 S.2.1 B.returns B.notSynchronized hH rfl rfl d) hf ⟨hP, va_S.rf⟩ hl
noncomputable def f_MC_valid_J52 (M : Mem) (x1 : Int32) (x2 : Int32) (s0 : Int32) : Option (Int32 ⊕ Int32) := if s0 = 0 then some (.inl (x2 + (1 : Int32))) else 
    bnd (f_Run_decisionOf 112 M x2) (fun y2 => if y2 = (M 1 1) then some (.inl (x2 + (1 : Int32))) else some (.inr (0 : Int32)))
noncomputable def f_MC_valid_L28 (M : Mem) (x1 : Int32) (x2 : Int32) : Option (Int32 ⊕ Int32) := if (M 0 0) ≤ x2 then some (.inr (1 : Int32)) else 
    if ((x1 >>> (x2 &&& 31)) &&& (1 : Int32)) = 0 then f_MC_valid_J52 M x1 x2 (0 : Int32) else f_MC_valid_J52 M x1 x2 (1 : Int32)
noncomputable def f_MC_valid_W28 (M : Mem) (x1 : Int32) (u : Int32) : Option Int32 := loop (fun t => f_MC_valid_L28 M x1 t) u
noncomputable def f_MC_valid_J28 (M : Mem) (x1 : Int32) (x2 : Int32) : Option (Int32) := bnd (f_MC_valid_W28 M x1 x2) (fun e28 => some e28)
noncomputable def f_MC_valid (M : Mem) : Option Int32 := 
    bnd (f_Play_soundParties 0 M) (fun y4 => 
    if ((y4 >>> ((M 1 0) &&& 31)) &&& (1 : Int32)) = 0 then some (1 : Int32) else f_MC_valid_J28 M y4 (0 : Int32))
set_option maxHeartbeats 4000000 in
theorem wk_MC_valid {l : Launch} {Z : WD} (hI : wI Z) (hZ : IsC Z) (M : Mem) {r : Int32} {p : Program} {e : Env} {R : Room} {s : State} {m : MethodId} {args : Array Value} {below : List Frame} {meth : Method} {c : Code} {H : Heap} {locs : List Loc} {ls : Array Slot} {Q : State → Prop} (S : CallFix p m c b_MC_valid 4 s args gtb R_MC) (hX : wX Z s) (hR : 3 ≤ R.frames ∧ 65 ≤ R.locals) (hQ : ∀ (pc : Nat) (H : Heap) (locs : List Loc) (ls : Array Slot), HW Z M s H locs → decode b_MC_valid pc = .ok (.ireturn, 1) → W p l e R s m args below meth c H locs 0 0 Q (F0 m pc ls [.int r])) (hf0 : f_MC_valid M = some r) (hH : HW Z M s H locs) (hl : lv_has ls 4 [(0, .ref (Z.2.2.1 138))]) : W p l e R s m args below meth c H locs 0 0 Q (F0 m 0 ls []) := by
  have hx := S.1
  have hb := S.2.1
  have hown := S.2.2.2.1
  have ht := S.2.2.2.2
  unfold f_MC_valid at hf0
  have J28 : ∀ (x1 : Int32) (x2 : Int32) (H : Heap) (locs : List Loc) (ls : Array Slot), f_MC_valid_J28 M x1 x2 = some r → HW Z M s H locs → lv_has ls 4 [(0, .ref (Z.2.2.1 138)), (1, .int x1), (2, .int x2)] → W p l e R s m args below meth c H locs 0 0 Q (F0 m 28 ls []) := by
    intro x1 x2 H locs ls hf0 hH hl
    unfold f_MC_valid_J28 at hf0
    obtain ⟨e28, he28, hf0⟩ := o_b hf0
    unfold f_MC_valid_W28 at he28
    refine loop_W (fun t => ∀ (H : Heap) (locs : List Loc) (ls : Array Slot), HW Z M s H locs → lv_has ls 4 [(0, .ref (Z.2.2.1 138)), (1, .int x1), (2, .int t)] → W p l e R s m args below meth c H locs 0 0 Q (F0 m 28 ls [])) ?_ he28 H locs ls hH hl
    rintro x2 o1 hf1 hG1 hR1 H locs ls hH hl
    replace hH : HW Z M s H locs := hH
    replace hl : lv_has ls 4 [(0, .ref (Z.2.2.1 138)), (1, .int x1), (2, .int x2)] := hl
    replace hf1 : f_MC_valid_L28 M x1 x2 = some o1 := hf1
    unfold f_MC_valid_L28 at hf1
    have J52 : ∀ (x2 : Int32) (s0 : Int32) (H : Heap) (locs : List Loc) (ls : Array Slot), f_MC_valid_J52 M x1 x2 s0 = some o1 → HW Z M s H locs → lv_has ls 4 [(0, .ref (Z.2.2.1 138)), (1, .int x1), (2, .int x2)] → W p l e R s m args below meth c H locs 0 0 Q (F0 m 52 ls [.int s0]) := by
      intro x2 s0 H locs ls hf1 hH hl
      unfold f_MC_valid_J52 at hf1
      refine lv_istore_n (lv' := [(3, .int s0), (0, .ref (Z.2.2.1 138)), (1, .int x1), (2, .int x2)]) hx hb d_MC_valid_52 rfl hl (by decide) rfl (fun ls hl => ?_)
      refine lv_iload_n hx hb d_MC_valid_53 rfl (lv_at hl 0 rfl) ?_
      refine lv_if_eq (tgt := 79) hx hb d_MC_valid_54 (by decide) (fun hc => ?_) (fun hc => ?_)
      · replace hf1 := o_t hc hf1
        refine lv_iinc (v := x2 + (1 : Int32)) (lv' := [(2, .int (x2 + (1 : Int32))), (3, .int s0), (0, .ref (Z.2.2.1 138)), (1, .int x1)]) hx hb d_MC_valid_79 hl (k := 3) rfl rfl (by decide) rfl (fun ls hl => ?_)
        refine lv_goto (tgt := 28) hx hb d_MC_valid_82 (by decide) ?_
        exact hG1 _ (o_v hf1).symm _ _ _ hH (lv_sub hl [2, 3, 0] rfl)
      · replace hf1 := o_f hc hf1
        refine lv_aload_n hx hb d_MC_valid_57 rfl (lv_at hl 1 rfl) ?_
        refine g_MC_28 S hX hH hZ d_MC_valid_58 ?_
        refine lv_iload_n hx hb d_MC_valid_61 rfl (lv_at hl 3 rfl) ?_
        obtain ⟨y2, hc1, hf1⟩ := o_b hf1
        refine q_cVi (As := [.int x2]) (rest := []) S hX hH (c_Run_decisionOf l hI hZ 112 M x2 isRun_112 hc1) (cw_MC_183 S.2.2.2.2 (Nat.le_trans (Nat.le_of_ble_eq_true rfl) hR.1) (Nat.le_trans (Nat.le_of_ble_eq_true rfl) hR.2)) (rc_Run hX hH hZ isRun_112) rfl hl.1 rfl (Nat.le_of_ble_eq_true rfl) d_MC_valid_62 ⟨Nat.zero_le _, Nat.zero_le _⟩ (fun H locs hH => ?_)
        refine lv_aload_n hx hb d_MC_valid_65 rfl (lv_at hl 1 rfl) ?_
        refine g_MC_10 S hX hH hZ d_MC_valid_66 ?_
        refine g_MC_78 S hX hH hZ isPlay_0 d_MC_valid_69 ?_
        refine lv_iconst (v := (1 : Int32)) hx hb d_MC_valid_72 (by decide) ?_
        refine q_iald (j := 1) hx hb hX hH (aa_Play_1 hZ isPlay_0) (vp_c (by decide)) (by decide) d_MC_valid_73 ?_
        refine lv_icmp_eq (tgt := 79) hx hb d_MC_valid_74 (by decide) (fun hc => ?_) (fun hc => ?_)
        · replace hf1 := o_t hc hf1
          refine lv_iinc (v := x2 + (1 : Int32)) (lv' := [(2, .int (x2 + (1 : Int32))), (3, .int s0), (0, .ref (Z.2.2.1 138)), (1, .int x1)]) hx hb d_MC_valid_79 hl (k := 3) rfl rfl (by decide) rfl (fun ls hl => ?_)
          refine lv_goto (tgt := 28) hx hb d_MC_valid_82 (by decide) ?_
          exact hG1 _ (o_v hf1).symm _ _ _ hH (lv_sub hl [2, 3, 0] rfl)
        · replace hf1 := o_f hc hf1
          refine lv_iconst (v := (0 : Int32)) hx hb d_MC_valid_77 (by decide) ?_
          obtain rfl := hR1 _ (o_v hf1).symm
          obtain rfl := o_v hf0
          exact hQ _ _ _ _ hH d_MC_valid_78
    refine lv_iload_n hx hb d_MC_valid_28 rfl (lv_at hl 2 rfl) ?_
    refine lv_aload_n hx hb d_MC_valid_29 rfl (lv_at hl 0 rfl) ?_
    refine g_MC_10 S hX hH hZ d_MC_valid_30 ?_
    refine g_MC_71 S hX hH hZ isPlay_0 d_MC_valid_33 ?_
    refine lv_icmp_ge (tgt := 85) hx hb d_MC_valid_36 (by decide) (fun hc => ?_) (fun hc => ?_)
    · replace hf1 := o_t hc hf1
      refine lv_iconst (v := (1 : Int32)) hx hb d_MC_valid_85 (by decide) ?_
      obtain rfl := hR1 _ (o_v hf1).symm
      obtain rfl := o_v hf0
      exact hQ _ _ _ _ hH d_MC_valid_86
    · replace hf1 := o_f hc hf1
      refine lv_iload_n hx hb d_MC_valid_39 rfl (lv_at hl 1 rfl) ?_
      refine lv_iload_n hx hb d_MC_valid_40 rfl (lv_at hl 2 rfl) ?_
      refine lv_ishr hx hb d_MC_valid_41 ?_
      refine lv_iconst (v := (1 : Int32)) hx hb d_MC_valid_42 (by decide) ?_
      refine lv_iand hx hb d_MC_valid_43 ?_
      refine lv_if_eq (tgt := 51) hx hb d_MC_valid_44 (by decide) (fun hc => ?_) (fun hc => ?_)
      · replace hf1 := o_t hc hf1
        refine lv_iconst (v := (0 : Int32)) hx hb d_MC_valid_51 (by decide) ?_
        exact J52 _ _ _ _ _ hf1 hH (lv_sub hl [0, 1, 2] rfl)
      · replace hf1 := o_f hc hf1
        refine lv_iconst (v := (1 : Int32)) hx hb d_MC_valid_47 (by decide) ?_
        refine lv_goto (tgt := 52) hx hb d_MC_valid_48 (by decide) ?_
        exact J52 _ _ _ _ _ hf1 hH (lv_sub hl [0, 1, 2] rfl)
  refine lv_aload_n hx hb d_MC_valid_0 rfl (lv_at hl 0 rfl) ?_
  refine g_MC_10 S hX hH hZ d_MC_valid_1 ?_
  obtain ⟨y4, hc3, hf0⟩ := o_b hf0
  refine q_cVi (As := []) (rest := []) S hX hH (c_Play_soundParties l hI hZ 0 M isPlay_0 hc3) (cw_MC_273 S.2.2.2.2 (Nat.le_trans (Nat.le_of_ble_eq_true rfl) hR.1) (Nat.le_trans (Nat.le_of_ble_eq_true rfl) hR.2)) (rc_Play hX hH hZ isPlay_0) rfl hl.1 rfl (Nat.le_of_ble_eq_true rfl) d_MC_valid_4 ⟨Nat.zero_le _, Nat.zero_le _⟩ (fun H locs hH => ?_)
  refine lv_istore_n (lv' := [(1, .int y4), (0, .ref (Z.2.2.1 138))]) hx hb d_MC_valid_7 rfl hl (by decide) rfl (fun ls hl => ?_)
  refine lv_iload_n hx hb d_MC_valid_8 rfl (lv_at hl 0 rfl) ?_
  refine lv_aload_n hx hb d_MC_valid_9 rfl (lv_at hl 1 rfl) ?_
  refine g_MC_10 S hX hH hZ d_MC_valid_10 ?_
  refine g_MC_78 S hX hH hZ isPlay_0 d_MC_valid_13 ?_
  refine lv_iconst (v := (0 : Int32)) hx hb d_MC_valid_16 (by decide) ?_
  refine q_iald (j := 0) hx hb hX hH (aa_Play_1 hZ isPlay_0) (vp_c (by decide)) (by decide) d_MC_valid_17 ?_
  refine lv_ishr hx hb d_MC_valid_18 ?_
  refine lv_iconst (v := (1 : Int32)) hx hb d_MC_valid_19 (by decide) ?_
  refine lv_iand hx hb d_MC_valid_20 ?_
  refine lv_if_ne (tgt := 26) hx hb d_MC_valid_21 (by decide) (fun hc => ?_) (fun hc => ?_)
  · replace hf0 := o_f hc hf0
    refine lv_iconst (v := (0 : Int32)) hx hb d_MC_valid_26 (by decide) ?_
    refine lv_istore_n (lv' := [(2, .int (0 : Int32)), (1, .int y4), (0, .ref (Z.2.2.1 138))]) hx hb d_MC_valid_27 rfl hl (by decide) rfl (fun ls hl => ?_)
    exact J28 _ _ _ _ _ hf0 hH (lv_sub hl [2, 1, 0] rfl)
  · replace hf0 := o_t hc hf0
    refine lv_iconst (v := (1 : Int32)) hx hb d_MC_valid_24 (by decide) ?_
    obtain rfl := o_v hf0
    exact hQ _ _ _ _ hH d_MC_valid_25
theorem c_MC_valid (l : Launch) {Z : WD} (hI : wI Z) (hZ : IsC Z) (M : Mem) {r : Int32} (hf : f_MC_valid M = some r) : Ci l Z y_MC_valid b_MC_valid 4 (some .int) 3 65 [.ref (Z.2.2.1 138)] M M r := by
  refine Met.ofW (cc := b_MC_valid) (maxL := 4) (ret := (some .int)) (by decide) rfl ?_
  intro p e s m args below meth c s₁ B hml hv
  obtain ⟨rfl, hP, hX⟩ := hv
  have S : CallFix p m c b_MC_valid 4 s ([.ref (Z.2.2.1 138)] : List Value).toArray gtb R_MC := ⟨B.exec, B.bytes, hml, findClass_of_methodNamed B.named, fun w hw => atoms_spec (ws := .code y_MC_valid b_MC_valid 4 (some .int) :: gtb) B.pre w (List.mem_cons_of_mem _ hw)⟩
  have hl := lv_entry ([.ref (Z.2.2.1 138)]) (n := 4) (Nat.le_of_ble_eq_true rfl)
  rw [lg_entry_eq]
  exact wk_MC_valid hI hZ M S hX ⟨Nat.le_refl _, Nat.le_refl _⟩ (fun pc H locs ls hH d => q_ri S.1 S.2.1 B.returns B.notSynchronized hH rfl rfl d) hf ⟨hP, va_S.rf⟩ hl
noncomputable def f_MC_sound (M : Mem) : Option Int32 := bnd (f_Play_soundParties 0 M) (fun y2 => some y2)
set_option maxHeartbeats 4000000 in
theorem wk_MC_sound {l : Launch} {Z : WD} (hI : wI Z) (hZ : IsC Z) (M : Mem) {r : Int32} {p : Program} {e : Env} {R : Room} {s : State} {m : MethodId} {args : Array Value} {below : List Frame} {meth : Method} {c : Code} {H : Heap} {locs : List Loc} {ls : Array Slot} {Q : State → Prop} (S : CallFix p m c b_MC_sound 1 s args gtb R_MC) (hX : wX Z s) (hR : 3 ≤ R.frames ∧ 62 ≤ R.locals) (hQ : ∀ (pc : Nat) (H : Heap) (locs : List Loc) (ls : Array Slot), HW Z M s H locs → decode b_MC_sound pc = .ok (.ireturn, 1) → W p l e R s m args below meth c H locs 0 0 Q (F0 m pc ls [.int r])) (hf0 : f_MC_sound M = some r) (hH : HW Z M s H locs) (hl : lv_has ls 1 [(0, .ref (Z.2.2.1 138))]) : W p l e R s m args below meth c H locs 0 0 Q (F0 m 0 ls []) := by
  have hx := S.1
  have hb := S.2.1
  have hown := S.2.2.2.1
  have ht := S.2.2.2.2
  unfold f_MC_sound at hf0
  refine lv_aload_n hx hb d_MC_sound_0 rfl (lv_at hl 0 rfl) ?_
  refine g_MC_10 S hX hH hZ d_MC_sound_1 ?_
  obtain ⟨y2, hc1, hf0⟩ := o_b hf0
  refine q_cVi (As := []) (rest := []) S hX hH (c_Play_soundParties l hI hZ 0 M isPlay_0 hc1) (cw_MC_273 S.2.2.2.2 (Nat.le_trans (Nat.le_of_ble_eq_true rfl) hR.1) (Nat.le_trans (Nat.le_of_ble_eq_true rfl) hR.2)) (rc_Play hX hH hZ isPlay_0) rfl hl.1 rfl (Nat.le_of_ble_eq_true rfl) d_MC_sound_4 ⟨Nat.zero_le _, Nat.zero_le _⟩ (fun H locs hH => ?_)
  obtain rfl := o_v hf0
  exact hQ _ _ _ _ hH d_MC_sound_7
theorem c_MC_sound (l : Launch) {Z : WD} (hI : wI Z) (hZ : IsC Z) (M : Mem) {r : Int32} (hf : f_MC_sound M = some r) : Ci l Z y_MC_sound b_MC_sound 1 (some .int) 3 62 [.ref (Z.2.2.1 138)] M M r := by
  refine Met.ofW (cc := b_MC_sound) (maxL := 1) (ret := (some .int)) (by decide) rfl ?_
  intro p e s m args below meth c s₁ B hml hv
  obtain ⟨rfl, hP, hX⟩ := hv
  have S : CallFix p m c b_MC_sound 1 s ([.ref (Z.2.2.1 138)] : List Value).toArray gtb R_MC := ⟨B.exec, B.bytes, hml, findClass_of_methodNamed B.named, fun w hw => atoms_spec (ws := .code y_MC_sound b_MC_sound 1 (some .int) :: gtb) B.pre w (List.mem_cons_of_mem _ hw)⟩
  have hl := lv_entry ([.ref (Z.2.2.1 138)]) (n := 1) (Nat.le_of_ble_eq_true rfl)
  rw [lg_entry_eq]
  exact wk_MC_sound hI hZ M S hX ⟨Nat.le_refl _, Nat.le_refl _⟩ (fun pc H locs ls hH d => q_ri S.1 S.2.1 B.returns B.notSynchronized hH rfl rfl d) hf ⟨hP, va_S.rf⟩ hl
theorem cw_MC_282 {R : Room} {s : State} {args : Array Value} (ht : ∀ w ∈ gtb, w.before args s = true) (h1 : 3 + 1 ≤ R.frames) (h2 : 8 + (3 + 11) + 67 ≤ R.locals) : CallW R s args R_MC R_Run 282 y_Run_firstUnited b_Run_firstUnited 3 (some .int) (.code y_Run_firstUnited b_Run_firstUnited 3 (some .int) :: gtb) { frames := 3, cells := 0, slots := 0, locals := 67 } 0 0 1 := cwV 1 ht (gV w4_116 w4_117 w4_118 w1_4 w4_119) rfl rfl rfl ⟨rfl, by decide, by decide, by decide +kernel⟩ ⟨h1, h2⟩
theorem cw_MC_279 {R : Room} {s : State} {args : Array Value} (ht : ∀ w ∈ gtb, w.before args s = true) (h1 : 3 + 1 ≤ R.frames) (h2 : 8 + (2 + 11) + 64 ≤ R.locals) : CallW R s args R_MC R_Run 279 y_Run_firstStill b_Run_firstStill 2 (some .int) (.code y_Run_firstStill b_Run_firstStill 2 (some .int) :: gtb) { frames := 3, cells := 0, slots := 0, locals := 64 } 0 0 0 := cwV 0 ht (gV w4_108 w4_109 w4_110 w1_4 w4_111) rfl rfl rfl ⟨rfl, by decide, by decide, by decide +kernel⟩ ⟨h1, h2⟩
noncomputable def f_MC_calm (M : Mem) (x1 : Int32) : Option Int32 := 
    if (M 0 0) = 0 then some (-1 : Int32) else 
    if x1 < 0 then some (-1 : Int32) else 
    if x1 ≤ (1 : Int32) then 
    if x1 = 0 then bnd (f_Run_firstStill 112 M) (fun y6 => some y6) else bnd (f_Play_soundParties 0 M) (fun y2 => bnd (f_Run_firstUnited 112 M y2) (fun y4 => some y4)) else some (-1 : Int32)
set_option maxHeartbeats 4000000 in
theorem wk_MC_calm {l : Launch} {Z : WD} (hI : wI Z) (hZ : IsC Z) (M : Mem) (x1 : Int32) {r : Int32} {p : Program} {e : Env} {R : Room} {s : State} {m : MethodId} {args : Array Value} {below : List Frame} {meth : Method} {c : Code} {H : Heap} {locs : List Loc} {ls : Array Slot} {Q : State → Prop} (S : CallFix p m c b_MC_calm 2 s args gtb R_MC) (hX : wX Z s) (hR : 4 ≤ R.frames ∧ 89 ≤ R.locals) (hQ : ∀ (pc : Nat) (H : Heap) (locs : List Loc) (ls : Array Slot), HW Z M s H locs → decode b_MC_calm pc = .ok (.ireturn, 1) → W p l e R s m args below meth c H locs 0 0 Q (F0 m pc ls [.int r])) (hf0 : f_MC_calm M x1 = some r) (hH : HW Z M s H locs) (hl : lv_has ls 2 [(0, .ref (Z.2.2.1 138)), (1, .int x1)]) : W p l e R s m args below meth c H locs 0 0 Q (F0 m 0 ls []) := by
  have hx := S.1
  have hb := S.2.1
  have hown := S.2.2.2.1
  have ht := S.2.2.2.2
  unfold f_MC_calm at hf0
  refine lv_aload_n hx hb d_MC_calm_0 rfl (lv_at hl 0 rfl) ?_
  refine g_MC_10 S hX hH hZ d_MC_calm_1 ?_
  refine g_MC_71 S hX hH hZ isPlay_0 d_MC_calm_4 ?_
  refine lv_if_eq (tgt := 19) hx hb d_MC_calm_7 (by decide) (fun hc => ?_) (fun hc => ?_)
  · replace hf0 := o_t hc hf0
    refine lv_iconst (v := (-1 : Int32)) hx hb d_MC_calm_19 (by decide) ?_
    obtain rfl := o_v hf0
    exact hQ _ _ _ _ hH d_MC_calm_20
  · replace hf0 := o_f hc hf0
    refine lv_iload_n hx hb d_MC_calm_10 rfl (lv_at hl 1 rfl) ?_
    refine lv_if_lt (tgt := 19) hx hb d_MC_calm_11 (by decide) (fun hc => ?_) (fun hc => ?_)
    · replace hf0 := o_t hc hf0
      refine lv_iconst (v := (-1 : Int32)) hx hb d_MC_calm_19 (by decide) ?_
      obtain rfl := o_v hf0
      exact hQ _ _ _ _ hH d_MC_calm_20
    · replace hf0 := o_f hc hf0
      refine lv_iload_n hx hb d_MC_calm_14 rfl (lv_at hl 1 rfl) ?_
      refine lv_iconst (v := (1 : Int32)) hx hb d_MC_calm_15 (by decide) ?_
      refine lv_icmp_le (tgt := 21) hx hb d_MC_calm_16 (by decide) (fun hc => ?_) (fun hc => ?_)
      · replace hf0 := o_t hc hf0
        refine lv_iload_n hx hb d_MC_calm_21 rfl (lv_at hl 1 rfl) ?_
        refine lv_if_ne (tgt := 35) hx hb d_MC_calm_22 (by decide) (fun hc => ?_) (fun hc => ?_)
        · replace hf0 := o_f hc hf0
          refine lv_aload_n hx hb d_MC_calm_35 rfl (lv_at hl 0 rfl) ?_
          refine g_MC_28 S hX hH hZ d_MC_calm_36 ?_
          refine lv_aload_n hx hb d_MC_calm_39 rfl (lv_at hl 0 rfl) ?_
          refine g_MC_10 S hX hH hZ d_MC_calm_40 ?_
          obtain ⟨y2, hc1, hf0⟩ := o_b hf0
          refine q_cVi (As := []) (rest := [.ref (Z.2.2.1 112)]) S hX hH (c_Play_soundParties l hI hZ 0 M isPlay_0 hc1) (cw_MC_273 S.2.2.2.2 (Nat.le_trans (Nat.le_of_ble_eq_true rfl) hR.1) (Nat.le_trans (Nat.le_of_ble_eq_true rfl) hR.2)) (rc_Play hX hH hZ isPlay_0) rfl hl.1 rfl (Nat.le_of_ble_eq_true rfl) d_MC_calm_43 ⟨Nat.zero_le _, Nat.zero_le _⟩ (fun H locs hH => ?_)
          obtain ⟨y4, hc3, hf0⟩ := o_b hf0
          refine q_cVi (As := [.int y2]) (rest := []) S hX hH (c_Run_firstUnited l hI hZ 112 M y2 isRun_112 hc3) (cw_MC_282 S.2.2.2.2 (Nat.le_trans (Nat.le_of_ble_eq_true rfl) hR.1) (Nat.le_trans (Nat.le_of_ble_eq_true rfl) hR.2)) (rc_Run hX hH hZ isRun_112) rfl hl.1 rfl (Nat.le_of_ble_eq_true rfl) d_MC_calm_46 ⟨Nat.zero_le _, Nat.zero_le _⟩ (fun H locs hH => ?_)
          obtain rfl := o_v hf0
          exact hQ _ _ _ _ hH d_MC_calm_49
        · replace hf0 := o_t hc hf0
          refine lv_aload_n hx hb d_MC_calm_25 rfl (lv_at hl 0 rfl) ?_
          refine g_MC_28 S hX hH hZ d_MC_calm_26 ?_
          obtain ⟨y6, hc5, hf0⟩ := o_b hf0
          refine q_cVi (As := []) (rest := []) S hX hH (c_Run_firstStill l hI hZ 112 M isRun_112 hc5) (cw_MC_279 S.2.2.2.2 (Nat.le_trans (Nat.le_of_ble_eq_true rfl) hR.1) (Nat.le_trans (Nat.le_of_ble_eq_true rfl) hR.2)) (rc_Run hX hH hZ isRun_112) rfl hl.1 rfl (Nat.le_of_ble_eq_true rfl) d_MC_calm_29 ⟨Nat.zero_le _, Nat.zero_le _⟩ (fun H locs hH => ?_)
          refine lv_goto (tgt := 49) hx hb d_MC_calm_32 (by decide) ?_
          obtain rfl := o_v hf0
          exact hQ _ _ _ _ hH d_MC_calm_49
      · replace hf0 := o_f hc hf0
        refine lv_iconst (v := (-1 : Int32)) hx hb d_MC_calm_19 (by decide) ?_
        obtain rfl := o_v hf0
        exact hQ _ _ _ _ hH d_MC_calm_20
theorem c_MC_calm (l : Launch) {Z : WD} (hI : wI Z) (hZ : IsC Z) (M : Mem) (x1 : Int32) {r : Int32} (hf : f_MC_calm M x1 = some r) : Ci l Z y_MC_calm b_MC_calm 2 (some .int) 4 89 [.ref (Z.2.2.1 138), .int x1] M M r := by
  refine Met.ofW (cc := b_MC_calm) (maxL := 2) (ret := (some .int)) (by decide) rfl ?_
  intro p e s m args below meth c s₁ B hml hv
  obtain ⟨rfl, hP, hX⟩ := hv
  have S : CallFix p m c b_MC_calm 2 s ([.ref (Z.2.2.1 138), .int x1] : List Value).toArray gtb R_MC := ⟨B.exec, B.bytes, hml, findClass_of_methodNamed B.named, fun w hw => atoms_spec (ws := .code y_MC_calm b_MC_calm 2 (some .int) :: gtb) B.pre w (List.mem_cons_of_mem _ hw)⟩
  have hl := lv_entry ([.ref (Z.2.2.1 138), .int x1]) (n := 2) (Nat.le_of_ble_eq_true rfl)
  rw [lg_entry_eq]
  exact wk_MC_calm hI hZ M x1 S hX ⟨Nat.le_refl _, Nat.le_refl _⟩ (fun pc H locs ls hH d => q_ri S.1 S.2.1 B.returns B.notSynchronized hH rfl rfl d) hf ⟨hP, va_S.rf⟩ hl
noncomputable def f_MC_partsWith (M : Mem) (x1 : Int32) (x2 : Int32) (x3 : Int32) : Option (Bool × Mem) := 
    bnd (f_Run_prepare 124 M (0 : Int32)) (fun M2 => 
    lt1 (upM M2 124 2 ((x2 ^^^ (-1 : Int32)) ||| x1)) (fun M3 => 
    bnd (f_Run_play 124 M3) (fun M5 => 
    bnd (f_Run_haveOneDecision 124 M5 x3) (fun y7 => if (bI y7) = 0 then some (true, M5) else some (false, M5)))))
set_option maxHeartbeats 4000000 in
theorem wk_MC_partsWith {l : Launch} {Z : WD} (hI : wI Z) (hZ : IsC Z) (M : Mem) (x1 : Int32) (x2 : Int32) (x3 : Int32) {r : Bool} {M' : Mem} {p : Program} {e : Env} {R : Room} {s : State} {m : MethodId} {args : Array Value} {below : List Frame} {meth : Method} {c : Code} {H : Heap} {locs : List Loc} {ls : Array Slot} {Q : State → Prop} (S : CallFix p m c b_MC_partsWith 4 s args gtb R_MC) (hX : wX Z s) (hR : 5 ≤ R.frames ∧ 115 ≤ R.locals) (hQ : ∀ (pc : Nat) (H : Heap) (locs : List Loc) (ls : Array Slot), HW Z M' s H locs → decode b_MC_partsWith pc = .ok (.ireturn, 1) → W p l e R s m args below meth c H locs 0 0 Q (F0 m pc ls [.int (bI r)])) (hf0 : f_MC_partsWith M x1 x2 x3 = some (r, M')) (hH : HW Z M s H locs) (hl : lv_has ls 4 [(0, .ref (Z.2.2.1 138)), (1, .int x1), (2, .int x2), (3, .int x3)]) : W p l e R s m args below meth c H locs 0 0 Q (F0 m 0 ls []) := by
  have hx := S.1
  have hb := S.2.1
  have hown := S.2.2.2.1
  have ht := S.2.2.2.2
  unfold f_MC_partsWith at hf0
  refine lv_aload_n hx hb d_MC_partsWith_0 rfl (lv_at hl 0 rfl) ?_
  refine g_MC_32 S hX hH hZ d_MC_partsWith_1 ?_
  refine lv_iconst (v := (0 : Int32)) hx hb d_MC_partsWith_4 (by decide) ?_
  obtain ⟨M2, hc1, hf0⟩ := o_b hf0
  refine q_cVv (As := [.int (0 : Int32)]) (rest := []) S hX hH (c_Run_prepare l hI hZ 124 M (0 : Int32) isRun_124 hc1) (cw_MC_293 S.2.2.2.2 (Nat.le_trans (Nat.le_of_ble_eq_true rfl) hR.1) (Nat.le_trans (Nat.le_of_ble_eq_true rfl) hR.2)) (rc_Run hX hH hZ isRun_124) rfl hl.1 rfl (Nat.le_of_ble_eq_true rfl) d_MC_partsWith_5 ⟨Nat.zero_le _, Nat.zero_le _⟩ (fun H locs hH => ?_)
  refine lv_aload_n hx hb d_MC_partsWith_8 rfl (lv_at hl 0 rfl) ?_
  refine g_MC_32 S hX hH hZ d_MC_partsWith_9 ?_
  refine lv_iload_n hx hb d_MC_partsWith_12 rfl (lv_at hl 2 rfl) ?_
  refine lv_iconst (v := (-1 : Int32)) hx hb d_MC_partsWith_13 (by decide) ?_
  refine lv_ixor hx hb d_MC_partsWith_14 ?_
  refine lv_iload_n hx hb d_MC_partsWith_15 rfl (lv_at hl 1 rfl) ?_
  refine lv_ior hx hb d_MC_partsWith_16 ?_
  obtain ⟨M3, hM3, hf0⟩ := o_l hf0
  refine s_MC_296 S hX hI hH hZ isRun_124 d_MC_partsWith_17 (fun H locs hH => ?_)
  rw [hM3] at hH
  refine lv_aload_n hx hb d_MC_partsWith_20 rfl (lv_at hl 0 rfl) ?_
  refine g_MC_32 S hX hH hZ d_MC_partsWith_21 ?_
  obtain ⟨M5, hc4, hf0⟩ := o_b hf0
  refine q_cVv (As := []) (rest := []) S hX hH (c_Run_play l hI hZ 124 M3 isRun_124 hc4) (cw_MC_299 S.2.2.2.2 (Nat.le_trans (Nat.le_of_ble_eq_true rfl) hR.1) (Nat.le_trans (Nat.le_of_ble_eq_true rfl) hR.2)) (rc_Run hX hH hZ isRun_124) rfl hl.1 rfl (Nat.le_of_ble_eq_true rfl) d_MC_partsWith_24 ⟨Nat.zero_le _, Nat.zero_le _⟩ (fun H locs hH => ?_)
  refine lv_aload_n hx hb d_MC_partsWith_27 rfl (lv_at hl 0 rfl) ?_
  refine g_MC_32 S hX hH hZ d_MC_partsWith_28 ?_
  refine lv_iload_n hx hb d_MC_partsWith_31 rfl (lv_at hl 3 rfl) ?_
  obtain ⟨y7, hc6, hf0⟩ := o_b hf0
  refine q_cVi (As := [.int x3]) (rest := []) S hX hH (c_Run_haveOneDecision l hI hZ 124 M5 x3 isRun_124 hc6) (cw_MC_276 S.2.2.2.2 (Nat.le_trans (Nat.le_of_ble_eq_true rfl) hR.1) (Nat.le_trans (Nat.le_of_ble_eq_true rfl) hR.2)) (rc_Run hX hH hZ isRun_124) rfl hl.1 rfl (Nat.le_of_ble_eq_true rfl) d_MC_partsWith_32 ⟨Nat.zero_le _, Nat.zero_le _⟩ (fun H locs hH => ?_)
  refine lv_if_ne (tgt := 42) hx hb d_MC_partsWith_35 (by decide) (fun hc => ?_) (fun hc => ?_)
  · replace hf0 := o_f hc hf0
    refine lv_iconst (v := (0 : Int32)) hx hb d_MC_partsWith_42 (by decide) ?_
    obtain ⟨rfl, rfl⟩ := o_p hf0
    exact hQ _ _ _ _ hH d_MC_partsWith_43
  · replace hf0 := o_t hc hf0
    refine lv_iconst (v := (1 : Int32)) hx hb d_MC_partsWith_38 (by decide) ?_
    refine lv_goto (tgt := 43) hx hb d_MC_partsWith_39 (by decide) ?_
    obtain ⟨rfl, rfl⟩ := o_p hf0
    exact hQ _ _ _ _ hH d_MC_partsWith_43
theorem c_MC_partsWith (l : Launch) {Z : WD} (hI : wI Z) (hZ : IsC Z) (M : Mem) (x1 : Int32) (x2 : Int32) (x3 : Int32) {r : Bool} {M' : Mem} (hf : f_MC_partsWith M x1 x2 x3 = some (r, M')) : Ci l Z y_MC_partsWith b_MC_partsWith 4 (some .boolean) 5 115 [.ref (Z.2.2.1 138), .int x1, .int x2, .int x3] M M' (bI r) := by
  refine Met.ofW (cc := b_MC_partsWith) (maxL := 4) (ret := (some .boolean)) (by decide) rfl ?_
  intro p e s m args below meth c s₁ B hml hv
  obtain ⟨rfl, hP, hX⟩ := hv
  have S : CallFix p m c b_MC_partsWith 4 s ([.ref (Z.2.2.1 138), .int x1, .int x2, .int x3] : List Value).toArray gtb R_MC := ⟨B.exec, B.bytes, hml, findClass_of_methodNamed B.named, fun w hw => atoms_spec (ws := .code y_MC_partsWith b_MC_partsWith 4 (some .boolean) :: gtb) B.pre w (List.mem_cons_of_mem _ hw)⟩
  have hl := lv_entry ([.ref (Z.2.2.1 138), .int x1, .int x2, .int x3]) (n := 4) (Nat.le_of_ble_eq_true rfl)
  rw [lg_entry_eq]
  exact wk_MC_partsWith hI hZ M x1 x2 x3 S hX ⟨Nat.le_refl _, Nat.le_refl _⟩ (fun pc H locs ls hH d => q_rz S.1 S.2.1 B.returns B.notSynchronized hH rfl rfl d) hf ⟨hP, va_S.rf⟩ hl
theorem cw_MC_290 {R : Room} {s : State} {args : Array Value} (ht : ∀ w ∈ gtb, w.before args s = true) (h1 : 5 + 1 ≤ R.frames) (h2 : 8 + (4 + 11) + 115 ≤ R.locals) : CallW R s args R_MC R_MC 290 y_MC_partsWith b_MC_partsWith 4 (some .boolean) (.code y_MC_partsWith b_MC_partsWith 4 (some .boolean) :: gtb) { frames := 5, cells := 0, slots := 0, locals := 115 } 0 0 3 := cwV 3 ht (gV w4_129 w4_131 ws_MC_partsWith w1_1 w4_132) rfl rfl rfl ⟨rfl, by decide, by decide, by decide +kernel⟩ ⟨h1, h2⟩
noncomputable def f_MC_parted_L48 (x1 : Int32) (x2 : Int32) (x3 : Int32) (x4 : Int32) (M : Mem) : Option ((Int32 × Mem) ⊕ (Mem ⊕ (Int32 × Mem))) := if x2 < x4 then some (.inr (.inl M)) else 
    if (f_Int_bitCount x4) = x3 then 
    bnd2 (f_MC_partsWith M x4 x2 x1) (fun y3 M2 => if (bI y3) = 0 then some (.inl (x4 + (1 : Int32), M2)) else some (.inr (.inr (x4, M2)))) else some (.inl (x4 + (1 : Int32), M))
noncomputable def f_MC_parted_W48 (x1 : Int32) (x2 : Int32) (x3 : Int32) (u : (Int32 × Mem)) : Option (Mem ⊕ (Int32 × Mem)) := loop (fun t => f_MC_parted_L48 x1 x2 x3 t.1 t.2) u
noncomputable def f_MC_parted_J48 (M : Mem) (x1 : Int32) (x2 : Int32) (x3 : Int32) (x4 : Int32) : Option ((Int32 × Mem) ⊕ (Int32 × Mem)) := bnd (f_MC_parted_W48 x1 x2 x3 (x4, M)) (fun e48 => lex2 e48 (fun t48 => some (.inl (x3 + (1 : Int32), t48))) (fun r48 => some (.inr r48)))
noncomputable def f_MC_parted_L39 (x1 : Int32) (x2 : Int32) (x3 : Int32) (M : Mem) : Option ((Int32 × Mem) ⊕ (Int32 × Mem)) := if (6 : Int32) < x3 then some (.inr ((-2 : Int32), M)) else f_MC_parted_J48 M x1 x2 x3 (0 : Int32)
noncomputable def f_MC_parted_W39 (x1 : Int32) (x2 : Int32) (u : (Int32 × Mem)) : Option (Int32 × Mem) := loop (fun t => f_MC_parted_L39 x1 x2 t.1 t.2) u
noncomputable def f_MC_parted_J39 (M : Mem) (x1 : Int32) (x2 : Int32) (x3 : Int32) : Option (Int32 × Mem) := bnd (f_MC_parted_W39 x1 x2 (x3, M)) (fun e39 => some e39)
noncomputable def f_MC_parted (M : Mem) : Option (Int32 × Mem) := 
    if (M 0 0) = 0 then some ((-1 : Int32), M) else 
    bnd (f_Play_soundParties 0 M) (fun y5 => 
    f_MC_parted_J39 M y5 (((1 : Int32) <<< ((miI (M 0 2) (6 : Int32)) &&& 31)) - (1 : Int32)) (0 : Int32))
set_option maxHeartbeats 4000000 in
theorem wk_MC_parted {l : Launch} {Z : WD} (hI : wI Z) (hZ : IsC Z) (M : Mem) {r : Int32} {M' : Mem} {p : Program} {e : Env} {R : Room} {s : State} {m : MethodId} {args : Array Value} {below : List Frame} {meth : Method} {c : Code} {H : Heap} {locs : List Loc} {ls : Array Slot} {Q : State → Prop} (S : CallFix p m c b_MC_parted 5 s args gtb R_MC) (hX : wX Z s) (hR : 6 ≤ R.frames ∧ 138 ≤ R.locals) (hQ : ∀ (pc : Nat) (H : Heap) (locs : List Loc) (ls : Array Slot), HW Z M' s H locs → decode b_MC_parted pc = .ok (.ireturn, 1) → W p l e R s m args below meth c H locs 0 0 Q (F0 m pc ls [.int r])) (hf0 : f_MC_parted M = some (r, M')) (hH : HW Z M s H locs) (hl : lv_has ls 5 [(0, .ref (Z.2.2.1 138))]) : W p l e R s m args below meth c H locs 0 0 Q (F0 m 0 ls []) := by
  have hx := S.1
  have hb := S.2.1
  have hown := S.2.2.2.1
  have ht := S.2.2.2.2
  unfold f_MC_parted at hf0
  have J39 : ∀ (M : Mem) (x1 : Int32) (x2 : Int32) (x3 : Int32) (H : Heap) (locs : List Loc) (ls : Array Slot), f_MC_parted_J39 M x1 x2 x3 = some (r, M') → HW Z M s H locs → lv_has ls 5 [(0, .ref (Z.2.2.1 138)), (1, .int x1), (2, .int x2), (3, .int x3)] → W p l e R s m args below meth c H locs 0 0 Q (F0 m 39 ls []) := by
    intro M x1 x2 x3 H locs ls hf0 hH hl
    unfold f_MC_parted_J39 at hf0
    obtain ⟨e39, he39, hf0⟩ := o_b hf0
    unfold f_MC_parted_W39 at he39
    refine loop_W (fun t => ∀ (H : Heap) (locs : List Loc) (ls : Array Slot), HW Z t.2 s H locs → lv_has ls 5 [(0, .ref (Z.2.2.1 138)), (1, .int x1), (2, .int x2), (3, .int t.1)] → W p l e R s m args below meth c H locs 0 0 Q (F0 m 39 ls [])) ?_ he39 H locs ls hH hl
    rintro ⟨x3, M⟩ o1 hf1 hG1 hR1 H locs ls hH hl
    replace hH : HW Z M s H locs := hH
    replace hl : lv_has ls 5 [(0, .ref (Z.2.2.1 138)), (1, .int x1), (2, .int x2), (3, .int x3)] := hl
    replace hf1 : f_MC_parted_L39 x1 x2 x3 M = some o1 := hf1
    unfold f_MC_parted_L39 at hf1
    have J48 : ∀ (M : Mem) (x3 : Int32) (x4 : Int32) (H : Heap) (locs : List Loc) (ls : Array Slot), f_MC_parted_J48 M x1 x2 x3 x4 = some o1 → HW Z M s H locs → lv_has ls 5 [(0, .ref (Z.2.2.1 138)), (1, .int x1), (2, .int x2), (3, .int x3), (4, .int x4)] → W p l e R s m args below meth c H locs 0 0 Q (F0 m 48 ls []) := by
      intro M x3 x4 H locs ls hf1 hH hl
      unfold f_MC_parted_J48 at hf1
      obtain ⟨e48, he48, hf1⟩ := o_b hf1
      have KX48 : ∀ (t48 : Mem), e48 = .inl t48 → ∀ (H : Heap) (locs : List Loc) (ls : Array Slot), HW Z t48 s H locs → lv_has ls 5 [(0, .ref (Z.2.2.1 138)), (1, .int x1), (2, .int x2), (3, .int x3)] → W p l e R s m args below meth c H locs 0 0 Q (F0 m 83 ls []) := by
        intro t48 he0 H locs ls hH hl
        subst he0
        replace hf1 := o_x1 hf1
        refine lv_iinc (v := x3 + (1 : Int32)) (lv' := [(3, .int (x3 + (1 : Int32))), (0, .ref (Z.2.2.1 138)), (1, .int x1), (2, .int x2)]) hx hb d_MC_parted_83 hl (k := 3) rfl rfl (by decide) rfl (fun ls hl => ?_)
        refine lv_goto (tgt := 39) hx hb d_MC_parted_86 (by decide) ?_
        exact hG1 _ (o_v hf1).symm _ _ _ hH (lv_sub hl [1, 2, 3, 0] rfl)
      unfold f_MC_parted_W48 at he48
      refine loop_W (fun t => ∀ (H : Heap) (locs : List Loc) (ls : Array Slot), HW Z t.2 s H locs → lv_has ls 5 [(0, .ref (Z.2.2.1 138)), (1, .int x1), (2, .int x2), (3, .int x3), (4, .int t.1)] → W p l e R s m args below meth c H locs 0 0 Q (F0 m 48 ls [])) ?_ he48 H locs ls hH hl
      rintro ⟨x4, M⟩ o2 hf2 hG2 hR2 H locs ls hH hl
      replace hH : HW Z M s H locs := hH
      replace hl : lv_has ls 5 [(0, .ref (Z.2.2.1 138)), (1, .int x1), (2, .int x2), (3, .int x3), (4, .int x4)] := hl
      replace hf2 : f_MC_parted_L48 x1 x2 x3 x4 M = some o2 := hf2
      unfold f_MC_parted_L48 at hf2
      refine lv_iload hx hb d_MC_parted_48 (lv_at hl 4 rfl) ?_
      refine lv_iload_n hx hb d_MC_parted_50 rfl (lv_at hl 2 rfl) ?_
      refine lv_icmp_gt (tgt := 83) hx hb d_MC_parted_51 (by decide) (fun hc => ?_) (fun hc => ?_)
      · replace hf2 := o_t hc hf2
        obtain rfl := hR2 _ (o_v hf2).symm
        exact KX48 _ rfl _ _ _ hH (lv_sub hl [0, 1, 2, 3] rfl)
      · replace hf2 := o_f hc hf2
        refine lv_iload hx hb d_MC_parted_54 (lv_at hl 4 rfl) ?_
        refine q_cSi (As := [.int x4]) (rest := []) S hX hH (c_Int_bitCount l hI M x4 rfl) (cw_MC_146 S.2.2.2.2 (Nat.le_trans (Nat.le_of_ble_eq_true rfl) hR.1) (Nat.le_trans (Nat.le_of_ble_eq_true rfl) hR.2)) rfl hl.1 rfl (Nat.le_of_ble_eq_true rfl) d_MC_parted_56 ⟨Nat.zero_le _, Nat.zero_le _⟩ (fun H locs hH => ?_)
        refine lv_iload_n hx hb d_MC_parted_59 rfl (lv_at hl 3 rfl) ?_
        refine lv_icmp_ne (tgt := 77) hx hb d_MC_parted_60 (by decide) (fun hc => ?_) (fun hc => ?_)
        · replace hf2 := o_f hc hf2
          refine lv_iinc (v := x4 + (1 : Int32)) (lv' := [(4, .int (x4 + (1 : Int32))), (0, .ref (Z.2.2.1 138)), (1, .int x1), (2, .int x2), (3, .int x3)]) hx hb d_MC_parted_77 hl (k := 4) rfl rfl (by decide) rfl (fun ls hl => ?_)
          refine lv_goto (tgt := 48) hx hb d_MC_parted_80 (by decide) ?_
          exact hG2 _ (o_v hf2).symm _ _ _ hH (lv_sub hl [1, 2, 3, 4, 0] rfl)
        · replace hf2 := o_t hc hf2
          refine lv_aload_n hx hb d_MC_parted_63 rfl (lv_at hl 0 rfl) ?_
          refine lv_iload hx hb d_MC_parted_64 (lv_at hl 4 rfl) ?_
          refine lv_iload_n hx hb d_MC_parted_66 rfl (lv_at hl 2 rfl) ?_
          refine lv_iload_n hx hb d_MC_parted_67 rfl (lv_at hl 1 rfl) ?_
          obtain ⟨y3, M2, hc1, hf2⟩ := o_b2 hf2
          refine q_cVi (As := [.int x4, .int x2, .int x1]) (rest := []) S hX hH (c_MC_partsWith l hI hZ M x4 x2 x1 hc1) (cw_MC_290 S.2.2.2.2 (Nat.le_trans (Nat.le_of_ble_eq_true rfl) hR.1) (Nat.le_trans (Nat.le_of_ble_eq_true rfl) hR.2)) (rc_MC hX hH hZ) rfl hl.1 rfl (Nat.le_of_ble_eq_true rfl) d_MC_parted_68 ⟨Nat.zero_le _, Nat.zero_le _⟩ (fun H locs hH => ?_)
          refine lv_if_eq (tgt := 77) hx hb d_MC_parted_71 (by decide) (fun hc => ?_) (fun hc => ?_)
          · replace hf2 := o_t hc hf2
            refine lv_iinc (v := x4 + (1 : Int32)) (lv' := [(4, .int (x4 + (1 : Int32))), (0, .ref (Z.2.2.1 138)), (1, .int x1), (2, .int x2), (3, .int x3)]) hx hb d_MC_parted_77 hl (k := 4) rfl rfl (by decide) rfl (fun ls hl => ?_)
            refine lv_goto (tgt := 48) hx hb d_MC_parted_80 (by decide) ?_
            exact hG2 _ (o_v hf2).symm _ _ _ hH (lv_sub hl [1, 2, 3, 4, 0] rfl)
          · replace hf2 := o_f hc hf2
            refine lv_iload hx hb d_MC_parted_74 (lv_at hl 4 rfl) ?_
            obtain rfl := hR2 _ (o_v hf2).symm
            replace hf1 := o_x2 hf1
            obtain rfl := hR1 _ (o_v hf1).symm
            obtain ⟨rfl, rfl⟩ := o_p hf0
            exact hQ _ _ _ _ hH d_MC_parted_76
    refine lv_iload_n hx hb d_MC_parted_39 rfl (lv_at hl 3 rfl) ?_
    refine lv_bipush (v := (6 : Int32)) hx hb d_MC_parted_40 (by decide) ?_
    refine lv_icmp_gt (tgt := 89) hx hb d_MC_parted_42 (by decide) (fun hc => ?_) (fun hc => ?_)
    · replace hf1 := o_t hc hf1
      refine lv_bipush (v := (-2 : Int32)) hx hb d_MC_parted_89 (by decide) ?_
      obtain rfl := hR1 _ (o_v hf1).symm
      obtain ⟨rfl, rfl⟩ := o_p hf0
      exact hQ _ _ _ _ hH d_MC_parted_91
    · replace hf1 := o_f hc hf1
      refine lv_iconst (v := (0 : Int32)) hx hb d_MC_parted_45 (by decide) ?_
      refine lv_istore (lv' := [(4, .int (0 : Int32)), (0, .ref (Z.2.2.1 138)), (1, .int x1), (2, .int x2), (3, .int x3)]) hx hb d_MC_parted_46 hl (by decide) rfl (fun ls hl => ?_)
      exact J48 _ _ _ _ _ _ hf1 hH (lv_sub hl [1, 2, 3, 4, 0] rfl)
  refine lv_aload_n hx hb d_MC_parted_0 rfl (lv_at hl 0 rfl) ?_
  refine g_MC_10 S hX hH hZ d_MC_parted_1 ?_
  refine g_MC_71 S hX hH hZ isPlay_0 d_MC_parted_4 ?_
  refine lv_if_ne (tgt := 12) hx hb d_MC_parted_7 (by decide) (fun hc => ?_) (fun hc => ?_)
  · replace hf0 := o_f hc hf0
    refine lv_aload_n hx hb d_MC_parted_12 rfl (lv_at hl 0 rfl) ?_
    refine g_MC_10 S hX hH hZ d_MC_parted_13 ?_
    obtain ⟨y5, hc4, hf0⟩ := o_b hf0
    refine q_cVi (As := []) (rest := []) S hX hH (c_Play_soundParties l hI hZ 0 M isPlay_0 hc4) (cw_MC_273 S.2.2.2.2 (Nat.le_trans (Nat.le_of_ble_eq_true rfl) hR.1) (Nat.le_trans (Nat.le_of_ble_eq_true rfl) hR.2)) (rc_Play hX hH hZ isPlay_0) rfl hl.1 rfl (Nat.le_of_ble_eq_true rfl) d_MC_parted_16 ⟨Nat.zero_le _, Nat.zero_le _⟩ (fun H locs hH => ?_)
    refine lv_istore_n (lv' := [(1, .int y5), (0, .ref (Z.2.2.1 138))]) hx hb d_MC_parted_19 rfl hl (by decide) rfl (fun ls hl => ?_)
    refine lv_iconst (v := (1 : Int32)) hx hb d_MC_parted_20 (by decide) ?_
    refine lv_aload_n hx hb d_MC_parted_21 rfl (lv_at hl 1 rfl) ?_
    refine g_MC_10 S hX hH hZ d_MC_parted_22 ?_
    refine g_MC_108 S hX hH hZ isPlay_0 d_MC_parted_25 ?_
    refine lv_bipush (v := (6 : Int32)) hx hb d_MC_parted_28 (by decide) ?_
    refine q_min S hl.1 w4_128 w2_61 w1_9 w2_62 (Nat.le_trans (Nat.le_of_ble_eq_true rfl) hR.1) (Nat.le_trans (Nat.le_of_ble_eq_true rfl) hR.2) d_MC_parted_30 ?_
    refine lv_ishl hx hb d_MC_parted_33 ?_
    refine lv_iconst (v := (1 : Int32)) hx hb d_MC_parted_34 (by decide) ?_
    refine lv_isub hx hb d_MC_parted_35 ?_
    refine lv_istore_n (lv' := [(2, .int (((1 : Int32) <<< ((miI (M 0 2) (6 : Int32)) &&& 31)) - (1 : Int32))), (1, .int y5), (0, .ref (Z.2.2.1 138))]) hx hb d_MC_parted_36 rfl hl (by decide) rfl (fun ls hl => ?_)
    refine lv_iconst (v := (0 : Int32)) hx hb d_MC_parted_37 (by decide) ?_
    refine lv_istore_n (lv' := [(3, .int (0 : Int32)), (2, .int (((1 : Int32) <<< ((miI (M 0 2) (6 : Int32)) &&& 31)) - (1 : Int32))), (1, .int y5), (0, .ref (Z.2.2.1 138))]) hx hb d_MC_parted_38 rfl hl (by decide) rfl (fun ls hl => ?_)
    exact J39 _ _ _ _ _ _ _ hf0 hH (lv_sub hl [3, 2, 1, 0] rfl)
  · replace hf0 := o_t hc hf0
    refine lv_iconst (v := (-1 : Int32)) hx hb d_MC_parted_10 (by decide) ?_
    obtain ⟨rfl, rfl⟩ := o_p hf0
    exact hQ _ _ _ _ hH d_MC_parted_11
theorem c_MC_parted (l : Launch) {Z : WD} (hI : wI Z) (hZ : IsC Z) (M : Mem) {r : Int32} {M' : Mem} (hf : f_MC_parted M = some (r, M')) : Ci l Z y_MC_parted b_MC_parted 5 (some .int) 6 138 [.ref (Z.2.2.1 138)] M M' r := by
  refine Met.ofW (cc := b_MC_parted) (maxL := 5) (ret := (some .int)) (by decide) rfl ?_
  intro p e s m args below meth c s₁ B hml hv
  obtain ⟨rfl, hP, hX⟩ := hv
  have S : CallFix p m c b_MC_parted 5 s ([.ref (Z.2.2.1 138)] : List Value).toArray gtb R_MC := ⟨B.exec, B.bytes, hml, findClass_of_methodNamed B.named, fun w hw => atoms_spec (ws := .code y_MC_parted b_MC_parted 5 (some .int) :: gtb) B.pre w (List.mem_cons_of_mem _ hw)⟩
  have hl := lv_entry ([.ref (Z.2.2.1 138)]) (n := 5) (Nat.le_of_ble_eq_true rfl)
  rw [lg_entry_eq]
  exact wk_MC_parted hI hZ M S hX ⟨Nat.le_refl _, Nat.le_refl _⟩ (fun pc H locs ls hH d => q_ri S.1 S.2.1 B.returns B.notSynchronized hH rfl rfl d) hf ⟨hP, va_S.rf⟩ hl
noncomputable def f_MC_changesDecisions_L27 (M : Mem) (x3 : Int32) : Option (Int32 ⊕ (Bool × Mem)) := if (M 0 0) ≤ x3 then some (.inr (false, M)) else 
    if (bI (f_Play_isHonest 0 M x3)) = 0 then some (.inl (x3 + (1 : Int32))) else 
    bnd (f_Run_decisionOf 124 M x3) (fun y2 => 
    bnd (f_Run_decisionOf 112 M x3) (fun y4 => if y2 = y4 then some (.inl (x3 + (1 : Int32))) else some (.inr (true, M))))
noncomputable def f_MC_changesDecisions_W27 (M : Mem) (u : Int32) : Option (Bool × Mem) := loop (fun t => f_MC_changesDecisions_L27 M t) u
noncomputable def f_MC_changesDecisions_J27 (M : Mem) (x3 : Int32) : Option (Bool × Mem) := bnd (f_MC_changesDecisions_W27 M x3) (fun e27 => some e27)
noncomputable def f_MC_changesDecisions (M : Mem) (x1 : Int32) (x2 : Int32) : Option (Bool × Mem) := 
    bnd (f_Run_prepare 124 M (0 : Int32)) (fun M6 => 
    gIn x1 576 (lt1 (upM M6 125 x1.toNatClampNeg x2) (fun M8 => bnd (f_Run_play 124 M8) (fun M10 => f_MC_changesDecisions_J27 M10 (0 : Int32)))))
set_option maxHeartbeats 4000000 in
theorem wk_MC_changesDecisions {l : Launch} {Z : WD} (hI : wI Z) (hZ : IsC Z) (M : Mem) (x1 : Int32) (x2 : Int32) {r : Bool} {M' : Mem} {p : Program} {e : Env} {R : Room} {s : State} {m : MethodId} {args : Array Value} {below : List Frame} {meth : Method} {c : Code} {H : Heap} {locs : List Loc} {ls : Array Slot} {Q : State → Prop} (S : CallFix p m c b_MC_changesDecisions 4 s args gtb R_MC) (hX : wX Z s) (hR : 5 ≤ R.frames ∧ 115 ≤ R.locals) (hQ : ∀ (pc : Nat) (H : Heap) (locs : List Loc) (ls : Array Slot), HW Z M' s H locs → decode b_MC_changesDecisions pc = .ok (.ireturn, 1) → W p l e R s m args below meth c H locs 0 0 Q (F0 m pc ls [.int (bI r)])) (hf0 : f_MC_changesDecisions M x1 x2 = some (r, M')) (hH : HW Z M s H locs) (hl : lv_has ls 4 [(0, .ref (Z.2.2.1 138)), (1, .int x1), (2, .int x2)]) : W p l e R s m args below meth c H locs 0 0 Q (F0 m 0 ls []) := by
  have hx := S.1
  have hb := S.2.1
  have hown := S.2.2.2.1
  have ht := S.2.2.2.2
  unfold f_MC_changesDecisions at hf0
  have J27 : ∀ (M : Mem) (x3 : Int32) (H : Heap) (locs : List Loc) (ls : Array Slot), f_MC_changesDecisions_J27 M x3 = some (r, M') → HW Z M s H locs → lv_has ls 4 [(0, .ref (Z.2.2.1 138)), (3, .int x3)] → W p l e R s m args below meth c H locs 0 0 Q (F0 m 27 ls []) := by
    intro M x3 H locs ls hf0 hH hl
    unfold f_MC_changesDecisions_J27 at hf0
    obtain ⟨e27, he27, hf0⟩ := o_b hf0
    unfold f_MC_changesDecisions_W27 at he27
    refine loop_W (fun t => ∀ (H : Heap) (locs : List Loc) (ls : Array Slot), HW Z M s H locs → lv_has ls 4 [(0, .ref (Z.2.2.1 138)), (3, .int t)] → W p l e R s m args below meth c H locs 0 0 Q (F0 m 27 ls [])) ?_ he27 H locs ls hH hl
    rintro x3 o1 hf1 hG1 hR1 H locs ls hH hl
    replace hH : HW Z M s H locs := hH
    replace hl : lv_has ls 4 [(0, .ref (Z.2.2.1 138)), (3, .int x3)] := hl
    replace hf1 : f_MC_changesDecisions_L27 M x3 = some o1 := hf1
    unfold f_MC_changesDecisions_L27 at hf1
    refine lv_iload_n hx hb d_MC_changesDecisions_27 rfl (lv_at hl 1 rfl) ?_
    refine lv_aload_n hx hb d_MC_changesDecisions_28 rfl (lv_at hl 0 rfl) ?_
    refine g_MC_10 S hX hH hZ d_MC_changesDecisions_29 ?_
    refine g_MC_71 S hX hH hZ isPlay_0 d_MC_changesDecisions_32 ?_
    refine lv_icmp_ge (tgt := 76) hx hb d_MC_changesDecisions_35 (by decide) (fun hc => ?_) (fun hc => ?_)
    · replace hf1 := o_t hc hf1
      refine lv_iconst (v := (0 : Int32)) hx hb d_MC_changesDecisions_76 (by decide) ?_
      obtain rfl := hR1 _ (o_v hf1).symm
      obtain ⟨rfl, rfl⟩ := o_p hf0
      exact hQ _ _ _ _ hH d_MC_changesDecisions_77
    · replace hf1 := o_f hc hf1
      refine lv_aload_n hx hb d_MC_changesDecisions_38 rfl (lv_at hl 0 rfl) ?_
      refine g_MC_10 S hX hH hZ d_MC_changesDecisions_39 ?_
      refine lv_iload_n hx hb d_MC_changesDecisions_42 rfl (lv_at hl 1 rfl) ?_
      refine q_cVi (As := [.int x3]) (rest := []) S hX hH (c_Play_isHonest l hI hZ 0 M x3 isPlay_0 rfl) (cw_MC_174 S.2.2.2.2 (Nat.le_trans (Nat.le_of_ble_eq_true rfl) hR.1) (Nat.le_trans (Nat.le_of_ble_eq_true rfl) hR.2)) (rc_Play hX hH hZ isPlay_0) rfl hl.1 rfl (Nat.le_of_ble_eq_true rfl) d_MC_changesDecisions_43 ⟨Nat.zero_le _, Nat.zero_le _⟩ (fun H locs hH => ?_)
      refine lv_if_eq (tgt := 70) hx hb d_MC_changesDecisions_46 (by decide) (fun hc => ?_) (fun hc => ?_)
      · replace hf1 := o_t hc hf1
        refine lv_iinc (v := x3 + (1 : Int32)) (lv' := [(3, .int (x3 + (1 : Int32))), (0, .ref (Z.2.2.1 138))]) hx hb d_MC_changesDecisions_70 hl (k := 1) rfl rfl (by decide) rfl (fun ls hl => ?_)
        refine lv_goto (tgt := 27) hx hb d_MC_changesDecisions_73 (by decide) ?_
        exact hG1 _ (o_v hf1).symm _ _ _ hH (lv_sub hl [1, 0] rfl)
      · replace hf1 := o_f hc hf1
        refine lv_aload_n hx hb d_MC_changesDecisions_49 rfl (lv_at hl 0 rfl) ?_
        refine g_MC_32 S hX hH hZ d_MC_changesDecisions_50 ?_
        refine lv_iload_n hx hb d_MC_changesDecisions_53 rfl (lv_at hl 1 rfl) ?_
        obtain ⟨y2, hc1, hf1⟩ := o_b hf1
        refine q_cVi (As := [.int x3]) (rest := []) S hX hH (c_Run_decisionOf l hI hZ 124 M x3 isRun_124 hc1) (cw_MC_183 S.2.2.2.2 (Nat.le_trans (Nat.le_of_ble_eq_true rfl) hR.1) (Nat.le_trans (Nat.le_of_ble_eq_true rfl) hR.2)) (rc_Run hX hH hZ isRun_124) rfl hl.1 rfl (Nat.le_of_ble_eq_true rfl) d_MC_changesDecisions_54 ⟨Nat.zero_le _, Nat.zero_le _⟩ (fun H locs hH => ?_)
        refine lv_aload_n hx hb d_MC_changesDecisions_57 rfl (lv_at hl 0 rfl) ?_
        refine g_MC_28 S hX hH hZ d_MC_changesDecisions_58 ?_
        refine lv_iload_n hx hb d_MC_changesDecisions_61 rfl (lv_at hl 1 rfl) ?_
        obtain ⟨y4, hc3, hf1⟩ := o_b hf1
        refine q_cVi (As := [.int x3]) (rest := [.int y2]) S hX hH (c_Run_decisionOf l hI hZ 112 M x3 isRun_112 hc3) (cw_MC_183 S.2.2.2.2 (Nat.le_trans (Nat.le_of_ble_eq_true rfl) hR.1) (Nat.le_trans (Nat.le_of_ble_eq_true rfl) hR.2)) (rc_Run hX hH hZ isRun_112) rfl hl.1 rfl (Nat.le_of_ble_eq_true rfl) d_MC_changesDecisions_62 ⟨Nat.zero_le _, Nat.zero_le _⟩ (fun H locs hH => ?_)
        refine lv_icmp_eq (tgt := 70) hx hb d_MC_changesDecisions_65 (by decide) (fun hc => ?_) (fun hc => ?_)
        · replace hf1 := o_t hc hf1
          refine lv_iinc (v := x3 + (1 : Int32)) (lv' := [(3, .int (x3 + (1 : Int32))), (0, .ref (Z.2.2.1 138))]) hx hb d_MC_changesDecisions_70 hl (k := 1) rfl rfl (by decide) rfl (fun ls hl => ?_)
          refine lv_goto (tgt := 27) hx hb d_MC_changesDecisions_73 (by decide) ?_
          exact hG1 _ (o_v hf1).symm _ _ _ hH (lv_sub hl [1, 0] rfl)
        · replace hf1 := o_f hc hf1
          refine lv_iconst (v := (1 : Int32)) hx hb d_MC_changesDecisions_68 (by decide) ?_
          obtain rfl := hR1 _ (o_v hf1).symm
          obtain ⟨rfl, rfl⟩ := o_p hf0
          exact hQ _ _ _ _ hH d_MC_changesDecisions_69
  refine lv_aload_n hx hb d_MC_changesDecisions_0 rfl (lv_at hl 0 rfl) ?_
  refine g_MC_32 S hX hH hZ d_MC_changesDecisions_1 ?_
  refine lv_iconst (v := (0 : Int32)) hx hb d_MC_changesDecisions_4 (by decide) ?_
  obtain ⟨M6, hc5, hf0⟩ := o_b hf0
  refine q_cVv (As := [.int (0 : Int32)]) (rest := []) S hX hH (c_Run_prepare l hI hZ 124 M (0 : Int32) isRun_124 hc5) (cw_MC_293 S.2.2.2.2 (Nat.le_trans (Nat.le_of_ble_eq_true rfl) hR.1) (Nat.le_trans (Nat.le_of_ble_eq_true rfl) hR.2)) (rc_Run hX hH hZ isRun_124) rfl hl.1 rfl (Nat.le_of_ble_eq_true rfl) d_MC_changesDecisions_5 ⟨Nat.zero_le _, Nat.zero_le _⟩ (fun H locs hH => ?_)
  refine lv_aload_n hx hb d_MC_changesDecisions_8 rfl (lv_at hl 0 rfl) ?_
  refine g_MC_32 S hX hH hZ d_MC_changesDecisions_9 ?_
  refine g_MC_310 S hX hH hZ isRun_124 d_MC_changesDecisions_12 ?_
  refine lv_iload_n hx hb d_MC_changesDecisions_15 rfl (lv_at hl 1 rfl) ?_
  refine lv_iload_n hx hb d_MC_changesDecisions_16 rfl (lv_at hl 2 rfl) ?_
  obtain ⟨hn7, hf0⟩ := o_in hf0
  obtain ⟨M8, hM8, hf0⟩ := o_l hf0
  refine q_iast (j := x1.toNatClampNeg) hx hb hX hI hH (aa_Run_1 hZ isRun_124) hn7 rfl d_MC_changesDecisions_17 (fun H locs hH => ?_)
  rw [hM8] at hH
  refine lv_aload_n hx hb d_MC_changesDecisions_18 rfl (lv_at hl 0 rfl) ?_
  refine g_MC_32 S hX hH hZ d_MC_changesDecisions_19 ?_
  obtain ⟨M10, hc9, hf0⟩ := o_b hf0
  refine q_cVv (As := []) (rest := []) S hX hH (c_Run_play l hI hZ 124 M8 isRun_124 hc9) (cw_MC_299 S.2.2.2.2 (Nat.le_trans (Nat.le_of_ble_eq_true rfl) hR.1) (Nat.le_trans (Nat.le_of_ble_eq_true rfl) hR.2)) (rc_Run hX hH hZ isRun_124) rfl hl.1 rfl (Nat.le_of_ble_eq_true rfl) d_MC_changesDecisions_22 ⟨Nat.zero_le _, Nat.zero_le _⟩ (fun H locs hH => ?_)
  refine lv_iconst (v := (0 : Int32)) hx hb d_MC_changesDecisions_25 (by decide) ?_
  refine lv_istore_n (lv' := [(3, .int (0 : Int32)), (0, .ref (Z.2.2.1 138)), (1, .int x1), (2, .int x2)]) hx hb d_MC_changesDecisions_26 rfl hl (by decide) rfl (fun ls hl => ?_)
  exact J27 _ _ _ _ _ hf0 hH (lv_sub hl [1, 0] rfl)
theorem c_MC_changesDecisions (l : Launch) {Z : WD} (hI : wI Z) (hZ : IsC Z) (M : Mem) (x1 : Int32) (x2 : Int32) {r : Bool} {M' : Mem} (hf : f_MC_changesDecisions M x1 x2 = some (r, M')) : Ci l Z y_MC_changesDecisions b_MC_changesDecisions 4 (some .boolean) 5 115 [.ref (Z.2.2.1 138), .int x1, .int x2] M M' (bI r) := by
  refine Met.ofW (cc := b_MC_changesDecisions) (maxL := 4) (ret := (some .boolean)) (by decide) rfl ?_
  intro p e s m args below meth c s₁ B hml hv
  obtain ⟨rfl, hP, hX⟩ := hv
  have S : CallFix p m c b_MC_changesDecisions 4 s ([.ref (Z.2.2.1 138), .int x1, .int x2] : List Value).toArray gtb R_MC := ⟨B.exec, B.bytes, hml, findClass_of_methodNamed B.named, fun w hw => atoms_spec (ws := .code y_MC_changesDecisions b_MC_changesDecisions 4 (some .boolean) :: gtb) B.pre w (List.mem_cons_of_mem _ hw)⟩
  have hl := lv_entry ([.ref (Z.2.2.1 138), .int x1, .int x2]) (n := 4) (Nat.le_of_ble_eq_true rfl)
  rw [lg_entry_eq]
  exact wk_MC_changesDecisions hI hZ M x1 x2 S hX ⟨Nat.le_refl _, Nat.le_refl _⟩ (fun pc H locs ls hH d => q_rz S.1 S.2.1 B.returns B.notSynchronized hH rfl rfl d) hf ⟨hP, va_S.rf⟩ hl
theorem cw_MC_301 {R : Room} {s : State} {args : Array Value} (ht : ∀ w ∈ gtb, w.before args s = true) (h1 : 5 + 1 ≤ R.frames) (h2 : 8 + (4 + 11) + 115 ≤ R.locals) : CallW R s args R_MC R_MC 301 y_MC_changesDecisions b_MC_changesDecisions 4 (some .boolean) (.code y_MC_changesDecisions b_MC_changesDecisions 4 (some .boolean) :: gtb) { frames := 5, cells := 0, slots := 0, locals := 115 } 0 0 2 := cwV 2 ht (gV w4_137 w4_139 ws_MC_changesDecisions w1_1 w4_140) rfl rfl rfl ⟨rfl, by decide, by decide, by decide +kernel⟩ ⟨h1, h2⟩
noncomputable def f_MC_slack_L26 (x4 : Int32) (x5 : Int32) (M : Mem) : Option ((Int32 × Mem) ⊕ ((Int32 × Mem) ⊕ (Int32 × Mem))) := if (7 : Int32) < x5 then some (.inr (.inr ((7 : Int32), M))) else 
    bnd2 (f_MC_changesDecisions M x4 x5) (fun y3 M2 => if (bI y3) = 0 then some (.inl (x5 + (1 : Int32), M2)) else some (.inr (.inl (x5, M2))))
noncomputable def f_MC_slack_W26 (x4 : Int32) (u : (Int32 × Mem)) : Option ((Int32 × Mem) ⊕ (Int32 × Mem)) := loop (fun t => f_MC_slack_L26 x4 t.1 t.2) u
noncomputable def f_MC_slack_J26 (M : Mem) (x4 : Int32) (x5 : Int32) : Option (Int32 × Mem) := bnd (f_MC_slack_W26 x4 (x5, M)) (fun e26 => lex2 e26 (fun t26 => if t26.1 = 0 then some ((-2 : Int32), t26.2) else some (t26.1 - (1 : Int32), t26.2)) (fun r26 => some r26))
noncomputable def f_MC_slack (M : Mem) (x1 : Int32) (x2 : Int32) (x3 : Int32) : Option (Int32 × Mem) := 
    if (bI (f_Play_hasRoute 0 M x1 x2 x3)) = 0 then some ((-1 : Int32), M) else f_MC_slack_J26 M (f_Route_of x1 x2 x3) (0 : Int32)
set_option maxHeartbeats 4000000 in
theorem wk_MC_slack {l : Launch} {Z : WD} (hI : wI Z) (hZ : IsC Z) (M : Mem) (x1 : Int32) (x2 : Int32) (x3 : Int32) {r : Int32} {M' : Mem} {p : Program} {e : Env} {R : Room} {s : State} {m : MethodId} {args : Array Value} {below : List Frame} {meth : Method} {c : Code} {H : Heap} {locs : List Loc} {ls : Array Slot} {Q : State → Prop} (S : CallFix p m c b_MC_slack 6 s args gtb R_MC) (hX : wX Z s) (hR : 6 ≤ R.frames ∧ 138 ≤ R.locals) (hQ : ∀ (pc : Nat) (H : Heap) (locs : List Loc) (ls : Array Slot), HW Z M' s H locs → decode b_MC_slack pc = .ok (.ireturn, 1) → W p l e R s m args below meth c H locs 0 0 Q (F0 m pc ls [.int r])) (hf0 : f_MC_slack M x1 x2 x3 = some (r, M')) (hH : HW Z M s H locs) (hl : lv_has ls 6 [(0, .ref (Z.2.2.1 138)), (1, .int x1), (2, .int x2), (3, .int x3)]) : W p l e R s m args below meth c H locs 0 0 Q (F0 m 0 ls []) := by
  have hx := S.1
  have hb := S.2.1
  have hown := S.2.2.2.1
  have ht := S.2.2.2.2
  unfold f_MC_slack at hf0
  have J26 : ∀ (M : Mem) (x4 : Int32) (x5 : Int32) (H : Heap) (locs : List Loc) (ls : Array Slot), f_MC_slack_J26 M x4 x5 = some (r, M') → HW Z M s H locs → lv_has ls 6 [(0, .ref (Z.2.2.1 138)), (4, .int x4), (5, .int x5)] → W p l e R s m args below meth c H locs 0 0 Q (F0 m 26 ls []) := by
    intro M x4 x5 H locs ls hf0 hH hl
    unfold f_MC_slack_J26 at hf0
    obtain ⟨e26, he26, hf0⟩ := o_b hf0
    have KX26 : ∀ (t26 : (Int32 × Mem)), e26 = .inl t26 → ∀ (H : Heap) (locs : List Loc) (ls : Array Slot), HW Z t26.2 s H locs → lv_has ls 6 [(5, .int t26.1)] → W p l e R s m args below meth c H locs 0 0 Q (F0 m 44 ls []) := by
      intro t26 he0 H locs ls hH hl
      subst he0
      replace hf0 := o_x1 hf0
      refine lv_iload hx hb d_MC_slack_44 (lv_at hl 0 rfl) ?_
      refine lv_if_ne (tgt := 54) hx hb d_MC_slack_46 (by decide) (fun hc => ?_) (fun hc => ?_)
      · replace hf0 := o_f hc hf0
        refine lv_iload hx hb d_MC_slack_54 (lv_at hl 0 rfl) ?_
        refine lv_iconst (v := (1 : Int32)) hx hb d_MC_slack_56 (by decide) ?_
        refine lv_isub hx hb d_MC_slack_57 ?_
        obtain ⟨rfl, rfl⟩ := o_p hf0
        exact hQ _ _ _ _ hH d_MC_slack_58
      · replace hf0 := o_t hc hf0
        refine lv_bipush (v := (-2 : Int32)) hx hb d_MC_slack_49 (by decide) ?_
        refine lv_goto (tgt := 58) hx hb d_MC_slack_51 (by decide) ?_
        obtain ⟨rfl, rfl⟩ := o_p hf0
        exact hQ _ _ _ _ hH d_MC_slack_58
    unfold f_MC_slack_W26 at he26
    refine loop_W (fun t => ∀ (H : Heap) (locs : List Loc) (ls : Array Slot), HW Z t.2 s H locs → lv_has ls 6 [(0, .ref (Z.2.2.1 138)), (4, .int x4), (5, .int t.1)] → W p l e R s m args below meth c H locs 0 0 Q (F0 m 26 ls [])) ?_ he26 H locs ls hH hl
    rintro ⟨x5, M⟩ o1 hf1 hG1 hR1 H locs ls hH hl
    replace hH : HW Z M s H locs := hH
    replace hl : lv_has ls 6 [(0, .ref (Z.2.2.1 138)), (4, .int x4), (5, .int x5)] := hl
    replace hf1 : f_MC_slack_L26 x4 x5 M = some o1 := hf1
    unfold f_MC_slack_L26 at hf1
    refine lv_iload hx hb d_MC_slack_26 (lv_at hl 2 rfl) ?_
    refine lv_bipush (v := (7 : Int32)) hx hb d_MC_slack_28 (by decide) ?_
    refine lv_icmp_gt (tgt := 65) hx hb d_MC_slack_30 (by decide) (fun hc => ?_) (fun hc => ?_)
    · replace hf1 := o_t hc hf1
      refine lv_bipush (v := (7 : Int32)) hx hb d_MC_slack_65 (by decide) ?_
      obtain rfl := hR1 _ (o_v hf1).symm
      replace hf0 := o_x2 hf0
      obtain ⟨rfl, rfl⟩ := o_p hf0
      exact hQ _ _ _ _ hH d_MC_slack_67
    · replace hf1 := o_f hc hf1
      refine lv_aload_n hx hb d_MC_slack_33 rfl (lv_at hl 0 rfl) ?_
      refine lv_iload hx hb d_MC_slack_34 (lv_at hl 1 rfl) ?_
      refine lv_iload hx hb d_MC_slack_36 (lv_at hl 2 rfl) ?_
      obtain ⟨y3, M2, hc1, hf1⟩ := o_b2 hf1
      refine q_cVi (As := [.int x4, .int x5]) (rest := []) S hX hH (c_MC_changesDecisions l hI hZ M x4 x5 hc1) (cw_MC_301 S.2.2.2.2 (Nat.le_trans (Nat.le_of_ble_eq_true rfl) hR.1) (Nat.le_trans (Nat.le_of_ble_eq_true rfl) hR.2)) (rc_MC hX hH hZ) rfl hl.1 rfl (Nat.le_of_ble_eq_true rfl) d_MC_slack_38 ⟨Nat.zero_le _, Nat.zero_le _⟩ (fun H locs hH => ?_)
      refine lv_if_eq (tgt := 59) hx hb d_MC_slack_41 (by decide) (fun hc => ?_) (fun hc => ?_)
      · replace hf1 := o_t hc hf1
        refine lv_iinc (v := x5 + (1 : Int32)) (lv' := [(5, .int (x5 + (1 : Int32))), (0, .ref (Z.2.2.1 138)), (4, .int x4)]) hx hb d_MC_slack_59 hl (k := 2) rfl rfl (by decide) rfl (fun ls hl => ?_)
        refine lv_goto (tgt := 26) hx hb d_MC_slack_62 (by decide) ?_
        exact hG1 _ (o_v hf1).symm _ _ _ hH (lv_sub hl [1, 2, 0] rfl)
      · replace hf1 := o_f hc hf1
        obtain rfl := hR1 _ (o_v hf1).symm
        exact KX26 _ rfl _ _ _ hH (lv_sub hl [2] rfl)
  refine lv_aload_n hx hb d_MC_slack_0 rfl (lv_at hl 0 rfl) ?_
  refine g_MC_10 S hX hH hZ d_MC_slack_1 ?_
  refine lv_iload_n hx hb d_MC_slack_4 rfl (lv_at hl 1 rfl) ?_
  refine lv_iload_n hx hb d_MC_slack_5 rfl (lv_at hl 2 rfl) ?_
  refine lv_iload_n hx hb d_MC_slack_6 rfl (lv_at hl 3 rfl) ?_
  refine q_cVi (As := [.int x1, .int x2, .int x3]) (rest := []) S hX hH (c_Play_hasRoute l hI hZ 0 M x1 x2 x3 isPlay_0 rfl) (cw_MC_98 S.2.2.2.2 (Nat.le_trans (Nat.le_of_ble_eq_true rfl) hR.1) (Nat.le_trans (Nat.le_of_ble_eq_true rfl) hR.2)) (rc_Play hX hH hZ isPlay_0) rfl hl.1 rfl (Nat.le_of_ble_eq_true rfl) d_MC_slack_7 ⟨Nat.zero_le _, Nat.zero_le _⟩ (fun H locs hH => ?_)
  refine lv_if_ne (tgt := 15) hx hb d_MC_slack_10 (by decide) (fun hc => ?_) (fun hc => ?_)
  · replace hf0 := o_f hc hf0
    refine lv_iload_n hx hb d_MC_slack_15 rfl (lv_at hl 1 rfl) ?_
    refine lv_iload_n hx hb d_MC_slack_16 rfl (lv_at hl 2 rfl) ?_
    refine lv_iload_n hx hb d_MC_slack_17 rfl (lv_at hl 3 rfl) ?_
    refine q_cSi (As := [.int x1, .int x2, .int x3]) (rest := []) S hX hH (c_Route_of l hI M x1 x2 x3 rfl) (cw_MC_111 S.2.2.2.2 (Nat.le_trans (Nat.le_of_ble_eq_true rfl) hR.1) (Nat.le_trans (Nat.le_of_ble_eq_true rfl) hR.2)) rfl hl.1 rfl (Nat.le_of_ble_eq_true rfl) d_MC_slack_18 ⟨Nat.zero_le _, Nat.zero_le _⟩ (fun H locs hH => ?_)
    refine lv_istore (lv' := [(4, .int (f_Route_of x1 x2 x3)), (0, .ref (Z.2.2.1 138)), (1, .int x1), (2, .int x2), (3, .int x3)]) hx hb d_MC_slack_21 hl (by decide) rfl (fun ls hl => ?_)
    refine lv_iconst (v := (0 : Int32)) hx hb d_MC_slack_23 (by decide) ?_
    refine lv_istore (lv' := [(5, .int (0 : Int32)), (4, .int (f_Route_of x1 x2 x3)), (0, .ref (Z.2.2.1 138)), (1, .int x1), (2, .int x2), (3, .int x3)]) hx hb d_MC_slack_24 hl (by decide) rfl (fun ls hl => ?_)
    exact J26 _ _ _ _ _ _ hf0 hH (lv_sub hl [2, 1, 0] rfl)
  · replace hf0 := o_t hc hf0
    refine lv_iconst (v := (-1 : Int32)) hx hb d_MC_slack_13 (by decide) ?_
    obtain ⟨rfl, rfl⟩ := o_p hf0
    exact hQ _ _ _ _ hH d_MC_slack_14
theorem c_MC_slack (l : Launch) {Z : WD} (hI : wI Z) (hZ : IsC Z) (M : Mem) (x1 : Int32) (x2 : Int32) (x3 : Int32) {r : Int32} {M' : Mem} (hf : f_MC_slack M x1 x2 x3 = some (r, M')) : Ci l Z y_MC_slack b_MC_slack 6 (some .int) 6 138 [.ref (Z.2.2.1 138), .int x1, .int x2, .int x3] M M' r := by
  refine Met.ofW (cc := b_MC_slack) (maxL := 6) (ret := (some .int)) (by decide) rfl ?_
  intro p e s m args below meth c s₁ B hml hv
  obtain ⟨rfl, hP, hX⟩ := hv
  have S : CallFix p m c b_MC_slack 6 s ([.ref (Z.2.2.1 138), .int x1, .int x2, .int x3] : List Value).toArray gtb R_MC := ⟨B.exec, B.bytes, hml, findClass_of_methodNamed B.named, fun w hw => atoms_spec (ws := .code y_MC_slack b_MC_slack 6 (some .int) :: gtb) B.pre w (List.mem_cons_of_mem _ hw)⟩
  have hl := lv_entry ([.ref (Z.2.2.1 138), .int x1, .int x2, .int x3]) (n := 6) (Nat.le_of_ble_eq_true rfl)
  rw [lg_entry_eq]
  exact wk_MC_slack hI hZ M x1 x2 x3 S hX ⟨Nat.le_refl _, Nat.le_refl _⟩ (fun pc H locs ls hH d => q_ri S.1 S.2.1 B.returns B.notSynchronized hH rfl rfl d) hf ⟨hP, va_S.rf⟩ hl
theorem cw_MC_307 {R : Room} {s : State} {args : Array Value} (ht : ∀ w ∈ gtb, w.before args s = true) (h1 : 0 + 1 ≤ R.frames) (h2 : 8 + (3 + 11) + 0 ≤ R.locals) : CallW R s args R_MC R_Run 307 y_Run_anyComes b_Run_anyComes 3 (some .boolean) (.code y_Run_anyComes b_Run_anyComes 3 (some .boolean) :: gtb) { frames := 0, cells := 0, slots := 0, locals := 0 } 0 0 1 := cwV 1 ht (gV w4_149 w4_150 w4_151 w1_4 w4_152) rfl rfl rfl ⟨rfl, by decide, by decide, by decide +kernel⟩ ⟨h1, h2⟩
noncomputable def f_MC_isCrucial_J62 (M : Mem) : Option (Bool × Mem) := some (false, M)
noncomputable def f_MC_isCrucial (M : Mem) (x1 : Int32) (x2 : Int32) (x3 : Int32) : Option (Bool × Mem) := 
    if (bI (f_Play_hasRoute 0 M x1 x2 x3)) = 0 then some (false, M) else 
    bnd (f_Play_isOmitted 0 M (f_Route_of x1 x2 x3)) (fun y2 => 
    if (bI y2) = 0 then 
    bnd (f_Run_anyComes 112 M (f_Route_of x1 x2 x3)) (fun y4 => 
    if (bI y4) = 0 then f_MC_isCrucial_J62 M else 
    bnd2 (f_MC_changesDecisions M (f_Route_of x1 x2 x3) (99 : Int32)) (fun y7 M6 => if (bI y7) = 0 then f_MC_isCrucial_J62 M6 else some (true, M6))) else f_MC_isCrucial_J62 M)
set_option maxHeartbeats 4000000 in
theorem wk_MC_isCrucial {l : Launch} {Z : WD} (hI : wI Z) (hZ : IsC Z) (M : Mem) (x1 : Int32) (x2 : Int32) (x3 : Int32) {r : Bool} {M' : Mem} {p : Program} {e : Env} {R : Room} {s : State} {m : MethodId} {args : Array Value} {below : List Frame} {meth : Method} {c : Code} {H : Heap} {locs : List Loc} {ls : Array Slot} {Q : State → Prop} (S : CallFix p m c b_MC_isCrucial 5 s args gtb R_MC) (hX : wX Z s) (hR : 6 ≤ R.frames ∧ 138 ≤ R.locals) (hQ : ∀ (pc : Nat) (H : Heap) (locs : List Loc) (ls : Array Slot), HW Z M' s H locs → decode b_MC_isCrucial pc = .ok (.ireturn, 1) → W p l e R s m args below meth c H locs 0 0 Q (F0 m pc ls [.int (bI r)])) (hf0 : f_MC_isCrucial M x1 x2 x3 = some (r, M')) (hH : HW Z M s H locs) (hl : lv_has ls 5 [(0, .ref (Z.2.2.1 138)), (1, .int x1), (2, .int x2), (3, .int x3)]) : W p l e R s m args below meth c H locs 0 0 Q (F0 m 0 ls []) := by
  have hx := S.1
  have hb := S.2.1
  have hown := S.2.2.2.1
  have ht := S.2.2.2.2
  unfold f_MC_isCrucial at hf0
  have J62 : ∀ (M : Mem) (H : Heap) (locs : List Loc) (ls : Array Slot), f_MC_isCrucial_J62 M = some (r, M') → HW Z M s H locs → lv_has ls 5 [] → W p l e R s m args below meth c H locs 0 0 Q (F0 m 62 ls []) := by
    intro M H locs ls hf0 hH hl
    unfold f_MC_isCrucial_J62 at hf0
    refine lv_iconst (v := (0 : Int32)) hx hb d_MC_isCrucial_62 (by decide) ?_
    obtain ⟨rfl, rfl⟩ := o_p hf0
    exact hQ _ _ _ _ hH d_MC_isCrucial_63
  refine lv_aload_n hx hb d_MC_isCrucial_0 rfl (lv_at hl 0 rfl) ?_
  refine g_MC_10 S hX hH hZ d_MC_isCrucial_1 ?_
  refine lv_iload_n hx hb d_MC_isCrucial_4 rfl (lv_at hl 1 rfl) ?_
  refine lv_iload_n hx hb d_MC_isCrucial_5 rfl (lv_at hl 2 rfl) ?_
  refine lv_iload_n hx hb d_MC_isCrucial_6 rfl (lv_at hl 3 rfl) ?_
  refine q_cVi (As := [.int x1, .int x2, .int x3]) (rest := []) S hX hH (c_Play_hasRoute l hI hZ 0 M x1 x2 x3 isPlay_0 rfl) (cw_MC_98 S.2.2.2.2 (Nat.le_trans (Nat.le_of_ble_eq_true rfl) hR.1) (Nat.le_trans (Nat.le_of_ble_eq_true rfl) hR.2)) (rc_Play hX hH hZ isPlay_0) rfl hl.1 rfl (Nat.le_of_ble_eq_true rfl) d_MC_isCrucial_7 ⟨Nat.zero_le _, Nat.zero_le _⟩ (fun H locs hH => ?_)
  refine lv_if_ne (tgt := 15) hx hb d_MC_isCrucial_10 (by decide) (fun hc => ?_) (fun hc => ?_)
  · replace hf0 := o_f hc hf0
    refine lv_iload_n hx hb d_MC_isCrucial_15 rfl (lv_at hl 1 rfl) ?_
    refine lv_iload_n hx hb d_MC_isCrucial_16 rfl (lv_at hl 2 rfl) ?_
    refine lv_iload_n hx hb d_MC_isCrucial_17 rfl (lv_at hl 3 rfl) ?_
    refine q_cSi (As := [.int x1, .int x2, .int x3]) (rest := []) S hX hH (c_Route_of l hI M x1 x2 x3 rfl) (cw_MC_111 S.2.2.2.2 (Nat.le_trans (Nat.le_of_ble_eq_true rfl) hR.1) (Nat.le_trans (Nat.le_of_ble_eq_true rfl) hR.2)) rfl hl.1 rfl (Nat.le_of_ble_eq_true rfl) d_MC_isCrucial_18 ⟨Nat.zero_le _, Nat.zero_le _⟩ (fun H locs hH => ?_)
    refine lv_istore (lv' := [(4, .int (f_Route_of x1 x2 x3)), (0, .ref (Z.2.2.1 138)), (1, .int x1), (2, .int x2), (3, .int x3)]) hx hb d_MC_isCrucial_21 hl (by decide) rfl (fun ls hl => ?_)
    refine lv_aload_n hx hb d_MC_isCrucial_23 rfl (lv_at hl 1 rfl) ?_
    refine g_MC_10 S hX hH hZ d_MC_isCrucial_24 ?_
    refine lv_iload hx hb d_MC_isCrucial_27 (lv_at hl 0 rfl) ?_
    obtain ⟨y2, hc1, hf0⟩ := o_b hf0
    refine q_cVi (As := [.int (f_Route_of x1 x2 x3)]) (rest := []) S hX hH (c_Play_isOmitted l hI hZ 0 M (f_Route_of x1 x2 x3) isPlay_0 hc1) (cw_MC_128 S.2.2.2.2 (Nat.le_trans (Nat.le_of_ble_eq_true rfl) hR.1) (Nat.le_trans (Nat.le_of_ble_eq_true rfl) hR.2)) (rc_Play hX hH hZ isPlay_0) rfl hl.1 rfl (Nat.le_of_ble_eq_true rfl) d_MC_isCrucial_29 ⟨Nat.zero_le _, Nat.zero_le _⟩ (fun H locs hH => ?_)
    refine lv_if_ne (tgt := 62) hx hb d_MC_isCrucial_32 (by decide) (fun hc => ?_) (fun hc => ?_)
    · replace hf0 := o_f hc hf0
      exact J62 _ _ _ _ hf0 hH (lv_sub hl [] rfl)
    · replace hf0 := o_t hc hf0
      refine lv_aload_n hx hb d_MC_isCrucial_35 rfl (lv_at hl 1 rfl) ?_
      refine g_MC_28 S hX hH hZ d_MC_isCrucial_36 ?_
      refine lv_iload hx hb d_MC_isCrucial_39 (lv_at hl 0 rfl) ?_
      obtain ⟨y4, hc3, hf0⟩ := o_b hf0
      refine q_cVi (As := [.int (f_Route_of x1 x2 x3)]) (rest := []) S hX hH (c_Run_anyComes l hI hZ 112 M (f_Route_of x1 x2 x3) isRun_112 hc3) (cw_MC_307 S.2.2.2.2 (Nat.le_trans (Nat.le_of_ble_eq_true rfl) hR.1) (Nat.le_trans (Nat.le_of_ble_eq_true rfl) hR.2)) (rc_Run hX hH hZ isRun_112) rfl hl.1 rfl (Nat.le_of_ble_eq_true rfl) d_MC_isCrucial_41 ⟨Nat.zero_le _, Nat.zero_le _⟩ (fun H locs hH => ?_)
      refine lv_if_eq (tgt := 62) hx hb d_MC_isCrucial_44 (by decide) (fun hc => ?_) (fun hc => ?_)
      · replace hf0 := o_t hc hf0
        exact J62 _ _ _ _ hf0 hH (lv_sub hl [] rfl)
      · replace hf0 := o_f hc hf0
        refine lv_aload_n hx hb d_MC_isCrucial_47 rfl (lv_at hl 1 rfl) ?_
        refine lv_iload hx hb d_MC_isCrucial_48 (lv_at hl 0 rfl) ?_
        refine lv_bipush (v := (99 : Int32)) hx hb d_MC_isCrucial_50 (by decide) ?_
        obtain ⟨y7, M6, hc5, hf0⟩ := o_b2 hf0
        refine q_cVi (As := [.int (f_Route_of x1 x2 x3), .int (99 : Int32)]) (rest := []) S hX hH (c_MC_changesDecisions l hI hZ M (f_Route_of x1 x2 x3) (99 : Int32) hc5) (cw_MC_301 S.2.2.2.2 (Nat.le_trans (Nat.le_of_ble_eq_true rfl) hR.1) (Nat.le_trans (Nat.le_of_ble_eq_true rfl) hR.2)) (rc_MC hX hH hZ) rfl hl.1 rfl (Nat.le_of_ble_eq_true rfl) d_MC_isCrucial_52 ⟨Nat.zero_le _, Nat.zero_le _⟩ (fun H locs hH => ?_)
        refine lv_if_eq (tgt := 62) hx hb d_MC_isCrucial_55 (by decide) (fun hc => ?_) (fun hc => ?_)
        · replace hf0 := o_t hc hf0
          exact J62 _ _ _ _ hf0 hH (lv_sub hl [] rfl)
        · replace hf0 := o_f hc hf0
          refine lv_iconst (v := (1 : Int32)) hx hb d_MC_isCrucial_58 (by decide) ?_
          refine lv_goto (tgt := 63) hx hb d_MC_isCrucial_59 (by decide) ?_
          obtain ⟨rfl, rfl⟩ := o_p hf0
          exact hQ _ _ _ _ hH d_MC_isCrucial_63
  · replace hf0 := o_t hc hf0
    refine lv_iconst (v := (0 : Int32)) hx hb d_MC_isCrucial_13 (by decide) ?_
    obtain ⟨rfl, rfl⟩ := o_p hf0
    exact hQ _ _ _ _ hH d_MC_isCrucial_14
theorem c_MC_isCrucial (l : Launch) {Z : WD} (hI : wI Z) (hZ : IsC Z) (M : Mem) (x1 : Int32) (x2 : Int32) (x3 : Int32) {r : Bool} {M' : Mem} (hf : f_MC_isCrucial M x1 x2 x3 = some (r, M')) : Ci l Z y_MC_isCrucial b_MC_isCrucial 5 (some .boolean) 6 138 [.ref (Z.2.2.1 138), .int x1, .int x2, .int x3] M M' (bI r) := by
  refine Met.ofW (cc := b_MC_isCrucial) (maxL := 5) (ret := (some .boolean)) (by decide) rfl ?_
  intro p e s m args below meth c s₁ B hml hv
  obtain ⟨rfl, hP, hX⟩ := hv
  have S : CallFix p m c b_MC_isCrucial 5 s ([.ref (Z.2.2.1 138), .int x1, .int x2, .int x3] : List Value).toArray gtb R_MC := ⟨B.exec, B.bytes, hml, findClass_of_methodNamed B.named, fun w hw => atoms_spec (ws := .code y_MC_isCrucial b_MC_isCrucial 5 (some .boolean) :: gtb) B.pre w (List.mem_cons_of_mem _ hw)⟩
  have hl := lv_entry ([.ref (Z.2.2.1 138), .int x1, .int x2, .int x3]) (n := 5) (Nat.le_of_ble_eq_true rfl)
  rw [lg_entry_eq]
  exact wk_MC_isCrucial hI hZ M x1 x2 x3 S hX ⟨Nat.le_refl _, Nat.le_refl _⟩ (fun pc H locs ls hH d => q_rz S.1 S.2.1 B.returns B.notSynchronized hH rfl rfl d) hf ⟨hP, va_S.rf⟩ hl
theorem cw_MC_304 {R : Room} {s : State} {args : Array Value} (ht : ∀ w ∈ gtb, w.before args s = true) (h1 : 6 + 1 ≤ R.frames) (h2 : 8 + (5 + 11) + 138 ≤ R.locals) : CallW R s args R_MC R_MC 304 y_MC_isCrucial b_MC_isCrucial 5 (some .boolean) (.code y_MC_isCrucial b_MC_isCrucial 5 (some .boolean) :: gtb) { frames := 6, cells := 0, slots := 0, locals := 138 } 0 0 3 := cwV 3 ht (gV w4_145 w4_147 ws_MC_isCrucial w1_1 w4_148) rfl rfl rfl ⟨rfl, by decide, by decide, by decide +kernel⟩ ⟨h1, h2⟩
noncomputable def f_MC_crucial_L40 (x1 : Int32) (x2 : Int32) (x3 : Int32) (x4 : Int32) (M : Mem) : Option ((Int32 × Int32 × Mem) ⊕ ((Int32 × Mem) ⊕ (Int32 × Mem))) := if (64 : Int32) ≤ x4 then some (.inr (.inl (x3, M))) else 
    bnd2 (f_MC_isCrucial M x1 (x4 / (8 : Int32)) (x4 - x4 / (8 : Int32) * (8 : Int32))) (fun y3 M2 => 
    if (bI y3) = 0 then some (.inl (x3, x4 + (1 : Int32), M2)) else 
    if x3 = x2 then some (.inr (.inr (x4, M2))) else some (.inl (x3 + (1 : Int32), x4 + (1 : Int32), M2)))
noncomputable def f_MC_crucial_W40 (x1 : Int32) (x2 : Int32) (u : (Int32 × Int32 × Mem)) : Option ((Int32 × Mem) ⊕ (Int32 × Mem)) := loop (fun t => f_MC_crucial_L40 x1 x2 t.1 t.2.1 t.2.2) u
noncomputable def f_MC_crucial_J40 (M : Mem) (x1 : Int32) (x2 : Int32) (x3 : Int32) (x4 : Int32) : Option (Int32 × Mem) := bnd (f_MC_crucial_W40 x1 x2 (x3, x4, M)) (fun e40 => lex2 e40 (fun t40 => if x2 = (-1 : Int32) then some (t40.1, t40.2) else some ((-2 : Int32), t40.2)) (fun r40 => some r40))
noncomputable def f_MC_crucial (M : Mem) (x1 : Int32) (x2 : Int32) : Option (Int32 × Mem) := 
    if (M 0 0) = 0 then some ((-1 : Int32), M) else 
    if x1 < (1 : Int32) then some ((-1 : Int32), M) else 
    if (M 1 2) < x1 then some ((-1 : Int32), M) else 
    if (-1 : Int32) ≤ x2 then f_MC_crucial_J40 M x1 x2 (0 : Int32) (0 : Int32) else some ((-1 : Int32), M)
set_option maxHeartbeats 4000000 in
theorem wk_MC_crucial {l : Launch} {Z : WD} (hI : wI Z) (hZ : IsC Z) (M : Mem) (x1 : Int32) (x2 : Int32) {r : Int32} {M' : Mem} {p : Program} {e : Env} {R : Room} {s : State} {m : MethodId} {args : Array Value} {below : List Frame} {meth : Method} {c : Code} {H : Heap} {locs : List Loc} {ls : Array Slot} {Q : State → Prop} (S : CallFix p m c b_MC_crucial 5 s args gtb R_MC) (hX : wX Z s) (hR : 7 ≤ R.frames ∧ 162 ≤ R.locals) (hQ : ∀ (pc : Nat) (H : Heap) (locs : List Loc) (ls : Array Slot), HW Z M' s H locs → decode b_MC_crucial pc = .ok (.ireturn, 1) → W p l e R s m args below meth c H locs 0 0 Q (F0 m pc ls [.int r])) (hf0 : f_MC_crucial M x1 x2 = some (r, M')) (hH : HW Z M s H locs) (hl : lv_has ls 5 [(0, .ref (Z.2.2.1 138)), (1, .int x1), (2, .int x2)]) : W p l e R s m args below meth c H locs 0 0 Q (F0 m 0 ls []) := by
  have hx := S.1
  have hb := S.2.1
  have hown := S.2.2.2.1
  have ht := S.2.2.2.2
  unfold f_MC_crucial at hf0
  have J40 : ∀ (M : Mem) (x1 : Int32) (x2 : Int32) (x3 : Int32) (x4 : Int32) (H : Heap) (locs : List Loc) (ls : Array Slot), f_MC_crucial_J40 M x1 x2 x3 x4 = some (r, M') → HW Z M s H locs → lv_has ls 5 [(0, .ref (Z.2.2.1 138)), (1, .int x1), (2, .int x2), (3, .int x3), (4, .int x4)] → W p l e R s m args below meth c H locs 0 0 Q (F0 m 40 ls []) := by
    intro M x1 x2 x3 x4 H locs ls hf0 hH hl
    unfold f_MC_crucial_J40 at hf0
    obtain ⟨e40, he40, hf0⟩ := o_b hf0
    have KX40 : ∀ (t40 : (Int32 × Mem)), e40 = .inl t40 → ∀ (H : Heap) (locs : List Loc) (ls : Array Slot), HW Z t40.2 s H locs → lv_has ls 5 [(2, .int x2), (3, .int t40.1)] → W p l e R s m args below meth c H locs 0 0 Q (F0 m 82 ls []) := by
      intro t40 he0 H locs ls hH hl
      subst he0
      replace hf0 := o_x1 hf0
      refine lv_iload_n hx hb d_MC_crucial_82 rfl (lv_at hl 0 rfl) ?_
      refine lv_iconst (v := (-1 : Int32)) hx hb d_MC_crucial_83 (by decide) ?_
      refine lv_icmp_ne (tgt := 91) hx hb d_MC_crucial_84 (by decide) (fun hc => ?_) (fun hc => ?_)
      · replace hf0 := o_f hc hf0
        refine lv_bipush (v := (-2 : Int32)) hx hb d_MC_crucial_91 (by decide) ?_
        obtain ⟨rfl, rfl⟩ := o_p hf0
        exact hQ _ _ _ _ hH d_MC_crucial_93
      · replace hf0 := o_t hc hf0
        refine lv_iload_n hx hb d_MC_crucial_87 rfl (lv_at hl 1 rfl) ?_
        refine lv_goto (tgt := 93) hx hb d_MC_crucial_88 (by decide) ?_
        obtain ⟨rfl, rfl⟩ := o_p hf0
        exact hQ _ _ _ _ hH d_MC_crucial_93
    unfold f_MC_crucial_W40 at he40
    refine loop_W (fun t => ∀ (H : Heap) (locs : List Loc) (ls : Array Slot), HW Z t.2.2 s H locs → lv_has ls 5 [(0, .ref (Z.2.2.1 138)), (1, .int x1), (2, .int x2), (3, .int t.1), (4, .int t.2.1)] → W p l e R s m args below meth c H locs 0 0 Q (F0 m 40 ls [])) ?_ he40 H locs ls hH hl
    rintro ⟨x3, x4, M⟩ o1 hf1 hG1 hR1 H locs ls hH hl
    replace hH : HW Z M s H locs := hH
    replace hl : lv_has ls 5 [(0, .ref (Z.2.2.1 138)), (1, .int x1), (2, .int x2), (3, .int x3), (4, .int x4)] := hl
    replace hf1 : f_MC_crucial_L40 x1 x2 x3 x4 M = some o1 := hf1
    unfold f_MC_crucial_L40 at hf1
    refine lv_iload hx hb d_MC_crucial_40 (lv_at hl 4 rfl) ?_
    refine lv_bipush (v := (64 : Int32)) hx hb d_MC_crucial_42 (by decide) ?_
    refine lv_icmp_ge (tgt := 82) hx hb d_MC_crucial_44 (by decide) (fun hc => ?_) (fun hc => ?_)
    · replace hf1 := o_t hc hf1
      obtain rfl := hR1 _ (o_v hf1).symm
      exact KX40 _ rfl _ _ _ hH (lv_sub hl [2, 3] rfl)
    · replace hf1 := o_f hc hf1
      refine lv_aload_n hx hb d_MC_crucial_47 rfl (lv_at hl 0 rfl) ?_
      refine lv_iload_n hx hb d_MC_crucial_48 rfl (lv_at hl 1 rfl) ?_
      refine lv_iload hx hb d_MC_crucial_49 (lv_at hl 4 rfl) ?_
      refine lv_bipush (v := (8 : Int32)) hx hb d_MC_crucial_51 (by decide) ?_
      refine lv_idiv hx hb d_MC_crucial_53 (by decide) ?_
      refine lv_iload hx hb d_MC_crucial_54 (lv_at hl 4 rfl) ?_
      refine lv_bipush (v := (8 : Int32)) hx hb d_MC_crucial_56 (by decide) ?_
      refine lv_irem hx hb d_MC_crucial_58 (by decide) ?_
      obtain ⟨y3, M2, hc1, hf1⟩ := o_b2 hf1
      refine q_cVi (As := [.int x1, .int (x4 / (8 : Int32)), .int (x4 - x4 / (8 : Int32) * (8 : Int32))]) (rest := []) S hX hH (c_MC_isCrucial l hI hZ M x1 (x4 / (8 : Int32)) (x4 - x4 / (8 : Int32) * (8 : Int32)) hc1) (cw_MC_304 S.2.2.2.2 (Nat.le_trans (Nat.le_of_ble_eq_true rfl) hR.1) (Nat.le_trans (Nat.le_of_ble_eq_true rfl) hR.2)) (rc_MC hX hH hZ) rfl hl.1 rfl (Nat.le_of_ble_eq_true rfl) d_MC_crucial_59 ⟨Nat.zero_le _, Nat.zero_le _⟩ (fun H locs hH => ?_)
      refine lv_if_eq (tgt := 76) hx hb d_MC_crucial_62 (by decide) (fun hc => ?_) (fun hc => ?_)
      · replace hf1 := o_t hc hf1
        refine lv_iinc (v := x4 + (1 : Int32)) (lv' := [(4, .int (x4 + (1 : Int32))), (0, .ref (Z.2.2.1 138)), (1, .int x1), (2, .int x2), (3, .int x3)]) hx hb d_MC_crucial_76 hl (k := 4) rfl rfl (by decide) rfl (fun ls hl => ?_)
        refine lv_goto (tgt := 40) hx hb d_MC_crucial_79 (by decide) ?_
        exact hG1 _ (o_v hf1).symm _ _ _ hH (lv_sub hl [1, 2, 3, 4, 0] rfl)
      · replace hf1 := o_f hc hf1
        refine lv_iload_n hx hb d_MC_crucial_65 rfl (lv_at hl 3 rfl) ?_
        refine lv_iload_n hx hb d_MC_crucial_66 rfl (lv_at hl 2 rfl) ?_
        refine lv_icmp_ne (tgt := 73) hx hb d_MC_crucial_67 (by decide) (fun hc => ?_) (fun hc => ?_)
        · replace hf1 := o_f hc hf1
          refine lv_iinc (v := x3 + (1 : Int32)) (lv' := [(3, .int (x3 + (1 : Int32))), (0, .ref (Z.2.2.1 138)), (1, .int x1), (2, .int x2), (4, .int x4)]) hx hb d_MC_crucial_73 hl (k := 3) rfl rfl (by decide) rfl (fun ls hl => ?_)
          refine lv_iinc (v := x4 + (1 : Int32)) (lv' := [(4, .int (x4 + (1 : Int32))), (3, .int (x3 + (1 : Int32))), (0, .ref (Z.2.2.1 138)), (1, .int x1), (2, .int x2)]) hx hb d_MC_crucial_76 hl (k := 4) rfl rfl (by decide) rfl (fun ls hl => ?_)
          refine lv_goto (tgt := 40) hx hb d_MC_crucial_79 (by decide) ?_
          exact hG1 _ (o_v hf1).symm _ _ _ hH (lv_sub hl [2, 3, 4, 1, 0] rfl)
        · replace hf1 := o_t hc hf1
          refine lv_iload hx hb d_MC_crucial_70 (lv_at hl 4 rfl) ?_
          obtain rfl := hR1 _ (o_v hf1).symm
          replace hf0 := o_x2 hf0
          obtain ⟨rfl, rfl⟩ := o_p hf0
          exact hQ _ _ _ _ hH d_MC_crucial_72
  refine lv_aload_n hx hb d_MC_crucial_0 rfl (lv_at hl 0 rfl) ?_
  refine g_MC_10 S hX hH hZ d_MC_crucial_1 ?_
  refine g_MC_71 S hX hH hZ isPlay_0 d_MC_crucial_4 ?_
  refine lv_if_eq (tgt := 33) hx hb d_MC_crucial_7 (by decide) (fun hc => ?_) (fun hc => ?_)
  · replace hf0 := o_t hc hf0
    refine lv_iconst (v := (-1 : Int32)) hx hb d_MC_crucial_33 (by decide) ?_
    obtain ⟨rfl, rfl⟩ := o_p hf0
    exact hQ _ _ _ _ hH d_MC_crucial_34
  · replace hf0 := o_f hc hf0
    refine lv_iload_n hx hb d_MC_crucial_10 rfl (lv_at hl 1 rfl) ?_
    refine lv_iconst (v := (1 : Int32)) hx hb d_MC_crucial_11 (by decide) ?_
    refine lv_icmp_lt (tgt := 33) hx hb d_MC_crucial_12 (by decide) (fun hc => ?_) (fun hc => ?_)
    · replace hf0 := o_t hc hf0
      refine lv_iconst (v := (-1 : Int32)) hx hb d_MC_crucial_33 (by decide) ?_
      obtain ⟨rfl, rfl⟩ := o_p hf0
      exact hQ _ _ _ _ hH d_MC_crucial_34
    · replace hf0 := o_f hc hf0
      refine lv_iload_n hx hb d_MC_crucial_15 rfl (lv_at hl 1 rfl) ?_
      refine lv_aload_n hx hb d_MC_crucial_16 rfl (lv_at hl 0 rfl) ?_
      refine g_MC_10 S hX hH hZ d_MC_crucial_17 ?_
      refine g_MC_78 S hX hH hZ isPlay_0 d_MC_crucial_20 ?_
      refine lv_iconst (v := (2 : Int32)) hx hb d_MC_crucial_23 (by decide) ?_
      refine q_iald (j := 2) hx hb hX hH (aa_Play_1 hZ isPlay_0) (vp_c (by decide)) (by decide) d_MC_crucial_24 ?_
      refine lv_icmp_gt (tgt := 33) hx hb d_MC_crucial_25 (by decide) (fun hc => ?_) (fun hc => ?_)
      · replace hf0 := o_t hc hf0
        refine lv_iconst (v := (-1 : Int32)) hx hb d_MC_crucial_33 (by decide) ?_
        obtain ⟨rfl, rfl⟩ := o_p hf0
        exact hQ _ _ _ _ hH d_MC_crucial_34
      · replace hf0 := o_f hc hf0
        refine lv_iload_n hx hb d_MC_crucial_28 rfl (lv_at hl 2 rfl) ?_
        refine lv_iconst (v := (-1 : Int32)) hx hb d_MC_crucial_29 (by decide) ?_
        refine lv_icmp_ge (tgt := 35) hx hb d_MC_crucial_30 (by decide) (fun hc => ?_) (fun hc => ?_)
        · replace hf0 := o_t hc hf0
          refine lv_iconst (v := (0 : Int32)) hx hb d_MC_crucial_35 (by decide) ?_
          refine lv_istore_n (lv' := [(3, .int (0 : Int32)), (0, .ref (Z.2.2.1 138)), (1, .int x1), (2, .int x2)]) hx hb d_MC_crucial_36 rfl hl (by decide) rfl (fun ls hl => ?_)
          refine lv_iconst (v := (0 : Int32)) hx hb d_MC_crucial_37 (by decide) ?_
          refine lv_istore (lv' := [(4, .int (0 : Int32)), (3, .int (0 : Int32)), (0, .ref (Z.2.2.1 138)), (1, .int x1), (2, .int x2)]) hx hb d_MC_crucial_38 hl (by decide) rfl (fun ls hl => ?_)
          exact J40 _ _ _ _ _ _ _ _ hf0 hH (lv_sub hl [2, 3, 4, 1, 0] rfl)
        · replace hf0 := o_f hc hf0
          refine lv_iconst (v := (-1 : Int32)) hx hb d_MC_crucial_33 (by decide) ?_
          obtain ⟨rfl, rfl⟩ := o_p hf0
          exact hQ _ _ _ _ hH d_MC_crucial_34
theorem c_MC_crucial (l : Launch) {Z : WD} (hI : wI Z) (hZ : IsC Z) (M : Mem) (x1 : Int32) (x2 : Int32) {r : Int32} {M' : Mem} (hf : f_MC_crucial M x1 x2 = some (r, M')) : Ci l Z y_MC_crucial b_MC_crucial 5 (some .int) 7 162 [.ref (Z.2.2.1 138), .int x1, .int x2] M M' r := by
  refine Met.ofW (cc := b_MC_crucial) (maxL := 5) (ret := (some .int)) (by decide) rfl ?_
  intro p e s m args below meth c s₁ B hml hv
  obtain ⟨rfl, hP, hX⟩ := hv
  have S : CallFix p m c b_MC_crucial 5 s ([.ref (Z.2.2.1 138), .int x1, .int x2] : List Value).toArray gtb R_MC := ⟨B.exec, B.bytes, hml, findClass_of_methodNamed B.named, fun w hw => atoms_spec (ws := .code y_MC_crucial b_MC_crucial 5 (some .int) :: gtb) B.pre w (List.mem_cons_of_mem _ hw)⟩
  have hl := lv_entry ([.ref (Z.2.2.1 138), .int x1, .int x2]) (n := 5) (Nat.le_of_ble_eq_true rfl)
  rw [lg_entry_eq]
  exact wk_MC_crucial hI hZ M x1 x2 S hX ⟨Nat.le_refl _, Nat.le_refl _⟩ (fun pc H locs ls hH d => q_ri S.1 S.2.1 B.returns B.notSynchronized hH rfl rfl d) hf ⟨hP, va_S.rf⟩ hl
noncomputable def f_MC_least_L23 (x1 : Int32) (x2 : Int32) (M : Mem) : Option ((Int32 × Mem) ⊕ ((Int32 × Mem) ⊕ (Int32 × Mem))) := if x2 < (1 : Int32) then some (.inr (.inr ((1 : Int32), M))) else 
    bnd (f_Run_prepare 124 M (0 : Int32)) (fun M2 => 
    lt1 (upM M2 124 1 x2) (fun M3 => 
    bnd (f_Run_play 124 M3) (fun M5 => 
    bnd (f_Run_haveOneDecision 124 M5 x1) (fun y7 => if (bI y7) = 0 then some (.inr (.inl (x2, M5))) else some (.inl (x2 + (-1 : Int32), M5))))))
noncomputable def f_MC_least_W23 (x1 : Int32) (u : (Int32 × Mem)) : Option ((Int32 × Mem) ⊕ (Int32 × Mem)) := loop (fun t => f_MC_least_L23 x1 t.1 t.2) u
noncomputable def f_MC_least_J23 (M : Mem) (x1 : Int32) (x2 : Int32) : Option (Int32 × Mem) := bnd (f_MC_least_W23 x1 (x2, M)) (fun e23 => lex2 e23 (fun t23 => if t23.1 = (8 : Int32) then some ((-2 : Int32), t23.2) else some (t23.1 + (1 : Int32), t23.2)) (fun r23 => some r23))
noncomputable def f_MC_least (M : Mem) : Option (Int32 × Mem) := 
    if (M 0 0) = 0 then some ((-1 : Int32), M) else bnd (f_Play_soundParties 0 M) (fun y9 => f_MC_least_J23 M y9 (8 : Int32))
set_option maxHeartbeats 4000000 in
theorem wk_MC_least {l : Launch} {Z : WD} (hI : wI Z) (hZ : IsC Z) (M : Mem) {r : Int32} {M' : Mem} {p : Program} {e : Env} {R : Room} {s : State} {m : MethodId} {args : Array Value} {below : List Frame} {meth : Method} {c : Code} {H : Heap} {locs : List Loc} {ls : Array Slot} {Q : State → Prop} (S : CallFix p m c b_MC_least 3 s args gtb R_MC) (hX : wX Z s) (hR : 5 ≤ R.frames ∧ 115 ≤ R.locals) (hQ : ∀ (pc : Nat) (H : Heap) (locs : List Loc) (ls : Array Slot), HW Z M' s H locs → decode b_MC_least pc = .ok (.ireturn, 1) → W p l e R s m args below meth c H locs 0 0 Q (F0 m pc ls [.int r])) (hf0 : f_MC_least M = some (r, M')) (hH : HW Z M s H locs) (hl : lv_has ls 3 [(0, .ref (Z.2.2.1 138))]) : W p l e R s m args below meth c H locs 0 0 Q (F0 m 0 ls []) := by
  have hx := S.1
  have hb := S.2.1
  have hown := S.2.2.2.1
  have ht := S.2.2.2.2
  unfold f_MC_least at hf0
  have J23 : ∀ (M : Mem) (x1 : Int32) (x2 : Int32) (H : Heap) (locs : List Loc) (ls : Array Slot), f_MC_least_J23 M x1 x2 = some (r, M') → HW Z M s H locs → lv_has ls 3 [(0, .ref (Z.2.2.1 138)), (1, .int x1), (2, .int x2)] → W p l e R s m args below meth c H locs 0 0 Q (F0 m 23 ls []) := by
    intro M x1 x2 H locs ls hf0 hH hl
    unfold f_MC_least_J23 at hf0
    obtain ⟨e23, he23, hf0⟩ := o_b hf0
    have KX23 : ∀ (t23 : (Int32 × Mem)), e23 = .inl t23 → ∀ (H : Heap) (locs : List Loc) (ls : Array Slot), HW Z t23.2 s H locs → lv_has ls 3 [(2, .int t23.1)] → W p l e R s m args below meth c H locs 0 0 Q (F0 m 62 ls []) := by
      intro t23 he0 H locs ls hH hl
      subst he0
      replace hf0 := o_x1 hf0
      refine lv_iload_n hx hb d_MC_least_62 rfl (lv_at hl 0 rfl) ?_
      refine lv_bipush (v := (8 : Int32)) hx hb d_MC_least_63 (by decide) ?_
      refine lv_icmp_ne (tgt := 73) hx hb d_MC_least_65 (by decide) (fun hc => ?_) (fun hc => ?_)
      · replace hf0 := o_f hc hf0
        refine lv_iload_n hx hb d_MC_least_73 rfl (lv_at hl 0 rfl) ?_
        refine lv_iconst (v := (1 : Int32)) hx hb d_MC_least_74 (by decide) ?_
        refine lv_iadd hx hb d_MC_least_75 ?_
        obtain ⟨rfl, rfl⟩ := o_p hf0
        exact hQ _ _ _ _ hH d_MC_least_76
      · replace hf0 := o_t hc hf0
        refine lv_bipush (v := (-2 : Int32)) hx hb d_MC_least_68 (by decide) ?_
        refine lv_goto (tgt := 76) hx hb d_MC_least_70 (by decide) ?_
        obtain ⟨rfl, rfl⟩ := o_p hf0
        exact hQ _ _ _ _ hH d_MC_least_76
    unfold f_MC_least_W23 at he23
    refine loop_W (fun t => ∀ (H : Heap) (locs : List Loc) (ls : Array Slot), HW Z t.2 s H locs → lv_has ls 3 [(0, .ref (Z.2.2.1 138)), (1, .int x1), (2, .int t.1)] → W p l e R s m args below meth c H locs 0 0 Q (F0 m 23 ls [])) ?_ he23 H locs ls hH hl
    rintro ⟨x2, M⟩ o1 hf1 hG1 hR1 H locs ls hH hl
    replace hH : HW Z M s H locs := hH
    replace hl : lv_has ls 3 [(0, .ref (Z.2.2.1 138)), (1, .int x1), (2, .int x2)] := hl
    replace hf1 : f_MC_least_L23 x1 x2 M = some o1 := hf1
    unfold f_MC_least_L23 at hf1
    refine lv_iload_n hx hb d_MC_least_23 rfl (lv_at hl 2 rfl) ?_
    refine lv_iconst (v := (1 : Int32)) hx hb d_MC_least_24 (by decide) ?_
    refine lv_icmp_lt (tgt := 83) hx hb d_MC_least_25 (by decide) (fun hc => ?_) (fun hc => ?_)
    · replace hf1 := o_t hc hf1
      refine lv_iconst (v := (1 : Int32)) hx hb d_MC_least_83 (by decide) ?_
      obtain rfl := hR1 _ (o_v hf1).symm
      replace hf0 := o_x2 hf0
      obtain ⟨rfl, rfl⟩ := o_p hf0
      exact hQ _ _ _ _ hH d_MC_least_84
    · replace hf1 := o_f hc hf1
      refine lv_aload_n hx hb d_MC_least_28 rfl (lv_at hl 0 rfl) ?_
      refine g_MC_32 S hX hH hZ d_MC_least_29 ?_
      refine lv_iconst (v := (0 : Int32)) hx hb d_MC_least_32 (by decide) ?_
      obtain ⟨M2, hc1, hf1⟩ := o_b hf1
      refine q_cVv (As := [.int (0 : Int32)]) (rest := []) S hX hH (c_Run_prepare l hI hZ 124 M (0 : Int32) isRun_124 hc1) (cw_MC_293 S.2.2.2.2 (Nat.le_trans (Nat.le_of_ble_eq_true rfl) hR.1) (Nat.le_trans (Nat.le_of_ble_eq_true rfl) hR.2)) (rc_Run hX hH hZ isRun_124) rfl hl.1 rfl (Nat.le_of_ble_eq_true rfl) d_MC_least_33 ⟨Nat.zero_le _, Nat.zero_le _⟩ (fun H locs hH => ?_)
      refine lv_aload_n hx hb d_MC_least_36 rfl (lv_at hl 0 rfl) ?_
      refine g_MC_32 S hX hH hZ d_MC_least_37 ?_
      refine lv_iload_n hx hb d_MC_least_40 rfl (lv_at hl 2 rfl) ?_
      obtain ⟨M3, hM3, hf1⟩ := o_l hf1
      refine s_MC_313 S hX hI hH hZ isRun_124 d_MC_least_41 (fun H locs hH => ?_)
      rw [hM3] at hH
      refine lv_aload_n hx hb d_MC_least_44 rfl (lv_at hl 0 rfl) ?_
      refine g_MC_32 S hX hH hZ d_MC_least_45 ?_
      obtain ⟨M5, hc4, hf1⟩ := o_b hf1
      refine q_cVv (As := []) (rest := []) S hX hH (c_Run_play l hI hZ 124 M3 isRun_124 hc4) (cw_MC_299 S.2.2.2.2 (Nat.le_trans (Nat.le_of_ble_eq_true rfl) hR.1) (Nat.le_trans (Nat.le_of_ble_eq_true rfl) hR.2)) (rc_Run hX hH hZ isRun_124) rfl hl.1 rfl (Nat.le_of_ble_eq_true rfl) d_MC_least_48 ⟨Nat.zero_le _, Nat.zero_le _⟩ (fun H locs hH => ?_)
      refine lv_aload_n hx hb d_MC_least_51 rfl (lv_at hl 0 rfl) ?_
      refine g_MC_32 S hX hH hZ d_MC_least_52 ?_
      refine lv_iload_n hx hb d_MC_least_55 rfl (lv_at hl 1 rfl) ?_
      obtain ⟨y7, hc6, hf1⟩ := o_b hf1
      refine q_cVi (As := [.int x1]) (rest := []) S hX hH (c_Run_haveOneDecision l hI hZ 124 M5 x1 isRun_124 hc6) (cw_MC_276 S.2.2.2.2 (Nat.le_trans (Nat.le_of_ble_eq_true rfl) hR.1) (Nat.le_trans (Nat.le_of_ble_eq_true rfl) hR.2)) (rc_Run hX hH hZ isRun_124) rfl hl.1 rfl (Nat.le_of_ble_eq_true rfl) d_MC_least_56 ⟨Nat.zero_le _, Nat.zero_le _⟩ (fun H locs hH => ?_)
      refine lv_if_ne (tgt := 77) hx hb d_MC_least_59 (by decide) (fun hc => ?_) (fun hc => ?_)
      · replace hf1 := o_f hc hf1
        refine lv_iinc (v := x2 + (-1 : Int32)) (lv' := [(2, .int (x2 + (-1 : Int32))), (0, .ref (Z.2.2.1 138)), (1, .int x1)]) hx hb d_MC_least_77 hl (k := 2) rfl rfl (by decide) rfl (fun ls hl => ?_)
        refine lv_goto (tgt := 23) hx hb d_MC_least_80 (by decide) ?_
        exact hG1 _ (o_v hf1).symm _ _ _ hH (lv_sub hl [1, 2, 0] rfl)
      · replace hf1 := o_t hc hf1
        obtain rfl := hR1 _ (o_v hf1).symm
        exact KX23 _ rfl _ _ _ hH (lv_sub hl [2] rfl)
  refine lv_aload_n hx hb d_MC_least_0 rfl (lv_at hl 0 rfl) ?_
  refine g_MC_10 S hX hH hZ d_MC_least_1 ?_
  refine g_MC_71 S hX hH hZ isPlay_0 d_MC_least_4 ?_
  refine lv_if_ne (tgt := 12) hx hb d_MC_least_7 (by decide) (fun hc => ?_) (fun hc => ?_)
  · replace hf0 := o_f hc hf0
    refine lv_aload_n hx hb d_MC_least_12 rfl (lv_at hl 0 rfl) ?_
    refine g_MC_10 S hX hH hZ d_MC_least_13 ?_
    obtain ⟨y9, hc8, hf0⟩ := o_b hf0
    refine q_cVi (As := []) (rest := []) S hX hH (c_Play_soundParties l hI hZ 0 M isPlay_0 hc8) (cw_MC_273 S.2.2.2.2 (Nat.le_trans (Nat.le_of_ble_eq_true rfl) hR.1) (Nat.le_trans (Nat.le_of_ble_eq_true rfl) hR.2)) (rc_Play hX hH hZ isPlay_0) rfl hl.1 rfl (Nat.le_of_ble_eq_true rfl) d_MC_least_16 ⟨Nat.zero_le _, Nat.zero_le _⟩ (fun H locs hH => ?_)
    refine lv_istore_n (lv' := [(1, .int y9), (0, .ref (Z.2.2.1 138))]) hx hb d_MC_least_19 rfl hl (by decide) rfl (fun ls hl => ?_)
    refine lv_bipush (v := (8 : Int32)) hx hb d_MC_least_20 (by decide) ?_
    refine lv_istore_n (lv' := [(2, .int (8 : Int32)), (1, .int y9), (0, .ref (Z.2.2.1 138))]) hx hb d_MC_least_22 rfl hl (by decide) rfl (fun ls hl => ?_)
    exact J23 _ _ _ _ _ _ hf0 hH (lv_sub hl [2, 1, 0] rfl)
  · replace hf0 := o_t hc hf0
    refine lv_iconst (v := (-1 : Int32)) hx hb d_MC_least_10 (by decide) ?_
    obtain ⟨rfl, rfl⟩ := o_p hf0
    exact hQ _ _ _ _ hH d_MC_least_11
theorem c_MC_least (l : Launch) {Z : WD} (hI : wI Z) (hZ : IsC Z) (M : Mem) {r : Int32} {M' : Mem} (hf : f_MC_least M = some (r, M')) : Ci l Z y_MC_least b_MC_least 3 (some .int) 5 115 [.ref (Z.2.2.1 138)] M M' r := by
  refine Met.ofW (cc := b_MC_least) (maxL := 3) (ret := (some .int)) (by decide) rfl ?_
  intro p e s m args below meth c s₁ B hml hv
  obtain ⟨rfl, hP, hX⟩ := hv
  have S : CallFix p m c b_MC_least 3 s ([.ref (Z.2.2.1 138)] : List Value).toArray gtb R_MC := ⟨B.exec, B.bytes, hml, findClass_of_methodNamed B.named, fun w hw => atoms_spec (ws := .code y_MC_least b_MC_least 3 (some .int) :: gtb) B.pre w (List.mem_cons_of_mem _ hw)⟩
  have hl := lv_entry ([.ref (Z.2.2.1 138)]) (n := 3) (Nat.le_of_ble_eq_true rfl)
  rw [lg_entry_eq]
  exact wk_MC_least hI hZ M S hX ⟨Nat.le_refl _, Nat.le_refl _⟩ (fun pc H locs ls hH d => q_ri S.1 S.2.1 B.returns B.notSynchronized hH rfl rfl d) hf ⟨hP, va_S.rf⟩ hl
noncomputable def f_MC_healsWithout (M : Mem) (x1 : Int32) : Option (Bool × Mem) := 
    bnd (f_Run_prepare 124 M x1) (fun M2 => 
    bnd (f_Run_play 124 M2) (fun M4 => bnd (f_Run_haveOneDecision 124 M4 (f_Play_honest 0 M4)) (fun y6 => some (y6, M4))))
set_option maxHeartbeats 4000000 in
theorem wk_MC_healsWithout {l : Launch} {Z : WD} (hI : wI Z) (hZ : IsC Z) (M : Mem) (x1 : Int32) {r : Bool} {M' : Mem} {p : Program} {e : Env} {R : Room} {s : State} {m : MethodId} {args : Array Value} {below : List Frame} {meth : Method} {c : Code} {H : Heap} {locs : List Loc} {ls : Array Slot} {Q : State → Prop} (S : CallFix p m c b_MC_healsWithout 2 s args gtb R_MC) (hX : wX Z s) (hR : 5 ≤ R.frames ∧ 115 ≤ R.locals) (hQ : ∀ (pc : Nat) (H : Heap) (locs : List Loc) (ls : Array Slot), HW Z M' s H locs → decode b_MC_healsWithout pc = .ok (.ireturn, 1) → W p l e R s m args below meth c H locs 0 0 Q (F0 m pc ls [.int (bI r)])) (hf0 : f_MC_healsWithout M x1 = some (r, M')) (hH : HW Z M s H locs) (hl : lv_has ls 2 [(0, .ref (Z.2.2.1 138)), (1, .int x1)]) : W p l e R s m args below meth c H locs 0 0 Q (F0 m 0 ls []) := by
  have hx := S.1
  have hb := S.2.1
  have hown := S.2.2.2.1
  have ht := S.2.2.2.2
  unfold f_MC_healsWithout at hf0
  refine lv_aload_n hx hb d_MC_healsWithout_0 rfl (lv_at hl 0 rfl) ?_
  refine g_MC_32 S hX hH hZ d_MC_healsWithout_1 ?_
  refine lv_iload_n hx hb d_MC_healsWithout_4 rfl (lv_at hl 1 rfl) ?_
  obtain ⟨M2, hc1, hf0⟩ := o_b hf0
  refine q_cVv (As := [.int x1]) (rest := []) S hX hH (c_Run_prepare l hI hZ 124 M x1 isRun_124 hc1) (cw_MC_293 S.2.2.2.2 (Nat.le_trans (Nat.le_of_ble_eq_true rfl) hR.1) (Nat.le_trans (Nat.le_of_ble_eq_true rfl) hR.2)) (rc_Run hX hH hZ isRun_124) rfl hl.1 rfl (Nat.le_of_ble_eq_true rfl) d_MC_healsWithout_5 ⟨Nat.zero_le _, Nat.zero_le _⟩ (fun H locs hH => ?_)
  refine lv_aload_n hx hb d_MC_healsWithout_8 rfl (lv_at hl 0 rfl) ?_
  refine g_MC_32 S hX hH hZ d_MC_healsWithout_9 ?_
  obtain ⟨M4, hc3, hf0⟩ := o_b hf0
  refine q_cVv (As := []) (rest := []) S hX hH (c_Run_play l hI hZ 124 M2 isRun_124 hc3) (cw_MC_299 S.2.2.2.2 (Nat.le_trans (Nat.le_of_ble_eq_true rfl) hR.1) (Nat.le_trans (Nat.le_of_ble_eq_true rfl) hR.2)) (rc_Run hX hH hZ isRun_124) rfl hl.1 rfl (Nat.le_of_ble_eq_true rfl) d_MC_healsWithout_12 ⟨Nat.zero_le _, Nat.zero_le _⟩ (fun H locs hH => ?_)
  refine lv_aload_n hx hb d_MC_healsWithout_15 rfl (lv_at hl 0 rfl) ?_
  refine g_MC_32 S hX hH hZ d_MC_healsWithout_16 ?_
  refine lv_aload_n hx hb d_MC_healsWithout_19 rfl (lv_at hl 0 rfl) ?_
  refine g_MC_10 S hX hH hZ d_MC_healsWithout_20 ?_
  refine q_cVi (As := []) (rest := [.ref (Z.2.2.1 124)]) S hX hH (c_Play_honest l hI hZ 0 M4 isPlay_0 rfl) (cw_MC_151 S.2.2.2.2 (Nat.le_trans (Nat.le_of_ble_eq_true rfl) hR.1) (Nat.le_trans (Nat.le_of_ble_eq_true rfl) hR.2)) (rc_Play hX hH hZ isPlay_0) rfl hl.1 rfl (Nat.le_of_ble_eq_true rfl) d_MC_healsWithout_23 ⟨Nat.zero_le _, Nat.zero_le _⟩ (fun H locs hH => ?_)
  obtain ⟨y6, hc5, hf0⟩ := o_b hf0
  refine q_cVi (As := [.int (f_Play_honest 0 M4)]) (rest := []) S hX hH (c_Run_haveOneDecision l hI hZ 124 M4 (f_Play_honest 0 M4) isRun_124 hc5) (cw_MC_276 S.2.2.2.2 (Nat.le_trans (Nat.le_of_ble_eq_true rfl) hR.1) (Nat.le_trans (Nat.le_of_ble_eq_true rfl) hR.2)) (rc_Run hX hH hZ isRun_124) rfl hl.1 rfl (Nat.le_of_ble_eq_true rfl) d_MC_healsWithout_26 ⟨Nat.zero_le _, Nat.zero_le _⟩ (fun H locs hH => ?_)
  obtain ⟨rfl, rfl⟩ := o_p hf0
  exact hQ _ _ _ _ hH d_MC_healsWithout_29
theorem c_MC_healsWithout (l : Launch) {Z : WD} (hI : wI Z) (hZ : IsC Z) (M : Mem) (x1 : Int32) {r : Bool} {M' : Mem} (hf : f_MC_healsWithout M x1 = some (r, M')) : Ci l Z y_MC_healsWithout b_MC_healsWithout 2 (some .boolean) 5 115 [.ref (Z.2.2.1 138), .int x1] M M' (bI r) := by
  refine Met.ofW (cc := b_MC_healsWithout) (maxL := 2) (ret := (some .boolean)) (by decide) rfl ?_
  intro p e s m args below meth c s₁ B hml hv
  obtain ⟨rfl, hP, hX⟩ := hv
  have S : CallFix p m c b_MC_healsWithout 2 s ([.ref (Z.2.2.1 138), .int x1] : List Value).toArray gtb R_MC := ⟨B.exec, B.bytes, hml, findClass_of_methodNamed B.named, fun w hw => atoms_spec (ws := .code y_MC_healsWithout b_MC_healsWithout 2 (some .boolean) :: gtb) B.pre w (List.mem_cons_of_mem _ hw)⟩
  have hl := lv_entry ([.ref (Z.2.2.1 138), .int x1]) (n := 2) (Nat.le_of_ble_eq_true rfl)
  rw [lg_entry_eq]
  exact wk_MC_healsWithout hI hZ M x1 S hX ⟨Nat.le_refl _, Nat.le_refl _⟩ (fun pc H locs ls hH d => q_rz S.1 S.2.1 B.returns B.notSynchronized hH rfl rfl d) hf ⟨hP, va_S.rf⟩ hl
theorem cw_MC_316 {R : Room} {s : State} {args : Array Value} (ht : ∀ w ∈ gtb, w.before args s = true) (h1 : 5 + 1 ≤ R.frames) (h2 : 8 + (2 + 11) + 115 ≤ R.locals) : CallW R s args R_MC R_MC 316 y_MC_healsWithout b_MC_healsWithout 2 (some .boolean) (.code y_MC_healsWithout b_MC_healsWithout 2 (some .boolean) :: gtb) { frames := 5, cells := 0, slots := 0, locals := 115 } 0 0 1 := cwV 1 ht (gV w4_161 w4_163 ws_MC_healsWithout w1_1 w4_164) rfl rfl rfl ⟨rfl, by decide, by decide, by decide +kernel⟩ ⟨h1, h2⟩
noncomputable def f_MC_heal_L47 (x1 : Int32) (x2 : Int32) (x3 : Int32) (M : Mem) : Option ((Int32 × Mem) ⊕ (Mem ⊕ (Int32 × Mem))) := if x1 < x3 then some (.inr (.inl M)) else 
    if (f_Int_bitCount x3) = x2 then 
    bnd2 (f_MC_healsWithout M x3) (fun y3 M2 => if (bI y3) = 0 then some (.inl (x3 + (1 : Int32), M2)) else some (.inr (.inr (x3, M2)))) else some (.inl (x3 + (1 : Int32), M))
noncomputable def f_MC_heal_W47 (x1 : Int32) (x2 : Int32) (u : (Int32 × Mem)) : Option (Mem ⊕ (Int32 × Mem)) := loop (fun t => f_MC_heal_L47 x1 x2 t.1 t.2) u
noncomputable def f_MC_heal_J47 (M : Mem) (x1 : Int32) (x2 : Int32) (x3 : Int32) : Option ((Int32 × Mem) ⊕ (Int32 × Mem)) := bnd (f_MC_heal_W47 x1 x2 (x3, M)) (fun e47 => lex2 e47 (fun t47 => some (.inl (x2 + (1 : Int32), t47))) (fun r47 => some (.inr r47)))
noncomputable def f_MC_heal_L39 (x1 : Int32) (x2 : Int32) (M : Mem) : Option ((Int32 × Mem) ⊕ (Int32 × Mem)) := if (6 : Int32) < x2 then some (.inr ((-2 : Int32), M)) else f_MC_heal_J47 M x1 x2 (0 : Int32)
noncomputable def f_MC_heal_W39 (x1 : Int32) (u : (Int32 × Mem)) : Option (Int32 × Mem) := loop (fun t => f_MC_heal_L39 x1 t.1 t.2) u
noncomputable def f_MC_heal_J39 (M : Mem) (x1 : Int32) (x2 : Int32) : Option (Int32 × Mem) := bnd (f_MC_heal_W39 x1 (x2, M)) (fun e39 => some e39)
noncomputable def f_MC_heal (M : Mem) : Option (Int32 × Mem) := 
    if (M 0 0) = 0 then some ((-1 : Int32), M) else 
    lt1 (((1 : Int32) <<< ((miI ((M 0 3) + (M 0 4)) (6 : Int32)) &&& 31)) - (1 : Int32)) (fun y4 => f_MC_heal_J39 M y4 (0 : Int32))
set_option maxHeartbeats 4000000 in
theorem wk_MC_heal {l : Launch} {Z : WD} (hI : wI Z) (hZ : IsC Z) (M : Mem) {r : Int32} {M' : Mem} {p : Program} {e : Env} {R : Room} {s : State} {m : MethodId} {args : Array Value} {below : List Frame} {meth : Method} {c : Code} {H : Heap} {locs : List Loc} {ls : Array Slot} {Q : State → Prop} (S : CallFix p m c b_MC_heal 4 s args gtb R_MC) (hX : wX Z s) (hR : 6 ≤ R.frames ∧ 136 ≤ R.locals) (hQ : ∀ (pc : Nat) (H : Heap) (locs : List Loc) (ls : Array Slot), HW Z M' s H locs → decode b_MC_heal pc = .ok (.ireturn, 1) → W p l e R s m args below meth c H locs 0 0 Q (F0 m pc ls [.int r])) (hf0 : f_MC_heal M = some (r, M')) (hH : HW Z M s H locs) (hl : lv_has ls 4 [(0, .ref (Z.2.2.1 138))]) : W p l e R s m args below meth c H locs 0 0 Q (F0 m 0 ls []) := by
  have hx := S.1
  have hb := S.2.1
  have hown := S.2.2.2.1
  have ht := S.2.2.2.2
  unfold f_MC_heal at hf0
  have J39 : ∀ (M : Mem) (x1 : Int32) (x2 : Int32) (H : Heap) (locs : List Loc) (ls : Array Slot), f_MC_heal_J39 M x1 x2 = some (r, M') → HW Z M s H locs → lv_has ls 4 [(0, .ref (Z.2.2.1 138)), (1, .int x1), (2, .int x2)] → W p l e R s m args below meth c H locs 0 0 Q (F0 m 39 ls []) := by
    intro M x1 x2 H locs ls hf0 hH hl
    unfold f_MC_heal_J39 at hf0
    obtain ⟨e39, he39, hf0⟩ := o_b hf0
    unfold f_MC_heal_W39 at he39
    refine loop_W (fun t => ∀ (H : Heap) (locs : List Loc) (ls : Array Slot), HW Z t.2 s H locs → lv_has ls 4 [(0, .ref (Z.2.2.1 138)), (1, .int x1), (2, .int t.1)] → W p l e R s m args below meth c H locs 0 0 Q (F0 m 39 ls [])) ?_ he39 H locs ls hH hl
    rintro ⟨x2, M⟩ o1 hf1 hG1 hR1 H locs ls hH hl
    replace hH : HW Z M s H locs := hH
    replace hl : lv_has ls 4 [(0, .ref (Z.2.2.1 138)), (1, .int x1), (2, .int x2)] := hl
    replace hf1 : f_MC_heal_L39 x1 x2 M = some o1 := hf1
    unfold f_MC_heal_L39 at hf1
    have J47 : ∀ (M : Mem) (x2 : Int32) (x3 : Int32) (H : Heap) (locs : List Loc) (ls : Array Slot), f_MC_heal_J47 M x1 x2 x3 = some o1 → HW Z M s H locs → lv_has ls 4 [(0, .ref (Z.2.2.1 138)), (1, .int x1), (2, .int x2), (3, .int x3)] → W p l e R s m args below meth c H locs 0 0 Q (F0 m 47 ls []) := by
      intro M x2 x3 H locs ls hf1 hH hl
      unfold f_MC_heal_J47 at hf1
      obtain ⟨e47, he47, hf1⟩ := o_b hf1
      have KX47 : ∀ (t47 : Mem), e47 = .inl t47 → ∀ (H : Heap) (locs : List Loc) (ls : Array Slot), HW Z t47 s H locs → lv_has ls 4 [(0, .ref (Z.2.2.1 138)), (1, .int x1), (2, .int x2)] → W p l e R s m args below meth c H locs 0 0 Q (F0 m 76 ls []) := by
        intro t47 he0 H locs ls hH hl
        subst he0
        replace hf1 := o_x1 hf1
        refine lv_iinc (v := x2 + (1 : Int32)) (lv' := [(2, .int (x2 + (1 : Int32))), (0, .ref (Z.2.2.1 138)), (1, .int x1)]) hx hb d_MC_heal_76 hl (k := 2) rfl rfl (by decide) rfl (fun ls hl => ?_)
        refine lv_goto (tgt := 39) hx hb d_MC_heal_79 (by decide) ?_
        exact hG1 _ (o_v hf1).symm _ _ _ hH (lv_sub hl [1, 2, 0] rfl)
      unfold f_MC_heal_W47 at he47
      refine loop_W (fun t => ∀ (H : Heap) (locs : List Loc) (ls : Array Slot), HW Z t.2 s H locs → lv_has ls 4 [(0, .ref (Z.2.2.1 138)), (1, .int x1), (2, .int x2), (3, .int t.1)] → W p l e R s m args below meth c H locs 0 0 Q (F0 m 47 ls [])) ?_ he47 H locs ls hH hl
      rintro ⟨x3, M⟩ o2 hf2 hG2 hR2 H locs ls hH hl
      replace hH : HW Z M s H locs := hH
      replace hl : lv_has ls 4 [(0, .ref (Z.2.2.1 138)), (1, .int x1), (2, .int x2), (3, .int x3)] := hl
      replace hf2 : f_MC_heal_L47 x1 x2 x3 M = some o2 := hf2
      unfold f_MC_heal_L47 at hf2
      refine lv_iload_n hx hb d_MC_heal_47 rfl (lv_at hl 3 rfl) ?_
      refine lv_iload_n hx hb d_MC_heal_48 rfl (lv_at hl 1 rfl) ?_
      refine lv_icmp_gt (tgt := 76) hx hb d_MC_heal_49 (by decide) (fun hc => ?_) (fun hc => ?_)
      · replace hf2 := o_t hc hf2
        obtain rfl := hR2 _ (o_v hf2).symm
        exact KX47 _ rfl _ _ _ hH (lv_sub hl [0, 1, 2] rfl)
      · replace hf2 := o_f hc hf2
        refine lv_iload_n hx hb d_MC_heal_52 rfl (lv_at hl 3 rfl) ?_
        refine q_cSi (As := [.int x3]) (rest := []) S hX hH (c_Int_bitCount l hI M x3 rfl) (cw_MC_146 S.2.2.2.2 (Nat.le_trans (Nat.le_of_ble_eq_true rfl) hR.1) (Nat.le_trans (Nat.le_of_ble_eq_true rfl) hR.2)) rfl hl.1 rfl (Nat.le_of_ble_eq_true rfl) d_MC_heal_53 ⟨Nat.zero_le _, Nat.zero_le _⟩ (fun H locs hH => ?_)
        refine lv_iload_n hx hb d_MC_heal_56 rfl (lv_at hl 2 rfl) ?_
        refine lv_icmp_ne (tgt := 70) hx hb d_MC_heal_57 (by decide) (fun hc => ?_) (fun hc => ?_)
        · replace hf2 := o_f hc hf2
          refine lv_iinc (v := x3 + (1 : Int32)) (lv' := [(3, .int (x3 + (1 : Int32))), (0, .ref (Z.2.2.1 138)), (1, .int x1), (2, .int x2)]) hx hb d_MC_heal_70 hl (k := 3) rfl rfl (by decide) rfl (fun ls hl => ?_)
          refine lv_goto (tgt := 47) hx hb d_MC_heal_73 (by decide) ?_
          exact hG2 _ (o_v hf2).symm _ _ _ hH (lv_sub hl [1, 2, 3, 0] rfl)
        · replace hf2 := o_t hc hf2
          refine lv_aload_n hx hb d_MC_heal_60 rfl (lv_at hl 0 rfl) ?_
          refine lv_iload_n hx hb d_MC_heal_61 rfl (lv_at hl 3 rfl) ?_
          obtain ⟨y3, M2, hc1, hf2⟩ := o_b2 hf2
          refine q_cVi (As := [.int x3]) (rest := []) S hX hH (c_MC_healsWithout l hI hZ M x3 hc1) (cw_MC_316 S.2.2.2.2 (Nat.le_trans (Nat.le_of_ble_eq_true rfl) hR.1) (Nat.le_trans (Nat.le_of_ble_eq_true rfl) hR.2)) (rc_MC hX hH hZ) rfl hl.1 rfl (Nat.le_of_ble_eq_true rfl) d_MC_heal_62 ⟨Nat.zero_le _, Nat.zero_le _⟩ (fun H locs hH => ?_)
          refine lv_if_eq (tgt := 70) hx hb d_MC_heal_65 (by decide) (fun hc => ?_) (fun hc => ?_)
          · replace hf2 := o_t hc hf2
            refine lv_iinc (v := x3 + (1 : Int32)) (lv' := [(3, .int (x3 + (1 : Int32))), (0, .ref (Z.2.2.1 138)), (1, .int x1), (2, .int x2)]) hx hb d_MC_heal_70 hl (k := 3) rfl rfl (by decide) rfl (fun ls hl => ?_)
            refine lv_goto (tgt := 47) hx hb d_MC_heal_73 (by decide) ?_
            exact hG2 _ (o_v hf2).symm _ _ _ hH (lv_sub hl [1, 2, 3, 0] rfl)
          · replace hf2 := o_f hc hf2
            refine lv_iload_n hx hb d_MC_heal_68 rfl (lv_at hl 3 rfl) ?_
            obtain rfl := hR2 _ (o_v hf2).symm
            replace hf1 := o_x2 hf1
            obtain rfl := hR1 _ (o_v hf1).symm
            obtain ⟨rfl, rfl⟩ := o_p hf0
            exact hQ _ _ _ _ hH d_MC_heal_69
    refine lv_iload_n hx hb d_MC_heal_39 rfl (lv_at hl 2 rfl) ?_
    refine lv_bipush (v := (6 : Int32)) hx hb d_MC_heal_40 (by decide) ?_
    refine lv_icmp_gt (tgt := 82) hx hb d_MC_heal_42 (by decide) (fun hc => ?_) (fun hc => ?_)
    · replace hf1 := o_t hc hf1
      refine lv_bipush (v := (-2 : Int32)) hx hb d_MC_heal_82 (by decide) ?_
      obtain rfl := hR1 _ (o_v hf1).symm
      obtain ⟨rfl, rfl⟩ := o_p hf0
      exact hQ _ _ _ _ hH d_MC_heal_84
    · replace hf1 := o_f hc hf1
      refine lv_iconst (v := (0 : Int32)) hx hb d_MC_heal_45 (by decide) ?_
      refine lv_istore_n (lv' := [(3, .int (0 : Int32)), (0, .ref (Z.2.2.1 138)), (1, .int x1), (2, .int x2)]) hx hb d_MC_heal_46 rfl hl (by decide) rfl (fun ls hl => ?_)
      exact J47 _ _ _ _ _ _ hf1 hH (lv_sub hl [1, 2, 3, 0] rfl)
  refine lv_aload_n hx hb d_MC_heal_0 rfl (lv_at hl 0 rfl) ?_
  refine g_MC_10 S hX hH hZ d_MC_heal_1 ?_
  refine g_MC_71 S hX hH hZ isPlay_0 d_MC_heal_4 ?_
  refine lv_if_ne (tgt := 12) hx hb d_MC_heal_7 (by decide) (fun hc => ?_) (fun hc => ?_)
  · replace hf0 := o_f hc hf0
    refine lv_iconst (v := (1 : Int32)) hx hb d_MC_heal_12 (by decide) ?_
    refine lv_aload_n hx hb d_MC_heal_13 rfl (lv_at hl 0 rfl) ?_
    refine g_MC_10 S hX hH hZ d_MC_heal_14 ?_
    refine g_MC_131 S hX hH hZ isPlay_0 d_MC_heal_17 ?_
    refine lv_aload_n hx hb d_MC_heal_20 rfl (lv_at hl 0 rfl) ?_
    refine g_MC_10 S hX hH hZ d_MC_heal_21 ?_
    refine g_MC_140 S hX hH hZ isPlay_0 d_MC_heal_24 ?_
    refine lv_iadd hx hb d_MC_heal_27 ?_
    refine lv_bipush (v := (6 : Int32)) hx hb d_MC_heal_28 (by decide) ?_
    refine q_min S hl.1 w4_128 w2_61 w1_9 w2_62 (Nat.le_trans (Nat.le_of_ble_eq_true rfl) hR.1) (Nat.le_trans (Nat.le_of_ble_eq_true rfl) hR.2) d_MC_heal_30 ?_
    refine lv_ishl hx hb d_MC_heal_33 ?_
    refine lv_iconst (v := (1 : Int32)) hx hb d_MC_heal_34 (by decide) ?_
    refine lv_isub hx hb d_MC_heal_35 ?_
    obtain ⟨y4, hy4, hf0⟩ := o_l hf0
    refine lv_nm hy4 ?_
    refine lv_istore_n (lv' := [(1, .int y4), (0, .ref (Z.2.2.1 138))]) hx hb d_MC_heal_36 rfl hl (by decide) rfl (fun ls hl => ?_)
    refine lv_iconst (v := (0 : Int32)) hx hb d_MC_heal_37 (by decide) ?_
    refine lv_istore_n (lv' := [(2, .int (0 : Int32)), (1, .int y4), (0, .ref (Z.2.2.1 138))]) hx hb d_MC_heal_38 rfl hl (by decide) rfl (fun ls hl => ?_)
    exact J39 _ _ _ _ _ _ hf0 hH (lv_sub hl [2, 1, 0] rfl)
  · replace hf0 := o_t hc hf0
    refine lv_iconst (v := (-1 : Int32)) hx hb d_MC_heal_10 (by decide) ?_
    obtain ⟨rfl, rfl⟩ := o_p hf0
    exact hQ _ _ _ _ hH d_MC_heal_11
theorem c_MC_heal (l : Launch) {Z : WD} (hI : wI Z) (hZ : IsC Z) (M : Mem) {r : Int32} {M' : Mem} (hf : f_MC_heal M = some (r, M')) : Ci l Z y_MC_heal b_MC_heal 4 (some .int) 6 136 [.ref (Z.2.2.1 138)] M M' r := by
  refine Met.ofW (cc := b_MC_heal) (maxL := 4) (ret := (some .int)) (by decide) rfl ?_
  intro p e s m args below meth c s₁ B hml hv
  obtain ⟨rfl, hP, hX⟩ := hv
  have S : CallFix p m c b_MC_heal 4 s ([.ref (Z.2.2.1 138)] : List Value).toArray gtb R_MC := ⟨B.exec, B.bytes, hml, findClass_of_methodNamed B.named, fun w hw => atoms_spec (ws := .code y_MC_heal b_MC_heal 4 (some .int) :: gtb) B.pre w (List.mem_cons_of_mem _ hw)⟩
  have hl := lv_entry ([.ref (Z.2.2.1 138)]) (n := 4) (Nat.le_of_ble_eq_true rfl)
  rw [lg_entry_eq]
  exact wk_MC_heal hI hZ M S hX ⟨Nat.le_refl _, Nat.le_refl _⟩ (fun pc H locs ls hH d => q_ri S.1 S.2.1 B.returns B.notSynchronized hH rfl rfl d) hf ⟨hP, va_S.rf⟩ hl
theorem cw_MC_319 {R : Room} {s : State} {args : Array Value} (ht : ∀ w ∈ gtb, w.before args s = true) (h1 : 2 + 1 ≤ R.frames) (h2 : 8 + (4 + 11) + 42 ≤ R.locals) : CallW R s args R_MC R_Run 319 y_Run_shortLetters b_Run_shortLetters 4 (some .int) (.code y_Run_shortLetters b_Run_shortLetters 4 (some .int) :: gtb) { frames := 2, cells := 0, slots := 0, locals := 42 } 0 0 0 := cwV 0 ht (gV w4_169 w4_170 w4_171 w1_4 w4_172) rfl rfl rfl ⟨rfl, by decide, by decide, by decide +kernel⟩ ⟨h1, h2⟩
noncomputable def f_MC_count_J22 (M : Mem) (x1 : Int32) : Option (Int32) := if x1 = (0 : Int32) then some (M 0 0) else 
    if x1 = (1 : Int32) then some (-1 : Int32) else 
    if x1 = (2 : Int32) then some (-1 : Int32) else 
    if x1 = (3 : Int32) then some (-1 : Int32) else 
    if x1 = (4 : Int32) then some (-1 : Int32) else 
    if x1 = (5 : Int32) then some (-1 : Int32) else 
    if x1 = (6 : Int32) then some (M 0 1) else 
    if x1 = (7 : Int32) then some (M 0 2) else 
    if x1 = (8 : Int32) then some (M 0 3) else 
    if x1 = (9 : Int32) then some (M 0 4) else 
    if x1 = (10 : Int32) then some (M 138 6) else 
    if x1 = (11 : Int32) then some (M 136 2) else 
    if x1 = (12 : Int32) then some (M 138 7) else if x1 = (13 : Int32) then bnd (f_Run_shortLetters 112 M) (fun y2 => some y2) else some (-1 : Int32)
noncomputable def f_MC_count (M : Mem) (x1 : Int32) : Option Int32 := 
    if x1 < (1 : Int32) then f_MC_count_J22 M x1 else 
    if (5 : Int32) < x1 then f_MC_count_J22 M x1 else gIn (x1 - (1 : Int32)) 5 (some (M 1 (x1 - (1 : Int32)).toNatClampNeg))
set_option maxHeartbeats 4000000 in
theorem wk_MC_count {l : Launch} {Z : WD} (hI : wI Z) (hZ : IsC Z) (M : Mem) (x1 : Int32) {r : Int32} {p : Program} {e : Env} {R : Room} {s : State} {m : MethodId} {args : Array Value} {below : List Frame} {meth : Method} {c : Code} {H : Heap} {locs : List Loc} {ls : Array Slot} {Q : State → Prop} (S : CallFix p m c b_MC_count 2 s args gtb R_MC) (hX : wX Z s) (hR : 3 ≤ R.frames ∧ 65 ≤ R.locals) (hQ : ∀ (pc : Nat) (H : Heap) (locs : List Loc) (ls : Array Slot), HW Z M s H locs → decode b_MC_count pc = .ok (.ireturn, 1) → W p l e R s m args below meth c H locs 0 0 Q (F0 m pc ls [.int r])) (hf0 : f_MC_count M x1 = some r) (hH : HW Z M s H locs) (hl : lv_has ls 2 [(0, .ref (Z.2.2.1 138)), (1, .int x1)]) : W p l e R s m args below meth c H locs 0 0 Q (F0 m 0 ls []) := by
  have hx := S.1
  have hb := S.2.1
  have hown := S.2.2.2.1
  have ht := S.2.2.2.2
  unfold f_MC_count at hf0
  have J22 : ∀ (x1 : Int32) (H : Heap) (locs : List Loc) (ls : Array Slot), f_MC_count_J22 M x1 = some r → HW Z M s H locs → lv_has ls 2 [(0, .ref (Z.2.2.1 138)), (1, .int x1)] → W p l e R s m args below meth c H locs 0 0 Q (F0 m 22 ls []) := by
    intro x1 H locs ls hf0 hH hl
    unfold f_MC_count_J22 at hf0
    refine lv_iload_n hx hb d_MC_count_22 rfl (lv_at hl 1 rfl) ?_
    by_cases hcv0 : x1 = (0 : Int32)
    · replace hf0 := o_t hcv0 hf0
      refine lv_tableIn (tgt := 92) hx hb d_MC_count_23 (by rw [hcv0]; decide) (by rw [hcv0]; decide) (by rw [hcv0]; rfl) (by decide) ?_
      refine lv_aload_n hx hb d_MC_count_92 rfl (lv_at hl 0 rfl) ?_
      refine g_MC_10 S hX hH hZ d_MC_count_93 ?_
      refine g_MC_71 S hX hH hZ isPlay_0 d_MC_count_96 ?_
      obtain rfl := o_v hf0
      exact hQ _ _ _ _ hH d_MC_count_99
    replace hf0 := o_f hcv0 hf0
    by_cases hcv1 : x1 = (1 : Int32)
    · replace hf0 := o_t hcv1 hf0
      refine lv_tableIn (tgt := 158) hx hb d_MC_count_23 (by rw [hcv1]; decide) (by rw [hcv1]; decide) (by rw [hcv1]; rfl) (by decide) ?_
      refine lv_iconst (v := (-1 : Int32)) hx hb d_MC_count_158 (by decide) ?_
      obtain rfl := o_v hf0
      exact hQ _ _ _ _ hH d_MC_count_159
    replace hf0 := o_f hcv1 hf0
    by_cases hcv2 : x1 = (2 : Int32)
    · replace hf0 := o_t hcv2 hf0
      refine lv_tableIn (tgt := 158) hx hb d_MC_count_23 (by rw [hcv2]; decide) (by rw [hcv2]; decide) (by rw [hcv2]; rfl) (by decide) ?_
      refine lv_iconst (v := (-1 : Int32)) hx hb d_MC_count_158 (by decide) ?_
      obtain rfl := o_v hf0
      exact hQ _ _ _ _ hH d_MC_count_159
    replace hf0 := o_f hcv2 hf0
    by_cases hcv3 : x1 = (3 : Int32)
    · replace hf0 := o_t hcv3 hf0
      refine lv_tableIn (tgt := 158) hx hb d_MC_count_23 (by rw [hcv3]; decide) (by rw [hcv3]; decide) (by rw [hcv3]; rfl) (by decide) ?_
      refine lv_iconst (v := (-1 : Int32)) hx hb d_MC_count_158 (by decide) ?_
      obtain rfl := o_v hf0
      exact hQ _ _ _ _ hH d_MC_count_159
    replace hf0 := o_f hcv3 hf0
    by_cases hcv4 : x1 = (4 : Int32)
    · replace hf0 := o_t hcv4 hf0
      refine lv_tableIn (tgt := 158) hx hb d_MC_count_23 (by rw [hcv4]; decide) (by rw [hcv4]; decide) (by rw [hcv4]; rfl) (by decide) ?_
      refine lv_iconst (v := (-1 : Int32)) hx hb d_MC_count_158 (by decide) ?_
      obtain rfl := o_v hf0
      exact hQ _ _ _ _ hH d_MC_count_159
    replace hf0 := o_f hcv4 hf0
    by_cases hcv5 : x1 = (5 : Int32)
    · replace hf0 := o_t hcv5 hf0
      refine lv_tableIn (tgt := 158) hx hb d_MC_count_23 (by rw [hcv5]; decide) (by rw [hcv5]; decide) (by rw [hcv5]; rfl) (by decide) ?_
      refine lv_iconst (v := (-1 : Int32)) hx hb d_MC_count_158 (by decide) ?_
      obtain rfl := o_v hf0
      exact hQ _ _ _ _ hH d_MC_count_159
    replace hf0 := o_f hcv5 hf0
    by_cases hcv6 : x1 = (6 : Int32)
    · replace hf0 := o_t hcv6 hf0
      refine lv_tableIn (tgt := 100) hx hb d_MC_count_23 (by rw [hcv6]; decide) (by rw [hcv6]; decide) (by rw [hcv6]; rfl) (by decide) ?_
      refine lv_aload_n hx hb d_MC_count_100 rfl (lv_at hl 0 rfl) ?_
      refine g_MC_10 S hX hH hZ d_MC_count_101 ?_
      refine g_MC_89 S hX hH hZ isPlay_0 d_MC_count_104 ?_
      obtain rfl := o_v hf0
      exact hQ _ _ _ _ hH d_MC_count_107
    replace hf0 := o_f hcv6 hf0
    by_cases hcv7 : x1 = (7 : Int32)
    · replace hf0 := o_t hcv7 hf0
      refine lv_tableIn (tgt := 108) hx hb d_MC_count_23 (by rw [hcv7]; decide) (by rw [hcv7]; decide) (by rw [hcv7]; rfl) (by decide) ?_
      refine lv_aload_n hx hb d_MC_count_108 rfl (lv_at hl 0 rfl) ?_
      refine g_MC_10 S hX hH hZ d_MC_count_109 ?_
      refine g_MC_108 S hX hH hZ isPlay_0 d_MC_count_112 ?_
      obtain rfl := o_v hf0
      exact hQ _ _ _ _ hH d_MC_count_115
    replace hf0 := o_f hcv7 hf0
    by_cases hcv8 : x1 = (8 : Int32)
    · replace hf0 := o_t hcv8 hf0
      refine lv_tableIn (tgt := 116) hx hb d_MC_count_23 (by rw [hcv8]; decide) (by rw [hcv8]; decide) (by rw [hcv8]; rfl) (by decide) ?_
      refine lv_aload_n hx hb d_MC_count_116 rfl (lv_at hl 0 rfl) ?_
      refine g_MC_10 S hX hH hZ d_MC_count_117 ?_
      refine g_MC_131 S hX hH hZ isPlay_0 d_MC_count_120 ?_
      obtain rfl := o_v hf0
      exact hQ _ _ _ _ hH d_MC_count_123
    replace hf0 := o_f hcv8 hf0
    by_cases hcv9 : x1 = (9 : Int32)
    · replace hf0 := o_t hcv9 hf0
      refine lv_tableIn (tgt := 124) hx hb d_MC_count_23 (by rw [hcv9]; decide) (by rw [hcv9]; decide) (by rw [hcv9]; rfl) (by decide) ?_
      refine lv_aload_n hx hb d_MC_count_124 rfl (lv_at hl 0 rfl) ?_
      refine g_MC_10 S hX hH hZ d_MC_count_125 ?_
      refine g_MC_140 S hX hH hZ isPlay_0 d_MC_count_128 ?_
      obtain rfl := o_v hf0
      exact hQ _ _ _ _ hH d_MC_count_131
    replace hf0 := o_f hcv9 hf0
    by_cases hcv10 : x1 = (10 : Int32)
    · replace hf0 := o_t hcv10 hf0
      refine lv_tableIn (tgt := 132) hx hb d_MC_count_23 (by rw [hcv10]; decide) (by rw [hcv10]; decide) (by rw [hcv10]; rfl) (by decide) ?_
      refine lv_aload_n hx hb d_MC_count_132 rfl (lv_at hl 0 rfl) ?_
      refine g_MC_42 S hX hH hZ d_MC_count_133 ?_
      obtain rfl := o_v hf0
      exact hQ _ _ _ _ hH d_MC_count_136
    replace hf0 := o_f hcv10 hf0
    by_cases hcv11 : x1 = (11 : Int32)
    · replace hf0 := o_t hcv11 hf0
      refine lv_tableIn (tgt := 137) hx hb d_MC_count_23 (by rw [hcv11]; decide) (by rw [hcv11]; decide) (by rw [hcv11]; rfl) (by decide) ?_
      refine lv_aload_n hx hb d_MC_count_137 rfl (lv_at hl 0 rfl) ?_
      refine g_MC_19 S hX hH hZ d_MC_count_138 ?_
      refine g_MC_52 S hX hH hZ d_MC_count_141 ?_
      obtain rfl := o_v hf0
      exact hQ _ _ _ _ hH d_MC_count_144
    replace hf0 := o_f hcv11 hf0
    by_cases hcv12 : x1 = (12 : Int32)
    · replace hf0 := o_t hcv12 hf0
      refine lv_tableIn (tgt := 145) hx hb d_MC_count_23 (by rw [hcv12]; decide) (by rw [hcv12]; decide) (by rw [hcv12]; rfl) (by decide) ?_
      refine lv_aload_n hx hb d_MC_count_145 rfl (lv_at hl 0 rfl) ?_
      refine g_MC_46 S hX hH hZ d_MC_count_146 ?_
      obtain rfl := o_v hf0
      exact hQ _ _ _ _ hH d_MC_count_149
    replace hf0 := o_f hcv12 hf0
    by_cases hcv13 : x1 = (13 : Int32)
    · replace hf0 := o_t hcv13 hf0
      refine lv_tableIn (tgt := 150) hx hb d_MC_count_23 (by rw [hcv13]; decide) (by rw [hcv13]; decide) (by rw [hcv13]; rfl) (by decide) ?_
      refine lv_aload_n hx hb d_MC_count_150 rfl (lv_at hl 0 rfl) ?_
      refine g_MC_28 S hX hH hZ d_MC_count_151 ?_
      obtain ⟨y2, hc1, hf0⟩ := o_b hf0
      refine q_cVi (As := []) (rest := []) S hX hH (c_Run_shortLetters l hI hZ 112 M isRun_112 hc1) (cw_MC_319 S.2.2.2.2 (Nat.le_trans (Nat.le_of_ble_eq_true rfl) hR.1) (Nat.le_trans (Nat.le_of_ble_eq_true rfl) hR.2)) (rc_Run hX hH hZ isRun_112) rfl hl.1 rfl (Nat.le_of_ble_eq_true rfl) d_MC_count_154 ⟨Nat.zero_le _, Nat.zero_le _⟩ (fun H locs hH => ?_)
      obtain rfl := o_v hf0
      exact hQ _ _ _ _ hH d_MC_count_157
    replace hf0 := o_f hcv13 hf0
    refine lv_tableOut (tgt := 158) hx hb d_MC_count_23 (sw_out (fun v h1 h2 => by rcases (show v = 0 ∨ v = 1 ∨ v = 2 ∨ v = 3 ∨ v = 4 ∨ v = 5 ∨ v = 6 ∨ v = 7 ∨ v = 8 ∨ v = 9 ∨ v = 10 ∨ v = 11 ∨ v = 12 ∨ v = 13 by omega) with rfl | rfl | rfl | rfl | rfl | rfl | rfl | rfl | rfl | rfl | rfl | rfl | rfl | rfl <;> assumption)) (by decide) ?_
    refine lv_iconst (v := (-1 : Int32)) hx hb d_MC_count_158 (by decide) ?_
    obtain rfl := o_v hf0
    exact hQ _ _ _ _ hH d_MC_count_159
  refine lv_iload_n hx hb d_MC_count_0 rfl (lv_at hl 1 rfl) ?_
  refine lv_iconst (v := (1 : Int32)) hx hb d_MC_count_1 (by decide) ?_
  refine lv_icmp_lt (tgt := 22) hx hb d_MC_count_2 (by decide) (fun hc => ?_) (fun hc => ?_)
  · replace hf0 := o_t hc hf0
    exact J22 _ _ _ _ hf0 hH (lv_sub hl [0, 1] rfl)
  · replace hf0 := o_f hc hf0
    refine lv_iload_n hx hb d_MC_count_5 rfl (lv_at hl 1 rfl) ?_
    refine lv_iconst (v := (5 : Int32)) hx hb d_MC_count_6 (by decide) ?_
    refine lv_icmp_gt (tgt := 22) hx hb d_MC_count_7 (by decide) (fun hc => ?_) (fun hc => ?_)
    · replace hf0 := o_t hc hf0
      exact J22 _ _ _ _ hf0 hH (lv_sub hl [0, 1] rfl)
    · replace hf0 := o_f hc hf0
      refine lv_aload_n hx hb d_MC_count_10 rfl (lv_at hl 0 rfl) ?_
      refine g_MC_10 S hX hH hZ d_MC_count_11 ?_
      refine g_MC_78 S hX hH hZ isPlay_0 d_MC_count_14 ?_
      refine lv_iload_n hx hb d_MC_count_17 rfl (lv_at hl 1 rfl) ?_
      refine lv_iconst (v := (1 : Int32)) hx hb d_MC_count_18 (by decide) ?_
      refine lv_isub hx hb d_MC_count_19 ?_
      obtain ⟨hn3, hf0⟩ := o_in hf0
      refine q_iald (j := (x1 - (1 : Int32)).toNatClampNeg) hx hb hX hH (aa_Play_1 hZ isPlay_0) hn3 rfl d_MC_count_20 ?_
      obtain rfl := o_v hf0
      exact hQ _ _ _ _ hH d_MC_count_21
theorem c_MC_count (l : Launch) {Z : WD} (hI : wI Z) (hZ : IsC Z) (M : Mem) (x1 : Int32) {r : Int32} (hf : f_MC_count M x1 = some r) : Ci l Z y_MC_count b_MC_count 2 (some .int) 3 65 [.ref (Z.2.2.1 138), .int x1] M M r := by
  refine Met.ofW (cc := b_MC_count) (maxL := 2) (ret := (some .int)) (by decide) rfl ?_
  intro p e s m args below meth c s₁ B hml hv
  obtain ⟨rfl, hP, hX⟩ := hv
  have S : CallFix p m c b_MC_count 2 s ([.ref (Z.2.2.1 138), .int x1] : List Value).toArray gtb R_MC := ⟨B.exec, B.bytes, hml, findClass_of_methodNamed B.named, fun w hw => atoms_spec (ws := .code y_MC_count b_MC_count 2 (some .int) :: gtb) B.pre w (List.mem_cons_of_mem _ hw)⟩
  have hl := lv_entry ([.ref (Z.2.2.1 138), .int x1]) (n := 2) (Nat.le_of_ble_eq_true rfl)
  rw [lg_entry_eq]
  exact wk_MC_count hI hZ M x1 S hX ⟨Nat.le_refl _, Nat.le_refl _⟩ (fun pc H locs ls hH d => q_ri S.1 S.2.1 B.returns B.notSynchronized hH rfl rfl d) hf ⟨hP, va_S.rf⟩ hl
theorem cw_MC_331 {R : Room} {s : State} {args : Array Value} (ht : ∀ w ∈ gtb, w.before args s = true) (h1 : 1 + 1 ≤ R.frames) (h2 : 8 + (3 + 11) + 21 ≤ R.locals) : CallB R s args R_MC 331 y_Chain_digits b_Chain_digits 3 (some .int) (.code y_Chain_digits b_Chain_digits 3 (some .int) :: gtb) { frames := 1, cells := 0, slots := 0, locals := 21 } 0 0 1 ∧ (Cond.static y_Chain_digits).before args s = true := va_cwS 1 ht (gS w4_177 w4_178 w1_6 w4_179) rfl rfl rfl ⟨by decide, by decide, by decide +kernel⟩ ⟨h1, h2⟩
noncomputable def f_MC_planned (M : Mem) (x1 : Int32) (x2 : Int32) : Option Int32 := 
    if x1 < 0 then some (-1 : Int32) else 
    if x1 < (M 0 2) then 
    if x2 = (0 : Int32) then gIn x1 16 (some (f_Route_roundOf (M 2 x1.toNatClampNeg))) else 
    if x2 = (1 : Int32) then gIn x1 16 (some (f_Route_fromOf (M 2 x1.toNatClampNeg))) else 
    if x2 = (2 : Int32) then gIn x1 16 (some (f_Route_toOf (M 2 x1.toNatClampNeg))) else 
    if x2 = (3 : Int32) then gIn x1 16 (some (M 3 x1.toNatClampNeg)) else 
    if x2 = (4 : Int32) then gIn x1 16 (bnd (f_Chain_digits (M 4 x1.toNatClampNeg)) (fun y7 => some y7)) else some (-1 : Int32) else some (-1 : Int32)
set_option maxHeartbeats 4000000 in
theorem wk_MC_planned {l : Launch} {Z : WD} (hI : wI Z) (hZ : IsC Z) (M : Mem) (x1 : Int32) (x2 : Int32) {r : Int32} {p : Program} {e : Env} {R : Room} {s : State} {m : MethodId} {args : Array Value} {below : List Frame} {meth : Method} {c : Code} {H : Heap} {locs : List Loc} {ls : Array Slot} {Q : State → Prop} (S : CallFix p m c b_MC_planned 3 s args gtb R_MC) (hX : wX Z s) (hR : 2 ≤ R.frames ∧ 43 ≤ R.locals) (hQ : ∀ (pc : Nat) (H : Heap) (locs : List Loc) (ls : Array Slot), HW Z M s H locs → decode b_MC_planned pc = .ok (.ireturn, 1) → W p l e R s m args below meth c H locs 0 0 Q (F0 m pc ls [.int r])) (hf0 : f_MC_planned M x1 x2 = some r) (hH : HW Z M s H locs) (hl : lv_has ls 3 [(0, .ref (Z.2.2.1 138)), (1, .int x1), (2, .int x2)]) : W p l e R s m args below meth c H locs 0 0 Q (F0 m 0 ls []) := by
  have hx := S.1
  have hb := S.2.1
  have hown := S.2.2.2.1
  have ht := S.2.2.2.2
  unfold f_MC_planned at hf0
  refine lv_iload_n hx hb d_MC_planned_0 rfl (lv_at hl 1 rfl) ?_
  refine lv_if_lt (tgt := 15) hx hb d_MC_planned_1 (by decide) (fun hc => ?_) (fun hc => ?_)
  · replace hf0 := o_t hc hf0
    refine lv_iconst (v := (-1 : Int32)) hx hb d_MC_planned_15 (by decide) ?_
    obtain rfl := o_v hf0
    exact hQ _ _ _ _ hH d_MC_planned_16
  · replace hf0 := o_f hc hf0
    refine lv_iload_n hx hb d_MC_planned_4 rfl (lv_at hl 1 rfl) ?_
    refine lv_aload_n hx hb d_MC_planned_5 rfl (lv_at hl 0 rfl) ?_
    refine g_MC_10 S hX hH hZ d_MC_planned_6 ?_
    refine g_MC_108 S hX hH hZ isPlay_0 d_MC_planned_9 ?_
    refine lv_icmp_lt (tgt := 17) hx hb d_MC_planned_12 (by decide) (fun hc => ?_) (fun hc => ?_)
    · replace hf0 := o_t hc hf0
      refine lv_iload_n hx hb d_MC_planned_17 rfl (lv_at hl 2 rfl) ?_
      by_cases hcv0 : x2 = (0 : Int32)
      · replace hf0 := o_t hcv0 hf0
        refine lv_tableIn (tgt := 52) hx hb d_MC_planned_18 (by rw [hcv0]; decide) (by rw [hcv0]; decide) (by rw [hcv0]; rfl) (by decide) ?_
        refine lv_aload_n hx hb d_MC_planned_52 rfl (lv_at hl 0 rfl) ?_
        refine g_MC_10 S hX hH hZ d_MC_planned_53 ?_
        refine g_MC_322 S hX hH hZ isPlay_0 d_MC_planned_56 ?_
        refine lv_iload_n hx hb d_MC_planned_59 rfl (lv_at hl 1 rfl) ?_
        obtain ⟨hn1, hf0⟩ := o_in hf0
        refine q_iald (j := x1.toNatClampNeg) hx hb hX hH (aa_Play_2 hZ isPlay_0) hn1 rfl d_MC_planned_60 ?_
        refine q_cSi (As := [.int (M 2 x1.toNatClampNeg)]) (rest := []) S hX hH (c_Route_roundOf l hI M (M 2 x1.toNatClampNeg) rfl) (cw_MC_213 S.2.2.2.2 (Nat.le_trans (Nat.le_of_ble_eq_true rfl) hR.1) (Nat.le_trans (Nat.le_of_ble_eq_true rfl) hR.2)) rfl hl.1 rfl (Nat.le_of_ble_eq_true rfl) d_MC_planned_61 ⟨Nat.zero_le _, Nat.zero_le _⟩ (fun H locs hH => ?_)
        obtain rfl := o_v hf0
        exact hQ _ _ _ _ hH d_MC_planned_64
      replace hf0 := o_f hcv0 hf0
      by_cases hcv1 : x2 = (1 : Int32)
      · replace hf0 := o_t hcv1 hf0
        refine lv_tableIn (tgt := 65) hx hb d_MC_planned_18 (by rw [hcv1]; decide) (by rw [hcv1]; decide) (by rw [hcv1]; rfl) (by decide) ?_
        refine lv_aload_n hx hb d_MC_planned_65 rfl (lv_at hl 0 rfl) ?_
        refine g_MC_10 S hX hH hZ d_MC_planned_66 ?_
        refine g_MC_322 S hX hH hZ isPlay_0 d_MC_planned_69 ?_
        refine lv_iload_n hx hb d_MC_planned_72 rfl (lv_at hl 1 rfl) ?_
        obtain ⟨hn2, hf0⟩ := o_in hf0
        refine q_iald (j := x1.toNatClampNeg) hx hb hX hH (aa_Play_2 hZ isPlay_0) hn2 rfl d_MC_planned_73 ?_
        refine q_cSi (As := [.int (M 2 x1.toNatClampNeg)]) (rest := []) S hX hH (c_Route_fromOf l hI M (M 2 x1.toNatClampNeg) rfl) (cw_MC_216 S.2.2.2.2 (Nat.le_trans (Nat.le_of_ble_eq_true rfl) hR.1) (Nat.le_trans (Nat.le_of_ble_eq_true rfl) hR.2)) rfl hl.1 rfl (Nat.le_of_ble_eq_true rfl) d_MC_planned_74 ⟨Nat.zero_le _, Nat.zero_le _⟩ (fun H locs hH => ?_)
        obtain rfl := o_v hf0
        exact hQ _ _ _ _ hH d_MC_planned_77
      replace hf0 := o_f hcv1 hf0
      by_cases hcv2 : x2 = (2 : Int32)
      · replace hf0 := o_t hcv2 hf0
        refine lv_tableIn (tgt := 78) hx hb d_MC_planned_18 (by rw [hcv2]; decide) (by rw [hcv2]; decide) (by rw [hcv2]; rfl) (by decide) ?_
        refine lv_aload_n hx hb d_MC_planned_78 rfl (lv_at hl 0 rfl) ?_
        refine g_MC_10 S hX hH hZ d_MC_planned_79 ?_
        refine g_MC_322 S hX hH hZ isPlay_0 d_MC_planned_82 ?_
        refine lv_iload_n hx hb d_MC_planned_85 rfl (lv_at hl 1 rfl) ?_
        obtain ⟨hn3, hf0⟩ := o_in hf0
        refine q_iald (j := x1.toNatClampNeg) hx hb hX hH (aa_Play_2 hZ isPlay_0) hn3 rfl d_MC_planned_86 ?_
        refine q_cSi (As := [.int (M 2 x1.toNatClampNeg)]) (rest := []) S hX hH (c_Route_toOf l hI M (M 2 x1.toNatClampNeg) rfl) (cw_MC_219 S.2.2.2.2 (Nat.le_trans (Nat.le_of_ble_eq_true rfl) hR.1) (Nat.le_trans (Nat.le_of_ble_eq_true rfl) hR.2)) rfl hl.1 rfl (Nat.le_of_ble_eq_true rfl) d_MC_planned_87 ⟨Nat.zero_le _, Nat.zero_le _⟩ (fun H locs hH => ?_)
        obtain rfl := o_v hf0
        exact hQ _ _ _ _ hH d_MC_planned_90
      replace hf0 := o_f hcv2 hf0
      by_cases hcv3 : x2 = (3 : Int32)
      · replace hf0 := o_t hcv3 hf0
        refine lv_tableIn (tgt := 91) hx hb d_MC_planned_18 (by rw [hcv3]; decide) (by rw [hcv3]; decide) (by rw [hcv3]; rfl) (by decide) ?_
        refine lv_aload_n hx hb d_MC_planned_91 rfl (lv_at hl 0 rfl) ?_
        refine g_MC_10 S hX hH hZ d_MC_planned_92 ?_
        refine g_MC_325 S hX hH hZ isPlay_0 d_MC_planned_95 ?_
        refine lv_iload_n hx hb d_MC_planned_98 rfl (lv_at hl 1 rfl) ?_
        obtain ⟨hn4, hf0⟩ := o_in hf0
        refine q_iald (j := x1.toNatClampNeg) hx hb hX hH (aa_Play_3 hZ isPlay_0) hn4 rfl d_MC_planned_99 ?_
        obtain rfl := o_v hf0
        exact hQ _ _ _ _ hH d_MC_planned_100
      replace hf0 := o_f hcv3 hf0
      by_cases hcv4 : x2 = (4 : Int32)
      · replace hf0 := o_t hcv4 hf0
        refine lv_tableIn (tgt := 101) hx hb d_MC_planned_18 (by rw [hcv4]; decide) (by rw [hcv4]; decide) (by rw [hcv4]; rfl) (by decide) ?_
        refine lv_aload_n hx hb d_MC_planned_101 rfl (lv_at hl 0 rfl) ?_
        refine g_MC_10 S hX hH hZ d_MC_planned_102 ?_
        refine g_MC_328 S hX hH hZ isPlay_0 d_MC_planned_105 ?_
        refine lv_iload_n hx hb d_MC_planned_108 rfl (lv_at hl 1 rfl) ?_
        obtain ⟨hn5, hf0⟩ := o_in hf0
        refine q_iald (j := x1.toNatClampNeg) hx hb hX hH (aa_Play_4 hZ isPlay_0) hn5 rfl d_MC_planned_109 ?_
        obtain ⟨y7, hc6, hf0⟩ := o_b hf0
        refine q_cSi (As := [.int (M 4 x1.toNatClampNeg)]) (rest := []) S hX hH (c_Chain_digits l hI M (M 4 x1.toNatClampNeg) hc6) (cw_MC_331 S.2.2.2.2 (Nat.le_trans (Nat.le_of_ble_eq_true rfl) hR.1) (Nat.le_trans (Nat.le_of_ble_eq_true rfl) hR.2)) rfl hl.1 rfl (Nat.le_of_ble_eq_true rfl) d_MC_planned_110 ⟨Nat.zero_le _, Nat.zero_le _⟩ (fun H locs hH => ?_)
        obtain rfl := o_v hf0
        exact hQ _ _ _ _ hH d_MC_planned_113
      replace hf0 := o_f hcv4 hf0
      refine lv_tableOut (tgt := 114) hx hb d_MC_planned_18 (sw_out (fun v h1 h2 => by rcases (show v = 0 ∨ v = 1 ∨ v = 2 ∨ v = 3 ∨ v = 4 by omega) with rfl | rfl | rfl | rfl | rfl <;> assumption)) (by decide) ?_
      refine lv_iconst (v := (-1 : Int32)) hx hb d_MC_planned_114 (by decide) ?_
      obtain rfl := o_v hf0
      exact hQ _ _ _ _ hH d_MC_planned_115
    · replace hf0 := o_f hc hf0
      refine lv_iconst (v := (-1 : Int32)) hx hb d_MC_planned_15 (by decide) ?_
      obtain rfl := o_v hf0
      exact hQ _ _ _ _ hH d_MC_planned_16
theorem c_MC_planned (l : Launch) {Z : WD} (hI : wI Z) (hZ : IsC Z) (M : Mem) (x1 : Int32) (x2 : Int32) {r : Int32} (hf : f_MC_planned M x1 x2 = some r) : Ci l Z y_MC_planned b_MC_planned 3 (some .int) 2 43 [.ref (Z.2.2.1 138), .int x1, .int x2] M M r := by
  refine Met.ofW (cc := b_MC_planned) (maxL := 3) (ret := (some .int)) (by decide) rfl ?_
  intro p e s m args below meth c s₁ B hml hv
  obtain ⟨rfl, hP, hX⟩ := hv
  have S : CallFix p m c b_MC_planned 3 s ([.ref (Z.2.2.1 138), .int x1, .int x2] : List Value).toArray gtb R_MC := ⟨B.exec, B.bytes, hml, findClass_of_methodNamed B.named, fun w hw => atoms_spec (ws := .code y_MC_planned b_MC_planned 3 (some .int) :: gtb) B.pre w (List.mem_cons_of_mem _ hw)⟩
  have hl := lv_entry ([.ref (Z.2.2.1 138), .int x1, .int x2]) (n := 3) (Nat.le_of_ble_eq_true rfl)
  rw [lg_entry_eq]
  exact wk_MC_planned hI hZ M x1 x2 S hX ⟨Nat.le_refl _, Nat.le_refl _⟩ (fun pc H locs ls hH d => q_ri S.1 S.2.1 B.returns B.notSynchronized hH rfl rfl d) hf ⟨hP, va_S.rf⟩ hl
noncomputable def f_MC_fault_J49 (M : Mem) (x1 : Int32) (x2 : Int32) (x3 : Int32) (s0 : Int32) : Option (Int32) := if x3 = (0 : Int32) then some (f_Route_roundOf s0) else 
    if x3 = (1 : Int32) then some (f_Route_fromOf s0) else 
    if x3 = (2 : Int32) then some (f_Route_toOf s0) else 
    if x3 = (3 : Int32) then if x1 = (1 : Int32) then some (0 : Int32) else gIn x2 12 (some (M 7 x2.toNatClampNeg)) else some (-1 : Int32)
noncomputable def f_MC_fault (M : Mem) (x1 : Int32) (x2 : Int32) (x3 : Int32) : Option Int32 := 
    if x1 < (1 : Int32) then some (-1 : Int32) else 
    if x2 < 0 then some (-1 : Int32) else 
    if x2 < (f_Play_sizeOf 0 M x1) then 
    if x1 = (1 : Int32) then gIn x2 12 (f_MC_fault_J49 M x1 x2 x3 (M 5 x2.toNatClampNeg)) else gIn x2 12 (f_MC_fault_J49 M x1 x2 x3 (M 6 x2.toNatClampNeg)) else some (-1 : Int32)
set_option maxHeartbeats 4000000 in
theorem wk_MC_fault {l : Launch} {Z : WD} (hI : wI Z) (hZ : IsC Z) (M : Mem) (x1 : Int32) (x2 : Int32) (x3 : Int32) {r : Int32} {p : Program} {e : Env} {R : Room} {s : State} {m : MethodId} {args : Array Value} {below : List Frame} {meth : Method} {c : Code} {H : Heap} {locs : List Loc} {ls : Array Slot} {Q : State → Prop} (S : CallFix p m c b_MC_fault 5 s args gtb R_MC) (hX : wX Z s) (hR : 1 ≤ R.frames ∧ 21 ≤ R.locals) (hQ : ∀ (pc : Nat) (H : Heap) (locs : List Loc) (ls : Array Slot), HW Z M s H locs → decode b_MC_fault pc = .ok (.ireturn, 1) → W p l e R s m args below meth c H locs 0 0 Q (F0 m pc ls [.int r])) (hf0 : f_MC_fault M x1 x2 x3 = some r) (hH : HW Z M s H locs) (hl : lv_has ls 5 [(0, .ref (Z.2.2.1 138)), (1, .int x1), (2, .int x2), (3, .int x3)]) : W p l e R s m args below meth c H locs 0 0 Q (F0 m 0 ls []) := by
  have hx := S.1
  have hb := S.2.1
  have hown := S.2.2.2.1
  have ht := S.2.2.2.2
  unfold f_MC_fault at hf0
  have J49 : ∀ (x1 : Int32) (x2 : Int32) (x3 : Int32) (s0 : Int32) (H : Heap) (locs : List Loc) (ls : Array Slot), f_MC_fault_J49 M x1 x2 x3 s0 = some r → HW Z M s H locs → lv_has ls 5 [(0, .ref (Z.2.2.1 138)), (1, .int x1), (2, .int x2), (3, .int x3)] → W p l e R s m args below meth c H locs 0 0 Q (F0 m 49 ls [.int s0]) := by
    intro x1 x2 x3 s0 H locs ls hf0 hH hl
    unfold f_MC_fault_J49 at hf0
    refine lv_istore (lv' := [(4, .int s0), (0, .ref (Z.2.2.1 138)), (1, .int x1), (2, .int x2), (3, .int x3)]) hx hb d_MC_fault_49 hl (by decide) rfl (fun ls hl => ?_)
    refine lv_iload_n hx hb d_MC_fault_51 rfl (lv_at hl 4 rfl) ?_
    by_cases hcv0 : x3 = (0 : Int32)
    · replace hf0 := o_t hcv0 hf0
      refine lv_tableIn (tgt := 84) hx hb d_MC_fault_52 (by rw [hcv0]; decide) (by rw [hcv0]; decide) (by rw [hcv0]; rfl) (by decide) ?_
      refine lv_iload hx hb d_MC_fault_84 (lv_at hl 0 rfl) ?_
      refine q_cSi (As := [.int s0]) (rest := []) S hX hH (c_Route_roundOf l hI M s0 rfl) (cw_MC_213 S.2.2.2.2 (Nat.le_trans (Nat.le_of_ble_eq_true rfl) hR.1) (Nat.le_trans (Nat.le_of_ble_eq_true rfl) hR.2)) rfl hl.1 rfl (Nat.le_of_ble_eq_true rfl) d_MC_fault_86 ⟨Nat.zero_le _, Nat.zero_le _⟩ (fun H locs hH => ?_)
      obtain rfl := o_v hf0
      exact hQ _ _ _ _ hH d_MC_fault_89
    replace hf0 := o_f hcv0 hf0
    by_cases hcv1 : x3 = (1 : Int32)
    · replace hf0 := o_t hcv1 hf0
      refine lv_tableIn (tgt := 90) hx hb d_MC_fault_52 (by rw [hcv1]; decide) (by rw [hcv1]; decide) (by rw [hcv1]; rfl) (by decide) ?_
      refine lv_iload hx hb d_MC_fault_90 (lv_at hl 0 rfl) ?_
      refine q_cSi (As := [.int s0]) (rest := []) S hX hH (c_Route_fromOf l hI M s0 rfl) (cw_MC_216 S.2.2.2.2 (Nat.le_trans (Nat.le_of_ble_eq_true rfl) hR.1) (Nat.le_trans (Nat.le_of_ble_eq_true rfl) hR.2)) rfl hl.1 rfl (Nat.le_of_ble_eq_true rfl) d_MC_fault_92 ⟨Nat.zero_le _, Nat.zero_le _⟩ (fun H locs hH => ?_)
      obtain rfl := o_v hf0
      exact hQ _ _ _ _ hH d_MC_fault_95
    replace hf0 := o_f hcv1 hf0
    by_cases hcv2 : x3 = (2 : Int32)
    · replace hf0 := o_t hcv2 hf0
      refine lv_tableIn (tgt := 96) hx hb d_MC_fault_52 (by rw [hcv2]; decide) (by rw [hcv2]; decide) (by rw [hcv2]; rfl) (by decide) ?_
      refine lv_iload hx hb d_MC_fault_96 (lv_at hl 0 rfl) ?_
      refine q_cSi (As := [.int s0]) (rest := []) S hX hH (c_Route_toOf l hI M s0 rfl) (cw_MC_219 S.2.2.2.2 (Nat.le_trans (Nat.le_of_ble_eq_true rfl) hR.1) (Nat.le_trans (Nat.le_of_ble_eq_true rfl) hR.2)) rfl hl.1 rfl (Nat.le_of_ble_eq_true rfl) d_MC_fault_98 ⟨Nat.zero_le _, Nat.zero_le _⟩ (fun H locs hH => ?_)
      obtain rfl := o_v hf0
      exact hQ _ _ _ _ hH d_MC_fault_101
    replace hf0 := o_f hcv2 hf0
    by_cases hcv3 : x3 = (3 : Int32)
    · replace hf0 := o_t hcv3 hf0
      refine lv_tableIn (tgt := 102) hx hb d_MC_fault_52 (by rw [hcv3]; decide) (by rw [hcv3]; decide) (by rw [hcv3]; rfl) (by decide) ?_
      refine lv_iload_n hx hb d_MC_fault_102 rfl (lv_at hl 2 rfl) ?_
      refine lv_iconst (v := (1 : Int32)) hx hb d_MC_fault_103 (by decide) ?_
      refine lv_icmp_ne (tgt := 111) hx hb d_MC_fault_104 (by decide) (fun hc => ?_) (fun hc => ?_)
      · replace hf0 := o_f hc hf0
        refine lv_aload_n hx hb d_MC_fault_111 rfl (lv_at hl 1 rfl) ?_
        refine g_MC_10 S hX hH hZ d_MC_fault_112 ?_
        refine g_MC_340 S hX hH hZ isPlay_0 d_MC_fault_115 ?_
        refine lv_iload_n hx hb d_MC_fault_118 rfl (lv_at hl 3 rfl) ?_
        obtain ⟨hn1, hf0⟩ := o_in hf0
        refine q_iald (j := x2.toNatClampNeg) hx hb hX hH (aa_Play_7 hZ isPlay_0) hn1 rfl d_MC_fault_119 ?_
        obtain rfl := o_v hf0
        exact hQ _ _ _ _ hH d_MC_fault_120
      · replace hf0 := o_t hc hf0
        refine lv_iconst (v := (0 : Int32)) hx hb d_MC_fault_107 (by decide) ?_
        refine lv_goto (tgt := 120) hx hb d_MC_fault_108 (by decide) ?_
        obtain rfl := o_v hf0
        exact hQ _ _ _ _ hH d_MC_fault_120
    replace hf0 := o_f hcv3 hf0
    refine lv_tableOut (tgt := 121) hx hb d_MC_fault_52 (sw_out (fun v h1 h2 => by rcases (show v = 0 ∨ v = 1 ∨ v = 2 ∨ v = 3 by omega) with rfl | rfl | rfl | rfl <;> assumption)) (by decide) ?_
    refine lv_iconst (v := (-1 : Int32)) hx hb d_MC_fault_121 (by decide) ?_
    obtain rfl := o_v hf0
    exact hQ _ _ _ _ hH d_MC_fault_122
  refine lv_iload_n hx hb d_MC_fault_0 rfl (lv_at hl 1 rfl) ?_
  refine lv_iconst (v := (1 : Int32)) hx hb d_MC_fault_1 (by decide) ?_
  refine lv_icmp_lt (tgt := 21) hx hb d_MC_fault_2 (by decide) (fun hc => ?_) (fun hc => ?_)
  · replace hf0 := o_t hc hf0
    refine lv_iconst (v := (-1 : Int32)) hx hb d_MC_fault_21 (by decide) ?_
    obtain rfl := o_v hf0
    exact hQ _ _ _ _ hH d_MC_fault_22
  · replace hf0 := o_f hc hf0
    refine lv_iload_n hx hb d_MC_fault_5 rfl (lv_at hl 2 rfl) ?_
    refine lv_if_lt (tgt := 21) hx hb d_MC_fault_6 (by decide) (fun hc => ?_) (fun hc => ?_)
    · replace hf0 := o_t hc hf0
      refine lv_iconst (v := (-1 : Int32)) hx hb d_MC_fault_21 (by decide) ?_
      obtain rfl := o_v hf0
      exact hQ _ _ _ _ hH d_MC_fault_22
    · replace hf0 := o_f hc hf0
      refine lv_iload_n hx hb d_MC_fault_9 rfl (lv_at hl 2 rfl) ?_
      refine lv_aload_n hx hb d_MC_fault_10 rfl (lv_at hl 0 rfl) ?_
      refine g_MC_10 S hX hH hZ d_MC_fault_11 ?_
      refine lv_iload_n hx hb d_MC_fault_14 rfl (lv_at hl 1 rfl) ?_
      refine q_cVi (As := [.int x1]) (rest := [.int x2]) S hX hH (c_Play_sizeOf l hI hZ 0 M x1 isPlay_0 rfl) (cw_MC_121 S.2.2.2.2 (Nat.le_trans (Nat.le_of_ble_eq_true rfl) hR.1) (Nat.le_trans (Nat.le_of_ble_eq_true rfl) hR.2)) (rc_Play hX hH hZ isPlay_0) rfl hl.1 rfl (Nat.le_of_ble_eq_true rfl) d_MC_fault_15 ⟨Nat.zero_le _, Nat.zero_le _⟩ (fun H locs hH => ?_)
      refine lv_icmp_lt (tgt := 23) hx hb d_MC_fault_18 (by decide) (fun hc => ?_) (fun hc => ?_)
      · replace hf0 := o_t hc hf0
        refine lv_iload_n hx hb d_MC_fault_23 rfl (lv_at hl 1 rfl) ?_
        refine lv_iconst (v := (1 : Int32)) hx hb d_MC_fault_24 (by decide) ?_
        refine lv_icmp_ne (tgt := 40) hx hb d_MC_fault_25 (by decide) (fun hc => ?_) (fun hc => ?_)
        · replace hf0 := o_f hc hf0
          refine lv_aload_n hx hb d_MC_fault_40 rfl (lv_at hl 0 rfl) ?_
          refine g_MC_10 S hX hH hZ d_MC_fault_41 ?_
          refine g_MC_337 S hX hH hZ isPlay_0 d_MC_fault_44 ?_
          refine lv_iload_n hx hb d_MC_fault_47 rfl (lv_at hl 2 rfl) ?_
          obtain ⟨hn2, hf0⟩ := o_in hf0
          refine q_iald (j := x2.toNatClampNeg) hx hb hX hH (aa_Play_6 hZ isPlay_0) hn2 rfl d_MC_fault_48 ?_
          exact J49 _ _ _ _ _ _ _ hf0 hH (lv_sub hl [0, 1, 2, 3] rfl)
        · replace hf0 := o_t hc hf0
          refine lv_aload_n hx hb d_MC_fault_28 rfl (lv_at hl 0 rfl) ?_
          refine g_MC_10 S hX hH hZ d_MC_fault_29 ?_
          refine g_MC_334 S hX hH hZ isPlay_0 d_MC_fault_32 ?_
          refine lv_iload_n hx hb d_MC_fault_35 rfl (lv_at hl 2 rfl) ?_
          obtain ⟨hn3, hf0⟩ := o_in hf0
          refine q_iald (j := x2.toNatClampNeg) hx hb hX hH (aa_Play_5 hZ isPlay_0) hn3 rfl d_MC_fault_36 ?_
          refine lv_goto (tgt := 49) hx hb d_MC_fault_37 (by decide) ?_
          exact J49 _ _ _ _ _ _ _ hf0 hH (lv_sub hl [0, 1, 2, 3] rfl)
      · replace hf0 := o_f hc hf0
        refine lv_iconst (v := (-1 : Int32)) hx hb d_MC_fault_21 (by decide) ?_
        obtain rfl := o_v hf0
        exact hQ _ _ _ _ hH d_MC_fault_22
theorem c_MC_fault (l : Launch) {Z : WD} (hI : wI Z) (hZ : IsC Z) (M : Mem) (x1 : Int32) (x2 : Int32) (x3 : Int32) {r : Int32} (hf : f_MC_fault M x1 x2 x3 = some r) : Ci l Z y_MC_fault b_MC_fault 5 (some .int) 1 21 [.ref (Z.2.2.1 138), .int x1, .int x2, .int x3] M M r := by
  refine Met.ofW (cc := b_MC_fault) (maxL := 5) (ret := (some .int)) (by decide) rfl ?_
  intro p e s m args below meth c s₁ B hml hv
  obtain ⟨rfl, hP, hX⟩ := hv
  have S : CallFix p m c b_MC_fault 5 s ([.ref (Z.2.2.1 138), .int x1, .int x2, .int x3] : List Value).toArray gtb R_MC := ⟨B.exec, B.bytes, hml, findClass_of_methodNamed B.named, fun w hw => atoms_spec (ws := .code y_MC_fault b_MC_fault 5 (some .int) :: gtb) B.pre w (List.mem_cons_of_mem _ hw)⟩
  have hl := lv_entry ([.ref (Z.2.2.1 138), .int x1, .int x2, .int x3]) (n := 5) (Nat.le_of_ble_eq_true rfl)
  rw [lg_entry_eq]
  exact wk_MC_fault hI hZ M x1 x2 x3 S hX ⟨Nat.le_refl _, Nat.le_refl _⟩ (fun pc H locs ls hH d => q_ri S.1 S.2.1 B.returns B.notSynchronized hH rfl rfl d) hf ⟨hP, va_S.rf⟩ hl
