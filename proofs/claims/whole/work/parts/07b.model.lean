theorem cw_MM_197 {R : Room} {s : State} {args : Array Value} (ht : ∀ w ∈ gtb, w.before args s = true) (h1 : 1 + 1 ≤ R.frames) (h2 : 8 + (2 + 11) + 25 ≤ R.locals) : CallW R s args R_MM R_MM 197 y_MM_isParty b_MM_isParty 2 (some .boolean) (.code y_MM_isParty b_MM_isParty 2 (some .boolean) :: gtb) { frames := 1, cells := 0, slots := 0, locals := 25 } 0 0 1 := cwV 1 ht (gV w5_166 w5_168 ws_MM_isParty w1_10 w5_169) rfl rfl rfl ⟨rfl, by decide, by decide, by decide +kernel⟩ ⟨h1, h2⟩
noncomputable def f_MM_canBe (M : Mem) (x1 : Int32) (x2 : Int32) : Bool := 
    if x1 = (0 : Int32) then (f_MM_isParty M x2) else 
    if x1 = (1 : Int32) then (f_MM_in x2.toInt64 (0 : Int64) (3 : Int64)) else 
    if x1 = (2 : Int32) then (f_MM_in x2.toInt64 (1 : Int64) (8 : Int64)) else 
    if x1 = (3 : Int32) then (f_MM_in x2.toInt64 (0 : Int64) (3 : Int64)) else 
    if x1 = (4 : Int32) then (f_MM_in x2.toInt64 (1 : Int64) (4 : Int64)) else (f_MM_in x2.toInt64 (0 : Int64) (3 : Int64))
set_option maxHeartbeats 4000000 in
theorem wk_MM_canBe {l : Launch} {Z : WD} (hI : wI Z) (hZ : IsM Z) (M : Mem) (x1 : Int32) (x2 : Int32) {r : Bool} {p : Program} {e : Env} {R : Room} {s : State} {m : MethodId} {args : Array Value} {below : List Frame} {meth : Method} {c : Code} {H : Heap} {locs : List Loc} {ls : Array Slot} {Q : State → Prop} (S : CallFix p m c b_MM_canBe 3 s args gtb R_MM) (hX : wX Z s) (hR : 2 ≤ R.frames ∧ 46 ≤ R.locals) (hQ : ∀ (pc : Nat) (H : Heap) (locs : List Loc) (ls : Array Slot), HW Z M s H locs → decode b_MM_canBe pc = .ok (.ireturn, 1) → W p l e R s m args below meth c H locs 0 0 Q (F0 m pc ls [.int (bI r)])) (hf0 : f_MM_canBe M x1 x2 = r) (hH : HW Z M s H locs) (hl : lv_has ls 3 [(0, .ref (Z.2.2.1 0)), (1, .int x1), (2, .int x2)]) : W p l e R s m args below meth c H locs 0 0 Q (F0 m 0 ls []) := by
  have hx := S.1
  have hb := S.2.1
  have hown := S.2.2.2.1
  have ht := S.2.2.2.2
  unfold f_MM_canBe at hf0
  refine lv_iload_n hx hb d_MM_canBe_0 rfl (lv_at hl 1 rfl) ?_
  by_cases hcv0 : x1 = (0 : Int32)
  · replace hf0 := o_t hcv0 hf0
    refine lv_tableIn (tgt := 36) hx hb d_MM_canBe_1 (by rw [hcv0]; decide) (by rw [hcv0]; decide) (by rw [hcv0]; rfl) (by decide) ?_
    refine lv_aload_n hx hb d_MM_canBe_36 rfl (lv_at hl 0 rfl) ?_
    refine lv_iload_n hx hb d_MM_canBe_37 rfl (lv_at hl 2 rfl) ?_
    refine q_cVi (As := [.int x2]) (rest := []) S hX hH (c_MM_isParty l hI hZ M x2 rfl) (cw_MM_197 S.2.2.2.2 (Nat.le_trans (Nat.le_of_ble_eq_true rfl) hR.1) (Nat.le_trans (Nat.le_of_ble_eq_true rfl) hR.2)) (rc_MM hX hH hZ) rfl hl.1 rfl (Nat.le_of_ble_eq_true rfl) d_MM_canBe_38 ⟨Nat.zero_le _, Nat.zero_le _⟩ (fun H locs hH => ?_)
    subst hf0
    exact hQ _ _ _ _ hH d_MM_canBe_41
  replace hf0 := o_f hcv0 hf0
  by_cases hcv1 : x1 = (1 : Int32)
  · replace hf0 := o_t hcv1 hf0
    refine lv_tableIn (tgt := 62) hx hb d_MM_canBe_1 (by rw [hcv1]; decide) (by rw [hcv1]; decide) (by rw [hcv1]; rfl) (by decide) ?_
    refine lv_iload_n hx hb d_MM_canBe_62 rfl (lv_at hl 2 rfl) ?_
    refine lv_i2l hx hb d_MM_canBe_63 rfl ?_
    refine lv_lconst (v := (0 : Int64)) hx hb d_MM_canBe_64 (by decide) ?_
    refine lv_ldc2 (v := (3 : Int64)) hx hb hown (ht _ w5_171) d_MM_canBe_65 ?_
    refine q_cSi (As := [.long x2.toInt64, .long (0 : Int64), .long (3 : Int64)]) (rest := []) S hX hH (c_MM_in l hI M x2.toInt64 (0 : Int64) (3 : Int64) rfl) (cw_MM_108 S.2.2.2.2 (Nat.le_trans (Nat.le_of_ble_eq_true rfl) hR.1) (Nat.le_trans (Nat.le_of_ble_eq_true rfl) hR.2)) rfl hl.1 rfl (Nat.le_of_ble_eq_true rfl) d_MM_canBe_68 ⟨Nat.zero_le _, Nat.zero_le _⟩ (fun H locs hH => ?_)
    subst hf0
    exact hQ _ _ _ _ hH d_MM_canBe_71
  replace hf0 := o_f hcv1 hf0
  by_cases hcv2 : x1 = (2 : Int32)
  · replace hf0 := o_t hcv2 hf0
    refine lv_tableIn (tgt := 42) hx hb d_MM_canBe_1 (by rw [hcv2]; decide) (by rw [hcv2]; decide) (by rw [hcv2]; rfl) (by decide) ?_
    refine lv_iload_n hx hb d_MM_canBe_42 rfl (lv_at hl 2 rfl) ?_
    refine lv_i2l hx hb d_MM_canBe_43 rfl ?_
    refine lv_lconst (v := (1 : Int64)) hx hb d_MM_canBe_44 (by decide) ?_
    refine lv_ldc2 (v := (8 : Int64)) hx hb hown (ht _ w5_170) d_MM_canBe_45 ?_
    refine q_cSi (As := [.long x2.toInt64, .long (1 : Int64), .long (8 : Int64)]) (rest := []) S hX hH (c_MM_in l hI M x2.toInt64 (1 : Int64) (8 : Int64) rfl) (cw_MM_108 S.2.2.2.2 (Nat.le_trans (Nat.le_of_ble_eq_true rfl) hR.1) (Nat.le_trans (Nat.le_of_ble_eq_true rfl) hR.2)) rfl hl.1 rfl (Nat.le_of_ble_eq_true rfl) d_MM_canBe_48 ⟨Nat.zero_le _, Nat.zero_le _⟩ (fun H locs hH => ?_)
    subst hf0
    exact hQ _ _ _ _ hH d_MM_canBe_51
  replace hf0 := o_f hcv2 hf0
  by_cases hcv3 : x1 = (3 : Int32)
  · replace hf0 := o_t hcv3 hf0
    refine lv_tableIn (tgt := 62) hx hb d_MM_canBe_1 (by rw [hcv3]; decide) (by rw [hcv3]; decide) (by rw [hcv3]; rfl) (by decide) ?_
    refine lv_iload_n hx hb d_MM_canBe_62 rfl (lv_at hl 2 rfl) ?_
    refine lv_i2l hx hb d_MM_canBe_63 rfl ?_
    refine lv_lconst (v := (0 : Int64)) hx hb d_MM_canBe_64 (by decide) ?_
    refine lv_ldc2 (v := (3 : Int64)) hx hb hown (ht _ w5_171) d_MM_canBe_65 ?_
    refine q_cSi (As := [.long x2.toInt64, .long (0 : Int64), .long (3 : Int64)]) (rest := []) S hX hH (c_MM_in l hI M x2.toInt64 (0 : Int64) (3 : Int64) rfl) (cw_MM_108 S.2.2.2.2 (Nat.le_trans (Nat.le_of_ble_eq_true rfl) hR.1) (Nat.le_trans (Nat.le_of_ble_eq_true rfl) hR.2)) rfl hl.1 rfl (Nat.le_of_ble_eq_true rfl) d_MM_canBe_68 ⟨Nat.zero_le _, Nat.zero_le _⟩ (fun H locs hH => ?_)
    subst hf0
    exact hQ _ _ _ _ hH d_MM_canBe_71
  replace hf0 := o_f hcv3 hf0
  by_cases hcv4 : x1 = (4 : Int32)
  · replace hf0 := o_t hcv4 hf0
    refine lv_tableIn (tgt := 52) hx hb d_MM_canBe_1 (by rw [hcv4]; decide) (by rw [hcv4]; decide) (by rw [hcv4]; rfl) (by decide) ?_
    refine lv_iload_n hx hb d_MM_canBe_52 rfl (lv_at hl 2 rfl) ?_
    refine lv_i2l hx hb d_MM_canBe_53 rfl ?_
    refine lv_lconst (v := (1 : Int64)) hx hb d_MM_canBe_54 (by decide) ?_
    refine lv_ldc2 (v := (4 : Int64)) hx hb hown (ht _ w5_161) d_MM_canBe_55 ?_
    refine q_cSi (As := [.long x2.toInt64, .long (1 : Int64), .long (4 : Int64)]) (rest := []) S hX hH (c_MM_in l hI M x2.toInt64 (1 : Int64) (4 : Int64) rfl) (cw_MM_108 S.2.2.2.2 (Nat.le_trans (Nat.le_of_ble_eq_true rfl) hR.1) (Nat.le_trans (Nat.le_of_ble_eq_true rfl) hR.2)) rfl hl.1 rfl (Nat.le_of_ble_eq_true rfl) d_MM_canBe_58 ⟨Nat.zero_le _, Nat.zero_le _⟩ (fun H locs hH => ?_)
    subst hf0
    exact hQ _ _ _ _ hH d_MM_canBe_61
  replace hf0 := o_f hcv4 hf0
  refine lv_tableOut (tgt := 62) hx hb d_MM_canBe_1 (sw_out (fun v h1 h2 => by rcases (show v = 0 ∨ v = 1 ∨ v = 2 ∨ v = 3 ∨ v = 4 by omega) with rfl | rfl | rfl | rfl | rfl <;> assumption)) (by decide) ?_
  refine lv_iload_n hx hb d_MM_canBe_62 rfl (lv_at hl 2 rfl) ?_
  refine lv_i2l hx hb d_MM_canBe_63 rfl ?_
  refine lv_lconst (v := (0 : Int64)) hx hb d_MM_canBe_64 (by decide) ?_
  refine lv_ldc2 (v := (3 : Int64)) hx hb hown (ht _ w5_171) d_MM_canBe_65 ?_
  refine q_cSi (As := [.long x2.toInt64, .long (0 : Int64), .long (3 : Int64)]) (rest := []) S hX hH (c_MM_in l hI M x2.toInt64 (0 : Int64) (3 : Int64) rfl) (cw_MM_108 S.2.2.2.2 (Nat.le_trans (Nat.le_of_ble_eq_true rfl) hR.1) (Nat.le_trans (Nat.le_of_ble_eq_true rfl) hR.2)) rfl hl.1 rfl (Nat.le_of_ble_eq_true rfl) d_MM_canBe_68 ⟨Nat.zero_le _, Nat.zero_le _⟩ (fun H locs hH => ?_)
  subst hf0
  exact hQ _ _ _ _ hH d_MM_canBe_71
theorem c_MM_canBe (l : Launch) {Z : WD} (hI : wI Z) (hZ : IsM Z) (M : Mem) (x1 : Int32) (x2 : Int32) {r : Bool} (hf : f_MM_canBe M x1 x2 = r) : Ci l Z y_MM_canBe b_MM_canBe 3 (some .boolean) 2 46 [.ref (Z.2.2.1 0), .int x1, .int x2] M M (bI r) := by
  refine Met.ofW (cc := b_MM_canBe) (maxL := 3) (ret := (some .boolean)) (by decide) rfl ?_
  intro p e s m args below meth c s₁ B hml hv
  obtain ⟨rfl, hP, hX⟩ := hv
  have S : CallFix p m c b_MM_canBe 3 s ([.ref (Z.2.2.1 0), .int x1, .int x2] : List Value).toArray gtb R_MM := ⟨B.exec, B.bytes, hml, findClass_of_methodNamed B.named, fun w hw => atoms_spec (ws := .code y_MM_canBe b_MM_canBe 3 (some .boolean) :: gtb) B.pre w (List.mem_cons_of_mem _ hw)⟩
  have hl := lv_entry ([.ref (Z.2.2.1 0), .int x1, .int x2]) (n := 3) (Nat.le_of_ble_eq_true rfl)
  rw [lg_entry_eq]
  exact wk_MM_canBe hI hZ M x1 x2 S hX ⟨Nat.le_refl _, Nat.le_refl _⟩ (fun pc H locs ls hH d => q_rz S.1 S.2.1 B.returns B.notSynchronized hH rfl rfl d) hf ⟨hP, va_S.rf⟩ hl
noncomputable def f_MM_keepsPast_J52 (M : Mem) : Option (Mem) := bnd (f_MM_moves 1 302 4 3020 M (0 : Int32) ((302 : Int32) * (M 0 6))) (fun M2 => lt1 (upM M2 0 6 ((M2 0 6) + (1 : Int32))) (fun M3 => some M3))
noncomputable def f_MM_keepsPast_L13 (x1 : Int32) (M : Mem) : Option ((Int32 × Mem) ⊕ Mem) := if (3020 : Int32) ≤ x1 then some (.inr M) else 
    gIn x1 3020 (gIn (x1 - (302 : Int32)) 3020 (lt1 (upM M 4 ((x1 - (302 : Int32)).toNatClampNeg) (M 4 x1.toNatClampNeg)) (fun M6 => some (.inl (x1 + (1 : Int32), M6)))))
noncomputable def f_MM_keepsPast_W13  (u : (Int32 × Mem)) : Option Mem := loop (fun t => f_MM_keepsPast_L13 t.1 t.2) u
noncomputable def f_MM_keepsPast_J13 (M : Mem) (x1 : Int32) : Option (Mem) := bnd (f_MM_keepsPast_W13 (x1, M)) (fun e13 => lt1 (upM e13 0 6 ((e13 0 6) - (1 : Int32))) (fun M7 => f_MM_keepsPast_J52 M7))
noncomputable def f_MM_keepsPast (M : Mem) : Option Mem := if (M 0 6) = (10 : Int32) then f_MM_keepsPast_J13 M (302 : Int32) else f_MM_keepsPast_J52 M
set_option maxHeartbeats 4000000 in
theorem wk_MM_keepsPast {l : Launch} {Z : WD} (hI : wI Z) (hZ : IsM Z) (M : Mem) {M' : Mem} {p : Program} {e : Env} {R : Room} {s : State} {m : MethodId} {args : Array Value} {below : List Frame} {meth : Method} {c : Code} {H : Heap} {locs : List Loc} {ls : Array Slot} {Q : State → Prop} (S : CallFix p m c b_MM_keepsPast 2 s args gtb R_MM) (hX : wX Z s) (hR : 1 ≤ R.frames ∧ 24 ≤ R.locals) (hQ : ∀ (pc : Nat) (H : Heap) (locs : List Loc) (ls : Array Slot), HW Z M' s H locs → decode b_MM_keepsPast pc = .ok (.return_, 1) → W p l e R s m args below meth c H locs 0 0 Q (F0 m pc ls [])) (hf0 : f_MM_keepsPast M = some M') (hH : HW Z M s H locs) (hl : lv_has ls 2 [(0, .ref (Z.2.2.1 0))]) : W p l e R s m args below meth c H locs 0 0 Q (F0 m 0 ls []) := by
  have hx := S.1
  have hb := S.2.1
  have hown := S.2.2.2.1
  have ht := S.2.2.2.2
  unfold f_MM_keepsPast at hf0
  have J52 : ∀ (M : Mem) (H : Heap) (locs : List Loc) (ls : Array Slot), f_MM_keepsPast_J52 M = some M' → HW Z M s H locs → lv_has ls 2 [(0, .ref (Z.2.2.1 0))] → W p l e R s m args below meth c H locs 0 0 Q (F0 m 52 ls []) := by
    intro M H locs ls hf0 hH hl
    unfold f_MM_keepsPast_J52 at hf0
    refine lv_aload_n hx hb d_MM_keepsPast_52 rfl (lv_at hl 0 rfl) ?_
    refine g_MM_9 S hX hH hZ d_MM_keepsPast_53 ?_
    refine lv_iconst (v := (0 : Int32)) hx hb d_MM_keepsPast_56 (by decide) ?_
    refine lv_aload_n hx hb d_MM_keepsPast_57 rfl (lv_at hl 0 rfl) ?_
    refine g_MM_19 S hX hH hZ d_MM_keepsPast_58 ?_
    refine lv_sipush (v := (302 : Int32)) hx hb d_MM_keepsPast_61 (by decide) ?_
    refine lv_aload_n hx hb d_MM_keepsPast_64 rfl (lv_at hl 0 rfl) ?_
    refine g_MM_194 S hX hH hZ d_MM_keepsPast_65 ?_
    refine lv_imul hx hb d_MM_keepsPast_68 ?_
    obtain ⟨M2, hc1, hf0⟩ := o_b hf0
    refine q_cSv (As := [.ref (Z.2.2.1 1), .int (0 : Int32), .ref (Z.2.2.1 4), .int ((302 : Int32) * (M 0 6))]) (rest := []) S hX hH (c_MM_moves l hI 1 302 4 3020 M (0 : Int32) ((302 : Int32) * (M 0 6)) (aa_MM_1 hZ) (aa_MM_4 hZ) hc1) (cw_MM_190 S.2.2.2.2 (Nat.le_trans (Nat.le_of_ble_eq_true rfl) hR.1) (Nat.le_trans (Nat.le_of_ble_eq_true rfl) hR.2)) rfl hl.1 rfl (Nat.le_of_ble_eq_true rfl) d_MM_keepsPast_69 ⟨Nat.zero_le _, Nat.zero_le _⟩ (fun H locs hH => ?_)
    refine lv_aload_n hx hb d_MM_keepsPast_72 rfl (lv_at hl 0 rfl) ?_
    refine lv_dup hx hb d_MM_keepsPast_73 rfl ?_
    refine g_MM_194 S hX hH hZ d_MM_keepsPast_74 ?_
    refine lv_iconst (v := (1 : Int32)) hx hb d_MM_keepsPast_77 (by decide) ?_
    refine lv_iadd hx hb d_MM_keepsPast_78 ?_
    obtain ⟨M3, hM3, hf0⟩ := o_l hf0
    refine s_MM_194 S hX hI hH hZ d_MM_keepsPast_79 (fun H locs hH => ?_)
    rw [hM3] at hH
    obtain rfl := o_v hf0
    exact hQ _ _ _ _ hH d_MM_keepsPast_82
  have J13 : ∀ (M : Mem) (x1 : Int32) (H : Heap) (locs : List Loc) (ls : Array Slot), f_MM_keepsPast_J13 M x1 = some M' → HW Z M s H locs → lv_has ls 2 [(0, .ref (Z.2.2.1 0)), (1, .int x1)] → W p l e R s m args below meth c H locs 0 0 Q (F0 m 13 ls []) := by
    intro M x1 H locs ls hf0 hH hl
    unfold f_MM_keepsPast_J13 at hf0
    obtain ⟨e13, he13, hf0⟩ := o_b hf0
    have KX13 : ∀ (H : Heap) (locs : List Loc) (ls : Array Slot), HW Z e13 s H locs → lv_has ls 2 [(0, .ref (Z.2.2.1 0))] → W p l e R s m args below meth c H locs 0 0 Q (F0 m 42 ls []) := by
      intro H locs ls hH hl
      refine lv_aload_n hx hb d_MM_keepsPast_42 rfl (lv_at hl 0 rfl) ?_
      refine lv_dup hx hb d_MM_keepsPast_43 rfl ?_
      refine g_MM_194 S hX hH hZ d_MM_keepsPast_44 ?_
      refine lv_iconst (v := (1 : Int32)) hx hb d_MM_keepsPast_47 (by decide) ?_
      refine lv_isub hx hb d_MM_keepsPast_48 ?_
      obtain ⟨M7, hM7, hf0⟩ := o_l hf0
      refine s_MM_194 S hX hI hH hZ d_MM_keepsPast_49 (fun H locs hH => ?_)
      rw [hM7] at hH
      exact J52 _ _ _ _ hf0 hH (lv_sub hl [0] rfl)
    unfold f_MM_keepsPast_W13 at he13
    refine loop_W (fun t => ∀ (H : Heap) (locs : List Loc) (ls : Array Slot), HW Z t.2 s H locs → lv_has ls 2 [(0, .ref (Z.2.2.1 0)), (1, .int t.1)] → W p l e R s m args below meth c H locs 0 0 Q (F0 m 13 ls [])) ?_ he13 H locs ls hH hl
    rintro ⟨x1, M⟩ o1 hf1 hG1 hR1 H locs ls hH hl
    replace hH : HW Z M s H locs := hH
    replace hl : lv_has ls 2 [(0, .ref (Z.2.2.1 0)), (1, .int x1)] := hl
    replace hf1 : f_MM_keepsPast_L13 x1 M = some o1 := hf1
    unfold f_MM_keepsPast_L13 at hf1
    refine lv_iload_n hx hb d_MM_keepsPast_13 rfl (lv_at hl 1 rfl) ?_
    refine lv_sipush (v := (3020 : Int32)) hx hb d_MM_keepsPast_14 (by decide) ?_
    refine lv_icmp_ge (tgt := 42) hx hb d_MM_keepsPast_17 (by decide) (fun hc => ?_) (fun hc => ?_)
    · replace hf1 := o_t hc hf1
      obtain rfl := hR1 _ (o_v hf1).symm
      exact KX13 _ _ _ hH (lv_sub hl [0] rfl)
    · replace hf1 := o_f hc hf1
      refine lv_aload_n hx hb d_MM_keepsPast_20 rfl (lv_at hl 0 rfl) ?_
      refine g_MM_19 S hX hH hZ d_MM_keepsPast_21 ?_
      refine lv_iload_n hx hb d_MM_keepsPast_24 rfl (lv_at hl 1 rfl) ?_
      refine lv_sipush (v := (302 : Int32)) hx hb d_MM_keepsPast_25 (by decide) ?_
      refine lv_isub hx hb d_MM_keepsPast_28 ?_
      refine lv_aload_n hx hb d_MM_keepsPast_29 rfl (lv_at hl 0 rfl) ?_
      refine g_MM_19 S hX hH hZ d_MM_keepsPast_30 ?_
      refine lv_iload_n hx hb d_MM_keepsPast_33 rfl (lv_at hl 1 rfl) ?_
      obtain ⟨hn4, hf1⟩ := o_in hf1
      refine q_iald (j := x1.toNatClampNeg) hx hb hX hH (aa_MM_4 hZ) hn4 rfl d_MM_keepsPast_34 ?_
      obtain ⟨hn5, hf1⟩ := o_in hf1
      obtain ⟨M6, hM6, hf1⟩ := o_l hf1
      refine q_iast (j := (x1 - (302 : Int32)).toNatClampNeg) hx hb hX hI hH (aa_MM_4 hZ) hn5 rfl d_MM_keepsPast_35 (fun H locs hH => ?_)
      rw [hM6] at hH
      refine lv_iinc (v := x1 + (1 : Int32)) (lv' := [(1, .int (x1 + (1 : Int32))), (0, .ref (Z.2.2.1 0))]) hx hb d_MM_keepsPast_36 hl (k := 1) rfl rfl (by decide) rfl (fun ls hl => ?_)
      refine lv_goto (tgt := 13) hx hb d_MM_keepsPast_39 (by decide) ?_
      exact hG1 _ (o_v hf1).symm _ _ _ hH (lv_sub hl [1, 0] rfl)
  refine lv_aload_n hx hb d_MM_keepsPast_0 rfl (lv_at hl 0 rfl) ?_
  refine g_MM_194 S hX hH hZ d_MM_keepsPast_1 ?_
  refine lv_bipush (v := (10 : Int32)) hx hb d_MM_keepsPast_4 (by decide) ?_
  refine lv_icmp_ne (tgt := 52) hx hb d_MM_keepsPast_6 (by decide) (fun hc => ?_) (fun hc => ?_)
  · replace hf0 := o_f hc hf0
    exact J52 _ _ _ _ hf0 hH (lv_sub hl [0] rfl)
  · replace hf0 := o_t hc hf0
    refine lv_sipush (v := (302 : Int32)) hx hb d_MM_keepsPast_9 (by decide) ?_
    refine lv_istore_n (lv' := [(1, .int (302 : Int32)), (0, .ref (Z.2.2.1 0))]) hx hb d_MM_keepsPast_12 rfl hl (by decide) rfl (fun ls hl => ?_)
    exact J13 _ _ _ _ _ hf0 hH (lv_sub hl [1, 0] rfl)
theorem c_MM_keepsPast (l : Launch) {Z : WD} (hI : wI Z) (hZ : IsM Z) (M : Mem) {M' : Mem} (hf : f_MM_keepsPast M = some M') : Cv l Z y_MM_keepsPast b_MM_keepsPast 2 none 1 24 [.ref (Z.2.2.1 0)] M M' := by
  refine Met.ofW (cc := b_MM_keepsPast) (maxL := 2) (ret := none) (by decide) rfl ?_
  intro p e s m args below meth c s₁ B hml hv
  obtain ⟨rfl, hP, hX⟩ := hv
  have S : CallFix p m c b_MM_keepsPast 2 s ([.ref (Z.2.2.1 0)] : List Value).toArray gtb R_MM := ⟨B.exec, B.bytes, hml, findClass_of_methodNamed B.named, fun w hw => atoms_spec (ws := .code y_MM_keepsPast b_MM_keepsPast 2 none :: gtb) B.pre w (List.mem_cons_of_mem _ hw)⟩
  have hl := lv_entry ([.ref (Z.2.2.1 0)]) (n := 2) (Nat.le_of_ble_eq_true rfl)
  rw [lg_entry_eq]
  exact wk_MM_keepsPast hI hZ M S hX ⟨Nat.le_refl _, Nat.le_refl _⟩ (fun pc H locs ls hH d => q_rv S.1 S.2.1 B.returns B.notSynchronized hH rfl d) hf ⟨hP, va_S.rf⟩ hl
theorem cw_MM_214 {R : Room} {s : State} {args : Array Value} (ht : ∀ w ∈ gtb, w.before args s = true) (h1 : 2 + 1 ≤ R.frames) (h2 : 8 + (3 + 11) + 46 ≤ R.locals) : CallW R s args R_MM R_MM 214 y_MM_canBe b_MM_canBe 3 (some .boolean) (.code y_MM_canBe b_MM_canBe 3 (some .boolean) :: gtb) { frames := 2, cells := 0, slots := 0, locals := 46 } 0 0 2 := cwV 2 ht (gV w5_162 w5_164 ws_MM_canBe w1_10 w5_165) rfl rfl rfl ⟨rfl, by decide, by decide, by decide +kernel⟩ ⟨h1, h2⟩
theorem cw_MM_217 {R : Room} {s : State} {args : Array Value} (ht : ∀ w ∈ gtb, w.before args s = true) (h1 : 1 + 1 ≤ R.frames) (h2 : 8 + (2 + 11) + 24 ≤ R.locals) : CallW R s args R_MM R_MM 217 y_MM_keepsPast b_MM_keepsPast 2 none (.code y_MM_keepsPast b_MM_keepsPast 2 none :: gtb) { frames := 1, cells := 0, slots := 0, locals := 24 } 0 0 0 := cwV 0 ht (gV w5_172 w5_174 ws_MM_keepsPast w1_10 w5_175) rfl rfl rfl ⟨rfl, by decide, by decide, by decide +kernel⟩ ⟨h1, h2⟩
noncomputable def f_MM_settle (M : Mem) (x1 : Int32) (x2 : Int32) : Option (Int32 × Mem) := 
    if (M 1 0) = 0 then some ((-1 : Int32), M) else 
    if (bI (f_MM_in x1.toInt64 (0 : Int64) (4 : Int64))) = 0 then some ((-1 : Int32), M) else 
    if (bI (f_MM_canBe M x1 x2)) = 0 then some ((-1 : Int32), M) else 
    gIn ((1 : Int32) + x1) 302 (if (M 1 ((1 : Int32) + x1).toNatClampNeg) = x2 then some ((-2 : Int32), M) else 
    bnd (f_MM_keepsPast M) (fun M3 => 
    lt1 (upM M3 1 (((1 : Int32) + x1).toNatClampNeg) x2) (fun M4 => some (M 1 ((1 : Int32) + x1).toNatClampNeg, M4))))
set_option maxHeartbeats 4000000 in
theorem wk_MM_settle {l : Launch} {Z : WD} (hI : wI Z) (hZ : IsM Z) (M : Mem) (x1 : Int32) (x2 : Int32) {r : Int32} {M' : Mem} {p : Program} {e : Env} {R : Room} {s : State} {m : MethodId} {args : Array Value} {below : List Frame} {meth : Method} {c : Code} {H : Heap} {locs : List Loc} {ls : Array Slot} {Q : State → Prop} (S : CallFix p m c b_MM_settle 4 s args gtb R_MM) (hX : wX Z s) (hR : 3 ≤ R.frames ∧ 68 ≤ R.locals) (hQ : ∀ (pc : Nat) (H : Heap) (locs : List Loc) (ls : Array Slot), HW Z M' s H locs → decode b_MM_settle pc = .ok (.ireturn, 1) → W p l e R s m args below meth c H locs 0 0 Q (F0 m pc ls [.int r])) (hf0 : f_MM_settle M x1 x2 = some (r, M')) (hH : HW Z M s H locs) (hl : lv_has ls 4 [(0, .ref (Z.2.2.1 0)), (1, .int x1), (2, .int x2)]) : W p l e R s m args below meth c H locs 0 0 Q (F0 m 0 ls []) := by
  have hx := S.1
  have hb := S.2.1
  have hown := S.2.2.2.1
  have ht := S.2.2.2.2
  unfold f_MM_settle at hf0
  refine lv_aload_n hx hb d_MM_settle_0 rfl (lv_at hl 0 rfl) ?_
  refine g_MM_9 S hX hH hZ d_MM_settle_1 ?_
  refine lv_iconst (v := (0 : Int32)) hx hb d_MM_settle_4 (by decide) ?_
  refine q_iald (j := 0) hx hb hX hH (aa_MM_1 hZ) (vp_c (by decide)) (by decide) d_MM_settle_5 ?_
  refine lv_if_eq (tgt := 30) hx hb d_MM_settle_6 (by decide) (fun hc => ?_) (fun hc => ?_)
  · replace hf0 := o_t hc hf0
    refine lv_iconst (v := (-1 : Int32)) hx hb d_MM_settle_30 (by decide) ?_
    obtain ⟨rfl, rfl⟩ := o_p hf0
    exact hQ _ _ _ _ hH d_MM_settle_31
  · replace hf0 := o_f hc hf0
    refine lv_iload_n hx hb d_MM_settle_9 rfl (lv_at hl 1 rfl) ?_
    refine lv_i2l hx hb d_MM_settle_10 rfl ?_
    refine lv_lconst (v := (0 : Int64)) hx hb d_MM_settle_11 (by decide) ?_
    refine lv_ldc2 (v := (4 : Int64)) hx hb hown (ht _ w5_161) d_MM_settle_12 ?_
    refine q_cSi (As := [.long x1.toInt64, .long (0 : Int64), .long (4 : Int64)]) (rest := []) S hX hH (c_MM_in l hI M x1.toInt64 (0 : Int64) (4 : Int64) rfl) (cw_MM_108 S.2.2.2.2 (Nat.le_trans (Nat.le_of_ble_eq_true rfl) hR.1) (Nat.le_trans (Nat.le_of_ble_eq_true rfl) hR.2)) rfl hl.1 rfl (Nat.le_of_ble_eq_true rfl) d_MM_settle_15 ⟨Nat.zero_le _, Nat.zero_le _⟩ (fun H locs hH => ?_)
    refine lv_if_eq (tgt := 30) hx hb d_MM_settle_18 (by decide) (fun hc => ?_) (fun hc => ?_)
    · replace hf0 := o_t hc hf0
      refine lv_iconst (v := (-1 : Int32)) hx hb d_MM_settle_30 (by decide) ?_
      obtain ⟨rfl, rfl⟩ := o_p hf0
      exact hQ _ _ _ _ hH d_MM_settle_31
    · replace hf0 := o_f hc hf0
      refine lv_aload_n hx hb d_MM_settle_21 rfl (lv_at hl 0 rfl) ?_
      refine lv_iload_n hx hb d_MM_settle_22 rfl (lv_at hl 1 rfl) ?_
      refine lv_iload_n hx hb d_MM_settle_23 rfl (lv_at hl 2 rfl) ?_
      refine q_cVi (As := [.int x1, .int x2]) (rest := []) S hX hH (c_MM_canBe l hI hZ M x1 x2 rfl) (cw_MM_214 S.2.2.2.2 (Nat.le_trans (Nat.le_of_ble_eq_true rfl) hR.1) (Nat.le_trans (Nat.le_of_ble_eq_true rfl) hR.2)) (rc_MM hX hH hZ) rfl hl.1 rfl (Nat.le_of_ble_eq_true rfl) d_MM_settle_24 ⟨Nat.zero_le _, Nat.zero_le _⟩ (fun H locs hH => ?_)
      refine lv_if_ne (tgt := 32) hx hb d_MM_settle_27 (by decide) (fun hc => ?_) (fun hc => ?_)
      · replace hf0 := o_f hc hf0
        refine lv_aload_n hx hb d_MM_settle_32 rfl (lv_at hl 0 rfl) ?_
        refine g_MM_9 S hX hH hZ d_MM_settle_33 ?_
        refine lv_iconst (v := (1 : Int32)) hx hb d_MM_settle_36 (by decide) ?_
        refine lv_iload_n hx hb d_MM_settle_37 rfl (lv_at hl 1 rfl) ?_
        refine lv_iadd hx hb d_MM_settle_38 ?_
        obtain ⟨hn1, hf0⟩ := o_in hf0
        refine q_iald (j := ((1 : Int32) + x1).toNatClampNeg) hx hb hX hH (aa_MM_1 hZ) hn1 rfl d_MM_settle_39 ?_
        refine lv_istore_n (lv' := [(3, .int (M 1 ((1 : Int32) + x1).toNatClampNeg)), (0, .ref (Z.2.2.1 0)), (1, .int x1), (2, .int x2)]) hx hb d_MM_settle_40 rfl hl (by decide) rfl (fun ls hl => ?_)
        refine lv_iload_n hx hb d_MM_settle_41 rfl (lv_at hl 0 rfl) ?_
        refine lv_iload_n hx hb d_MM_settle_42 rfl (lv_at hl 3 rfl) ?_
        refine lv_icmp_ne (tgt := 49) hx hb d_MM_settle_43 (by decide) (fun hc => ?_) (fun hc => ?_)
        · replace hf0 := o_f hc hf0
          refine lv_aload_n hx hb d_MM_settle_49 rfl (lv_at hl 1 rfl) ?_
          obtain ⟨M3, hc2, hf0⟩ := o_b hf0
          refine q_cVv (As := []) (rest := []) S hX hH (c_MM_keepsPast l hI hZ M hc2) (cw_MM_217 S.2.2.2.2 (Nat.le_trans (Nat.le_of_ble_eq_true rfl) hR.1) (Nat.le_trans (Nat.le_of_ble_eq_true rfl) hR.2)) (rc_MM hX hH hZ) rfl hl.1 rfl (Nat.le_of_ble_eq_true rfl) d_MM_settle_50 ⟨Nat.zero_le _, Nat.zero_le _⟩ (fun H locs hH => ?_)
          refine lv_aload_n hx hb d_MM_settle_53 rfl (lv_at hl 1 rfl) ?_
          refine g_MM_9 S hX hH hZ d_MM_settle_54 ?_
          refine lv_iconst (v := (1 : Int32)) hx hb d_MM_settle_57 (by decide) ?_
          refine lv_iload_n hx hb d_MM_settle_58 rfl (lv_at hl 2 rfl) ?_
          refine lv_iadd hx hb d_MM_settle_59 ?_
          refine lv_iload_n hx hb d_MM_settle_60 rfl (lv_at hl 3 rfl) ?_
          obtain ⟨M4, hM4, hf0⟩ := o_l hf0
          refine q_iast (j := ((1 : Int32) + x1).toNatClampNeg) hx hb hX hI hH (aa_MM_1 hZ) hn1 rfl d_MM_settle_61 (fun H locs hH => ?_)
          rw [hM4] at hH
          refine lv_iload_n hx hb d_MM_settle_62 rfl (lv_at hl 0 rfl) ?_
          obtain ⟨rfl, rfl⟩ := o_p hf0
          exact hQ _ _ _ _ hH d_MM_settle_63
        · replace hf0 := o_t hc hf0
          refine lv_bipush (v := (-2 : Int32)) hx hb d_MM_settle_46 (by decide) ?_
          obtain ⟨rfl, rfl⟩ := o_p hf0
          exact hQ _ _ _ _ hH d_MM_settle_48
      · replace hf0 := o_t hc hf0
        refine lv_iconst (v := (-1 : Int32)) hx hb d_MM_settle_30 (by decide) ?_
        obtain ⟨rfl, rfl⟩ := o_p hf0
        exact hQ _ _ _ _ hH d_MM_settle_31
theorem c_MM_settle (l : Launch) {Z : WD} (hI : wI Z) (hZ : IsM Z) (M : Mem) (x1 : Int32) (x2 : Int32) {r : Int32} {M' : Mem} (hf : f_MM_settle M x1 x2 = some (r, M')) : Ci l Z y_MM_settle b_MM_settle 4 (some .int) 3 68 [.ref (Z.2.2.1 0), .int x1, .int x2] M M' r := by
  refine Met.ofW (cc := b_MM_settle) (maxL := 4) (ret := (some .int)) (by decide) rfl ?_
  intro p e s m args below meth c s₁ B hml hv
  obtain ⟨rfl, hP, hX⟩ := hv
  have S : CallFix p m c b_MM_settle 4 s ([.ref (Z.2.2.1 0), .int x1, .int x2] : List Value).toArray gtb R_MM := ⟨B.exec, B.bytes, hml, findClass_of_methodNamed B.named, fun w hw => atoms_spec (ws := .code y_MM_settle b_MM_settle 4 (some .int) :: gtb) B.pre w (List.mem_cons_of_mem _ hw)⟩
  have hl := lv_entry ([.ref (Z.2.2.1 0), .int x1, .int x2]) (n := 4) (Nat.le_of_ble_eq_true rfl)
  rw [lg_entry_eq]
  exact wk_MM_settle hI hZ M x1 x2 S hX ⟨Nat.le_refl _, Nat.le_refl _⟩ (fun pc H locs ls hH d => q_ri S.1 S.2.1 B.returns B.notSynchronized hH rfl rfl d) hf ⟨hP, va_S.rf⟩ hl
noncomputable def f_MM_has (x0 : Int32) (x1 : Int32) : Bool := if ((x0 >>> (x1 &&& 31)) &&& (1 : Int32)) = (1 : Int32) then true else false
set_option maxHeartbeats 4000000 in
theorem wk_MM_has {l : Launch} {Z : WD} (hI : wI Z) (M : Mem) (x0 : Int32) (x1 : Int32) {r : Bool} {p : Program} {e : Env} {R : Room} {s : State} {m : MethodId} {args : Array Value} {below : List Frame} {meth : Method} {c : Code} {H : Heap} {locs : List Loc} {ls : Array Slot} {Q : State → Prop} (S : CallFix p m c b_MM_has 2 s args gtb R_MM) (hX : wX Z s) (hR : 0 ≤ R.frames ∧ 0 ≤ R.locals) (hQ : ∀ (pc : Nat) (H : Heap) (locs : List Loc) (ls : Array Slot), HW Z M s H locs → decode b_MM_has pc = .ok (.ireturn, 1) → W p l e R s m args below meth c H locs 0 0 Q (F0 m pc ls [.int (bI r)])) (hf0 : f_MM_has x0 x1 = r) (hH : HW Z M s H locs) (hl : lv_has ls 2 [(0, .int x0), (1, .int x1)]) : W p l e R s m args below meth c H locs 0 0 Q (F0 m 0 ls []) := by
  have hx := S.1
  have hb := S.2.1
  have hown := S.2.2.2.1
  have ht := S.2.2.2.2
  unfold f_MM_has at hf0
  refine lv_iload_n hx hb d_MM_has_0 rfl (lv_at hl 0 rfl) ?_
  refine lv_iload_n hx hb d_MM_has_1 rfl (lv_at hl 1 rfl) ?_
  refine lv_ishr hx hb d_MM_has_2 ?_
  refine lv_iconst (v := (1 : Int32)) hx hb d_MM_has_3 (by decide) ?_
  refine lv_iand hx hb d_MM_has_4 ?_
  refine lv_iconst (v := (1 : Int32)) hx hb d_MM_has_5 (by decide) ?_
  refine lv_icmp_ne (tgt := 13) hx hb d_MM_has_6 (by decide) (fun hc => ?_) (fun hc => ?_)
  · replace hf0 := o_f hc hf0
    refine lv_iconst (v := (0 : Int32)) hx hb d_MM_has_13 (by decide) ?_
    subst hf0
    exact hQ _ _ _ _ hH d_MM_has_14
  · replace hf0 := o_t hc hf0
    refine lv_iconst (v := (1 : Int32)) hx hb d_MM_has_9 (by decide) ?_
    refine lv_goto (tgt := 14) hx hb d_MM_has_10 (by decide) ?_
    subst hf0
    exact hQ _ _ _ _ hH d_MM_has_14
theorem c_MM_has (l : Launch) {Z : WD} (hI : wI Z) (M : Mem) (x0 : Int32) (x1 : Int32) {r : Bool} (hf : f_MM_has x0 x1 = r) : Ci l Z y_MM_has b_MM_has 2 (some .boolean) 0 0 [.int x0, .int x1] M M (bI r) := by
  refine Met.ofW (cc := b_MM_has) (maxL := 2) (ret := (some .boolean)) (by decide) rfl ?_
  intro p e s m args below meth c s₁ B hml hv
  obtain ⟨rfl, hP, hX⟩ := hv
  have S : CallFix p m c b_MM_has 2 s ([.int x0, .int x1] : List Value).toArray gtb R_MM := ⟨B.exec, B.bytes, hml, findClass_of_methodNamed B.named, fun w hw => atoms_spec (ws := .code y_MM_has b_MM_has 2 (some .boolean) :: gtb) B.pre w (List.mem_cons_of_mem _ hw)⟩
  have hl := lv_entry ([.int x0, .int x1]) (n := 2) (Nat.le_of_ble_eq_true rfl)
  rw [lg_entry_eq]
  exact wk_MM_has hI M x0 x1 S hX ⟨Nat.le_refl _, Nat.le_refl _⟩ (fun pc H locs ls hH d => q_rz S.1 S.2.1 B.returns B.notSynchronized hH rfl rfl d) hf ⟨hP, va_S.rf⟩ hl
theorem cw_MM_201 {R : Room} {s : State} {args : Array Value} (ht : ∀ w ∈ gtb, w.before args s = true) (h1 : 0 + 1 ≤ R.frames) (h2 : 8 + (2 + 11) + 0 ≤ R.locals) : CallB R s args R_MM 201 y_MM_has b_MM_has 2 (some .boolean) (.code y_MM_has b_MM_has 2 (some .boolean) :: gtb) { frames := 0, cells := 0, slots := 0, locals := 0 } 0 0 2 ∧ (Cond.static y_MM_has).before args s = true := va_cwS 2 ht (gS w5_184 w5_185 w1_10 w5_186) rfl rfl rfl ⟨by decide, by decide, by decide +kernel⟩ ⟨h1, h2⟩
noncomputable def f_MM_isLiar (M : Mem) (x1 : Int32) : Bool := (f_MM_has (M 1 6) x1)
set_option maxHeartbeats 4000000 in
theorem wk_MM_isLiar {l : Launch} {Z : WD} (hI : wI Z) (hZ : IsM Z) (M : Mem) (x1 : Int32) {r : Bool} {p : Program} {e : Env} {R : Room} {s : State} {m : MethodId} {args : Array Value} {below : List Frame} {meth : Method} {c : Code} {H : Heap} {locs : List Loc} {ls : Array Slot} {Q : State → Prop} (S : CallFix p m c b_MM_isLiar 2 s args gtb R_MM) (hX : wX Z s) (hR : 1 ≤ R.frames ∧ 21 ≤ R.locals) (hQ : ∀ (pc : Nat) (H : Heap) (locs : List Loc) (ls : Array Slot), HW Z M s H locs → decode b_MM_isLiar pc = .ok (.ireturn, 1) → W p l e R s m args below meth c H locs 0 0 Q (F0 m pc ls [.int (bI r)])) (hf0 : f_MM_isLiar M x1 = r) (hH : HW Z M s H locs) (hl : lv_has ls 2 [(0, .ref (Z.2.2.1 0)), (1, .int x1)]) : W p l e R s m args below meth c H locs 0 0 Q (F0 m 0 ls []) := by
  have hx := S.1
  have hb := S.2.1
  have hown := S.2.2.2.1
  have ht := S.2.2.2.2
  unfold f_MM_isLiar at hf0
  refine lv_aload_n hx hb d_MM_isLiar_0 rfl (lv_at hl 0 rfl) ?_
  refine g_MM_9 S hX hH hZ d_MM_isLiar_1 ?_
  refine lv_bipush (v := (6 : Int32)) hx hb d_MM_isLiar_4 (by decide) ?_
  refine q_iald (j := 6) hx hb hX hH (aa_MM_1 hZ) (vp_c (by decide)) (by decide) d_MM_isLiar_6 ?_
  refine lv_iload_n hx hb d_MM_isLiar_7 rfl (lv_at hl 1 rfl) ?_
  refine q_cSi (As := [.int (M 1 6), .int x1]) (rest := []) S hX hH (c_MM_has l hI M (M 1 6) x1 rfl) (cw_MM_201 S.2.2.2.2 (Nat.le_trans (Nat.le_of_ble_eq_true rfl) hR.1) (Nat.le_trans (Nat.le_of_ble_eq_true rfl) hR.2)) rfl hl.1 rfl (Nat.le_of_ble_eq_true rfl) d_MM_isLiar_8 ⟨Nat.zero_le _, Nat.zero_le _⟩ (fun H locs hH => ?_)
  subst hf0
  exact hQ _ _ _ _ hH d_MM_isLiar_11
theorem c_MM_isLiar (l : Launch) {Z : WD} (hI : wI Z) (hZ : IsM Z) (M : Mem) (x1 : Int32) {r : Bool} (hf : f_MM_isLiar M x1 = r) : Ci l Z y_MM_isLiar b_MM_isLiar 2 (some .boolean) 1 21 [.ref (Z.2.2.1 0), .int x1] M M (bI r) := by
  refine Met.ofW (cc := b_MM_isLiar) (maxL := 2) (ret := (some .boolean)) (by decide) rfl ?_
  intro p e s m args below meth c s₁ B hml hv
  obtain ⟨rfl, hP, hX⟩ := hv
  have S : CallFix p m c b_MM_isLiar 2 s ([.ref (Z.2.2.1 0), .int x1] : List Value).toArray gtb R_MM := ⟨B.exec, B.bytes, hml, findClass_of_methodNamed B.named, fun w hw => atoms_spec (ws := .code y_MM_isLiar b_MM_isLiar 2 (some .boolean) :: gtb) B.pre w (List.mem_cons_of_mem _ hw)⟩
  have hl := lv_entry ([.ref (Z.2.2.1 0), .int x1]) (n := 2) (Nat.le_of_ble_eq_true rfl)
  rw [lg_entry_eq]
  exact wk_MM_isLiar hI hZ M x1 S hX ⟨Nat.le_refl _, Nat.le_refl _⟩ (fun pc H locs ls hH d => q_rz S.1 S.2.1 B.returns B.notSynchronized hH rfl rfl d) hf ⟨hP, va_S.rf⟩ hl
theorem cw_MM_205 {R : Room} {s : State} {args : Array Value} (ht : ∀ w ∈ gtb, w.before args s = true) (h1 : 1 + 1 ≤ R.frames) (h2 : 8 + (2 + 11) + 21 ≤ R.locals) : CallW R s args R_MM R_MM 205 y_MM_isLiar b_MM_isLiar 2 (some .boolean) (.code y_MM_isLiar b_MM_isLiar 2 (some .boolean) :: gtb) { frames := 1, cells := 0, slots := 0, locals := 21 } 0 0 1 := cwV 1 ht (gV w5_180 w5_182 ws_MM_isLiar w1_10 w5_183) rfl rfl rfl ⟨rfl, by decide, by decide, by decide +kernel⟩ ⟨h1, h2⟩
noncomputable def f_MM_lies (M : Mem) (x1 : Int32) : Option (Int32 × Mem) := 
    if (bI (f_MM_isParty M x1)) = 0 then some ((-1 : Int32), M) else 
    bnd (f_MM_keepsPast M) (fun M2 => 
    lt1 (upM M2 1 6 ((M2 1 6) ^^^ ((1 : Int32) <<< (x1 &&& 31)))) (fun M3 => some (f_MM_truth (bI (f_MM_isLiar M3 x1)), M3)))
set_option maxHeartbeats 4000000 in
theorem wk_MM_lies {l : Launch} {Z : WD} (hI : wI Z) (hZ : IsM Z) (M : Mem) (x1 : Int32) {r : Int32} {M' : Mem} {p : Program} {e : Env} {R : Room} {s : State} {m : MethodId} {args : Array Value} {below : List Frame} {meth : Method} {c : Code} {H : Heap} {locs : List Loc} {ls : Array Slot} {Q : State → Prop} (S : CallFix p m c b_MM_lies 2 s args gtb R_MM) (hX : wX Z s) (hR : 2 ≤ R.frames ∧ 46 ≤ R.locals) (hQ : ∀ (pc : Nat) (H : Heap) (locs : List Loc) (ls : Array Slot), HW Z M' s H locs → decode b_MM_lies pc = .ok (.ireturn, 1) → W p l e R s m args below meth c H locs 0 0 Q (F0 m pc ls [.int r])) (hf0 : f_MM_lies M x1 = some (r, M')) (hH : HW Z M s H locs) (hl : lv_has ls 2 [(0, .ref (Z.2.2.1 0)), (1, .int x1)]) : W p l e R s m args below meth c H locs 0 0 Q (F0 m 0 ls []) := by
  have hx := S.1
  have hb := S.2.1
  have hown := S.2.2.2.1
  have ht := S.2.2.2.2
  unfold f_MM_lies at hf0
  refine lv_aload_n hx hb d_MM_lies_0 rfl (lv_at hl 0 rfl) ?_
  refine lv_iload_n hx hb d_MM_lies_1 rfl (lv_at hl 1 rfl) ?_
  refine q_cVi (As := [.int x1]) (rest := []) S hX hH (c_MM_isParty l hI hZ M x1 rfl) (cw_MM_197 S.2.2.2.2 (Nat.le_trans (Nat.le_of_ble_eq_true rfl) hR.1) (Nat.le_trans (Nat.le_of_ble_eq_true rfl) hR.2)) (rc_MM hX hH hZ) rfl hl.1 rfl (Nat.le_of_ble_eq_true rfl) d_MM_lies_2 ⟨Nat.zero_le _, Nat.zero_le _⟩ (fun H locs hH => ?_)
  refine lv_if_ne (tgt := 10) hx hb d_MM_lies_5 (by decide) (fun hc => ?_) (fun hc => ?_)
  · replace hf0 := o_f hc hf0
    refine lv_aload_n hx hb d_MM_lies_10 rfl (lv_at hl 0 rfl) ?_
    obtain ⟨M2, hc1, hf0⟩ := o_b hf0
    refine q_cVv (As := []) (rest := []) S hX hH (c_MM_keepsPast l hI hZ M hc1) (cw_MM_217 S.2.2.2.2 (Nat.le_trans (Nat.le_of_ble_eq_true rfl) hR.1) (Nat.le_trans (Nat.le_of_ble_eq_true rfl) hR.2)) (rc_MM hX hH hZ) rfl hl.1 rfl (Nat.le_of_ble_eq_true rfl) d_MM_lies_11 ⟨Nat.zero_le _, Nat.zero_le _⟩ (fun H locs hH => ?_)
    refine lv_aload_n hx hb d_MM_lies_14 rfl (lv_at hl 0 rfl) ?_
    refine g_MM_9 S hX hH hZ d_MM_lies_15 ?_
    refine lv_bipush (v := (6 : Int32)) hx hb d_MM_lies_18 (by decide) ?_
    refine lv_dup2_11 hx hb d_MM_lies_20 rfl rfl ?_
    refine q_iald (j := 6) hx hb hX hH (aa_MM_1 hZ) (vp_c (by decide)) (by decide) d_MM_lies_21 ?_
    refine lv_iconst (v := (1 : Int32)) hx hb d_MM_lies_22 (by decide) ?_
    refine lv_iload_n hx hb d_MM_lies_23 rfl (lv_at hl 1 rfl) ?_
    refine lv_ishl hx hb d_MM_lies_24 ?_
    refine lv_ixor hx hb d_MM_lies_25 ?_
    obtain ⟨M3, hM3, hf0⟩ := o_l hf0
    refine q_iast (j := 6) hx hb hX hI hH (aa_MM_1 hZ) (vp_c (by decide)) (by decide) d_MM_lies_26 (fun H locs hH => ?_)
    rw [hM3] at hH
    refine lv_aload_n hx hb d_MM_lies_27 rfl (lv_at hl 0 rfl) ?_
    refine lv_iload_n hx hb d_MM_lies_28 rfl (lv_at hl 1 rfl) ?_
    refine q_cVi (As := [.int x1]) (rest := []) S hX hH (c_MM_isLiar l hI hZ M3 x1 rfl) (cw_MM_205 S.2.2.2.2 (Nat.le_trans (Nat.le_of_ble_eq_true rfl) hR.1) (Nat.le_trans (Nat.le_of_ble_eq_true rfl) hR.2)) (rc_MM hX hH hZ) rfl hl.1 rfl (Nat.le_of_ble_eq_true rfl) d_MM_lies_29 ⟨Nat.zero_le _, Nat.zero_le _⟩ (fun H locs hH => ?_)
    refine q_cSi (As := [.int (bI (f_MM_isLiar M3 x1))]) (rest := []) S hX hH (c_MM_truth l hI M3 (bI (f_MM_isLiar M3 x1)) rfl) (cw_MM_150 S.2.2.2.2 (Nat.le_trans (Nat.le_of_ble_eq_true rfl) hR.1) (Nat.le_trans (Nat.le_of_ble_eq_true rfl) hR.2)) rfl hl.1 rfl (Nat.le_of_ble_eq_true rfl) d_MM_lies_32 ⟨Nat.zero_le _, Nat.zero_le _⟩ (fun H locs hH => ?_)
    obtain ⟨rfl, rfl⟩ := o_p hf0
    exact hQ _ _ _ _ hH d_MM_lies_35
  · replace hf0 := o_t hc hf0
    refine lv_iconst (v := (-1 : Int32)) hx hb d_MM_lies_8 (by decide) ?_
    obtain ⟨rfl, rfl⟩ := o_p hf0
    exact hQ _ _ _ _ hH d_MM_lies_9
theorem c_MM_lies (l : Launch) {Z : WD} (hI : wI Z) (hZ : IsM Z) (M : Mem) (x1 : Int32) {r : Int32} {M' : Mem} (hf : f_MM_lies M x1 = some (r, M')) : Ci l Z y_MM_lies b_MM_lies 2 (some .int) 2 46 [.ref (Z.2.2.1 0), .int x1] M M' r := by
  refine Met.ofW (cc := b_MM_lies) (maxL := 2) (ret := (some .int)) (by decide) rfl ?_
  intro p e s m args below meth c s₁ B hml hv
  obtain ⟨rfl, hP, hX⟩ := hv
  have S : CallFix p m c b_MM_lies 2 s ([.ref (Z.2.2.1 0), .int x1] : List Value).toArray gtb R_MM := ⟨B.exec, B.bytes, hml, findClass_of_methodNamed B.named, fun w hw => atoms_spec (ws := .code y_MM_lies b_MM_lies 2 (some .int) :: gtb) B.pre w (List.mem_cons_of_mem _ hw)⟩
  have hl := lv_entry ([.ref (Z.2.2.1 0), .int x1]) (n := 2) (Nat.le_of_ble_eq_true rfl)
  rw [lg_entry_eq]
  exact wk_MM_lies hI hZ M x1 S hX ⟨Nat.le_refl _, Nat.le_refl _⟩ (fun pc H locs ls hH d => q_ri S.1 S.2.1 B.returns B.notSynchronized hH rfl rfl d) hf ⟨hP, va_S.rf⟩ hl
noncomputable def f_MM_laysTold_L62 (x2 : Int32) (x4 : Int32) (x5 : Int32) (x6 : Int32) (M : Mem) : Option ((Int32 × Int32 × Int32 × Mem) ⊕ (Int32 × Mem)) := if x6 < 0 then some (.inr (x2, M)) else 
    if (bI (f_MM_isParty M ((x4 - x4 / (10 : Int32) * (10 : Int32)) - (1 : Int32)))) = 0 then some (.inr ((-1 : Int32), M)) else 
    if (bI (f_MM_has x5 ((x4 - x4 / (10 : Int32) * (10 : Int32)) - (1 : Int32)))) = 0 then 
    lt1 (x5 ||| ((1 : Int32) <<< (((x4 - x4 / (10 : Int32) * (10 : Int32)) - (1 : Int32)) &&& 31))) (fun y1 => gIn x6 8 (lt1 (upM M 8 x6.toNatClampNeg ((x4 - x4 / (10 : Int32) * (10 : Int32)) - (1 : Int32))) (fun M3 => some (.inl (x4 / (10 : Int32), y1, x6 + (-1 : Int32), M3))))) else some (.inr ((-1 : Int32), M))
noncomputable def f_MM_laysTold_W62 (x2 : Int32) (u : (Int32 × Int32 × Int32 × Mem)) : Option (Int32 × Mem) := loop (fun t => f_MM_laysTold_L62 x2 t.1 t.2.1 t.2.2.1 t.2.2.2) u
noncomputable def f_MM_laysTold_J62 (M : Mem) (x2 : Int32) (x4 : Int32) (x5 : Int32) (x6 : Int32) : Option (Int32 × Mem) := bnd (f_MM_laysTold_W62 x2 (x4, x5, x6, M)) (fun e62 => some e62)
noncomputable def f_MM_laysTold_J37 (M : Mem) (x1 : Int32) (x2 : Int32) : Option (Int32 × Mem) := if (bI (f_MM_in x2.toInt64 (1 : Int64) (8 : Int64))) = 0 then some ((-1 : Int32), M) else f_MM_laysTold_J62 M x2 x1 (0 : Int32) (x2 - (1 : Int32))
noncomputable def f_MM_laysTold_L4 (M : Mem) (x1 : Int32) (x2 : Int32) (x3 : Int32) : Option ((Int32 × Int32) ⊕ Int32) := if (9 : Int32) ≤ x2 then some (.inr x2) else 
    if x3 = 0 then none else if (x1 / x3) ≤ 0 then some (.inr x2) else 
    if (9 : Int32) ≤ (x2 + (1 : Int32)) then some (.inl (x2 + (1 : Int32), x3)) else some (.inl (x2 + (1 : Int32), x3 * (10 : Int32)))
noncomputable def f_MM_laysTold_W4 (M : Mem) (x1 : Int32) (u : (Int32 × Int32)) : Option Int32 := loop (fun t => f_MM_laysTold_L4 M x1 t.1 t.2) u
noncomputable def f_MM_laysTold_J4 (M : Mem) (x1 : Int32) (x2 : Int32) (x3 : Int32) : Option (Int32 × Mem) := bnd (f_MM_laysTold_W4 M x1 (x2, x3)) (fun e4 => f_MM_laysTold_J37 M x1 e4)
noncomputable def f_MM_laysTold (M : Mem) (x1 : Int32) : Option (Int32 × Mem) := f_MM_laysTold_J4 M x1 (0 : Int32) (1 : Int32)
set_option maxHeartbeats 4000000 in
theorem wk_MM_laysTold {l : Launch} {Z : WD} (hI : wI Z) (hZ : IsM Z) (M : Mem) (x1 : Int32) {r : Int32} {M' : Mem} {p : Program} {e : Env} {R : Room} {s : State} {m : MethodId} {args : Array Value} {below : List Frame} {meth : Method} {c : Code} {H : Heap} {locs : List Loc} {ls : Array Slot} {Q : State → Prop} (S : CallFix p m c b_MM_laysTold 8 s args gtb R_MM) (hX : wX Z s) (hR : 2 ≤ R.frames ∧ 46 ≤ R.locals) (hQ : ∀ (pc : Nat) (H : Heap) (locs : List Loc) (ls : Array Slot), HW Z M' s H locs → decode b_MM_laysTold pc = .ok (.ireturn, 1) → W p l e R s m args below meth c H locs 0 0 Q (F0 m pc ls [.int r])) (hf0 : f_MM_laysTold M x1 = some (r, M')) (hH : HW Z M s H locs) (hl : lv_has ls 8 [(0, .ref (Z.2.2.1 0)), (1, .int x1)]) : W p l e R s m args below meth c H locs 0 0 Q (F0 m 0 ls []) := by
  have hx := S.1
  have hb := S.2.1
  have hown := S.2.2.2.1
  have ht := S.2.2.2.2
  unfold f_MM_laysTold at hf0
  have J62 : ∀ (M : Mem) (x2 : Int32) (x4 : Int32) (x5 : Int32) (x6 : Int32) (H : Heap) (locs : List Loc) (ls : Array Slot), f_MM_laysTold_J62 M x2 x4 x5 x6 = some (r, M') → HW Z M s H locs → lv_has ls 8 [(0, .ref (Z.2.2.1 0)), (2, .int x2), (4, .int x4), (5, .int x5), (6, .int x6)] → W p l e R s m args below meth c H locs 0 0 Q (F0 m 62 ls []) := by
    intro M x2 x4 x5 x6 H locs ls hf0 hH hl
    unfold f_MM_laysTold_J62 at hf0
    obtain ⟨e62, he62, hf0⟩ := o_b hf0
    unfold f_MM_laysTold_W62 at he62
    refine loop_W (fun t => ∀ (H : Heap) (locs : List Loc) (ls : Array Slot), HW Z t.2.2.2 s H locs → lv_has ls 8 [(0, .ref (Z.2.2.1 0)), (2, .int x2), (4, .int t.1), (5, .int t.2.1), (6, .int t.2.2.1)] → W p l e R s m args below meth c H locs 0 0 Q (F0 m 62 ls [])) ?_ he62 H locs ls hH hl
    rintro ⟨x4, x5, x6, M⟩ o1 hf1 hG1 hR1 H locs ls hH hl
    replace hH : HW Z M s H locs := hH
    replace hl : lv_has ls 8 [(0, .ref (Z.2.2.1 0)), (2, .int x2), (4, .int x4), (5, .int x5), (6, .int x6)] := hl
    replace hf1 : f_MM_laysTold_L62 x2 x4 x5 x6 M = some o1 := hf1
    unfold f_MM_laysTold_L62 at hf1
    refine lv_iload hx hb d_MM_laysTold_62 (lv_at hl 4 rfl) ?_
    refine lv_if_lt (tgt := 128) hx hb d_MM_laysTold_64 (by decide) (fun hc => ?_) (fun hc => ?_)
    · replace hf1 := o_t hc hf1
      refine lv_iload_n hx hb d_MM_laysTold_128 rfl (lv_at hl 1 rfl) ?_
      obtain rfl := hR1 _ (o_v hf1).symm
      obtain ⟨rfl, rfl⟩ := o_p hf0
      exact hQ _ _ _ _ hH d_MM_laysTold_129
    · replace hf1 := o_f hc hf1
      refine lv_iload hx hb d_MM_laysTold_67 (lv_at hl 2 rfl) ?_
      refine lv_bipush (v := (10 : Int32)) hx hb d_MM_laysTold_69 (by decide) ?_
      refine lv_irem hx hb d_MM_laysTold_71 (by decide) ?_
      refine lv_iconst (v := (1 : Int32)) hx hb d_MM_laysTold_72 (by decide) ?_
      refine lv_isub hx hb d_MM_laysTold_73 ?_
      refine lv_istore (lv' := [(7, .int ((x4 - x4 / (10 : Int32) * (10 : Int32)) - (1 : Int32))), (0, .ref (Z.2.2.1 0)), (2, .int x2), (4, .int x4), (5, .int x5), (6, .int x6)]) hx hb d_MM_laysTold_74 hl (by decide) rfl (fun ls hl => ?_)
      refine lv_aload_n hx hb d_MM_laysTold_76 rfl (lv_at hl 1 rfl) ?_
      refine lv_iload hx hb d_MM_laysTold_77 (lv_at hl 0 rfl) ?_
      refine q_cVi (As := [.int ((x4 - x4 / (10 : Int32) * (10 : Int32)) - (1 : Int32))]) (rest := []) S hX hH (c_MM_isParty l hI hZ M ((x4 - x4 / (10 : Int32) * (10 : Int32)) - (1 : Int32)) rfl) (cw_MM_197 S.2.2.2.2 (Nat.le_trans (Nat.le_of_ble_eq_true rfl) hR.1) (Nat.le_trans (Nat.le_of_ble_eq_true rfl) hR.2)) (rc_MM hX hH hZ) rfl hl.1 rfl (Nat.le_of_ble_eq_true rfl) d_MM_laysTold_79 ⟨Nat.zero_le _, Nat.zero_le _⟩ (fun H locs hH => ?_)
      refine lv_if_eq (tgt := 95) hx hb d_MM_laysTold_82 (by decide) (fun hc => ?_) (fun hc => ?_)
      · replace hf1 := o_t hc hf1
        refine lv_iconst (v := (-1 : Int32)) hx hb d_MM_laysTold_95 (by decide) ?_
        obtain rfl := hR1 _ (o_v hf1).symm
        obtain ⟨rfl, rfl⟩ := o_p hf0
        exact hQ _ _ _ _ hH d_MM_laysTold_96
      · replace hf1 := o_f hc hf1
        refine lv_iload hx hb d_MM_laysTold_85 (lv_at hl 4 rfl) ?_
        refine lv_iload hx hb d_MM_laysTold_87 (lv_at hl 0 rfl) ?_
        refine q_cSi (As := [.int x5, .int ((x4 - x4 / (10 : Int32) * (10 : Int32)) - (1 : Int32))]) (rest := []) S hX hH (c_MM_has l hI M x5 ((x4 - x4 / (10 : Int32) * (10 : Int32)) - (1 : Int32)) rfl) (cw_MM_201 S.2.2.2.2 (Nat.le_trans (Nat.le_of_ble_eq_true rfl) hR.1) (Nat.le_trans (Nat.le_of_ble_eq_true rfl) hR.2)) rfl hl.1 rfl (Nat.le_of_ble_eq_true rfl) d_MM_laysTold_89 ⟨Nat.zero_le _, Nat.zero_le _⟩ (fun H locs hH => ?_)
        refine lv_if_eq (tgt := 97) hx hb d_MM_laysTold_92 (by decide) (fun hc => ?_) (fun hc => ?_)
        · replace hf1 := o_t hc hf1
          refine lv_iload hx hb d_MM_laysTold_97 (lv_at hl 4 rfl) ?_
          refine lv_iconst (v := (1 : Int32)) hx hb d_MM_laysTold_99 (by decide) ?_
          refine lv_iload hx hb d_MM_laysTold_100 (lv_at hl 0 rfl) ?_
          refine lv_ishl hx hb d_MM_laysTold_102 ?_
          refine lv_ior hx hb d_MM_laysTold_103 ?_
          obtain ⟨y1, hy1, hf1⟩ := o_l hf1
          refine lv_nm hy1 ?_
          refine lv_istore (lv' := [(5, .int y1), (7, .int ((x4 - x4 / (10 : Int32) * (10 : Int32)) - (1 : Int32))), (0, .ref (Z.2.2.1 0)), (2, .int x2), (4, .int x4), (6, .int x6)]) hx hb d_MM_laysTold_104 hl (by decide) rfl (fun ls hl => ?_)
          refine lv_aload_n hx hb d_MM_laysTold_106 rfl (lv_at hl 2 rfl) ?_
          refine g_MM_33 S hX hH hZ d_MM_laysTold_107 ?_
          refine lv_iload hx hb d_MM_laysTold_110 (lv_at hl 5 rfl) ?_
          refine lv_iload hx hb d_MM_laysTold_112 (lv_at hl 1 rfl) ?_
          obtain ⟨hn2, hf1⟩ := o_in hf1
          obtain ⟨M3, hM3, hf1⟩ := o_l hf1
          refine q_iast (j := x6.toNatClampNeg) hx hb hX hI hH (aa_MM_8 hZ) hn2 rfl d_MM_laysTold_114 (fun H locs hH => ?_)
          rw [hM3] at hH
          refine lv_iload hx hb d_MM_laysTold_115 (lv_at hl 4 rfl) ?_
          refine lv_bipush (v := (10 : Int32)) hx hb d_MM_laysTold_117 (by decide) ?_
          refine lv_idiv hx hb d_MM_laysTold_119 (by decide) ?_
          refine lv_istore (lv' := [(4, .int (x4 / (10 : Int32))), (5, .int y1), (7, .int ((x4 - x4 / (10 : Int32) * (10 : Int32)) - (1 : Int32))), (0, .ref (Z.2.2.1 0)), (2, .int x2), (6, .int x6)]) hx hb d_MM_laysTold_120 hl (by decide) rfl (fun ls hl => ?_)
          refine lv_iinc (v := x6 + (-1 : Int32)) (lv' := [(6, .int (x6 + (-1 : Int32))), (4, .int (x4 / (10 : Int32))), (5, .int y1), (7, .int ((x4 - x4 / (10 : Int32) * (10 : Int32)) - (1 : Int32))), (0, .ref (Z.2.2.1 0)), (2, .int x2)]) hx hb d_MM_laysTold_122 hl (k := 5) rfl rfl (by decide) rfl (fun ls hl => ?_)
          refine lv_goto (tgt := 62) hx hb d_MM_laysTold_125 (by decide) ?_
          exact hG1 _ (o_v hf1).symm _ _ _ hH (lv_sub hl [4, 5, 1, 2, 0] rfl)
        · replace hf1 := o_f hc hf1
          refine lv_iconst (v := (-1 : Int32)) hx hb d_MM_laysTold_95 (by decide) ?_
          obtain rfl := hR1 _ (o_v hf1).symm
          obtain ⟨rfl, rfl⟩ := o_p hf0
          exact hQ _ _ _ _ hH d_MM_laysTold_96
  have J37 : ∀ (M : Mem) (x1 : Int32) (x2 : Int32) (H : Heap) (locs : List Loc) (ls : Array Slot), f_MM_laysTold_J37 M x1 x2 = some (r, M') → HW Z M s H locs → lv_has ls 8 [(0, .ref (Z.2.2.1 0)), (1, .int x1), (2, .int x2)] → W p l e R s m args below meth c H locs 0 0 Q (F0 m 37 ls []) := by
    intro M x1 x2 H locs ls hf0 hH hl
    unfold f_MM_laysTold_J37 at hf0
    refine lv_iload_n hx hb d_MM_laysTold_37 rfl (lv_at hl 2 rfl) ?_
    refine lv_i2l hx hb d_MM_laysTold_38 rfl ?_
    refine lv_lconst (v := (1 : Int64)) hx hb d_MM_laysTold_39 (by decide) ?_
    refine lv_ldc2 (v := (8 : Int64)) hx hb hown (ht _ w5_170) d_MM_laysTold_40 ?_
    refine q_cSi (As := [.long x2.toInt64, .long (1 : Int64), .long (8 : Int64)]) (rest := []) S hX hH (c_MM_in l hI M x2.toInt64 (1 : Int64) (8 : Int64) rfl) (cw_MM_108 S.2.2.2.2 (Nat.le_trans (Nat.le_of_ble_eq_true rfl) hR.1) (Nat.le_trans (Nat.le_of_ble_eq_true rfl) hR.2)) rfl hl.1 rfl (Nat.le_of_ble_eq_true rfl) d_MM_laysTold_43 ⟨Nat.zero_le _, Nat.zero_le _⟩ (fun H locs hH => ?_)
    refine lv_if_ne (tgt := 51) hx hb d_MM_laysTold_46 (by decide) (fun hc => ?_) (fun hc => ?_)
    · replace hf0 := o_f hc hf0
      refine lv_iload_n hx hb d_MM_laysTold_51 rfl (lv_at hl 1 rfl) ?_
      refine lv_istore (lv' := [(4, .int x1), (0, .ref (Z.2.2.1 0)), (1, .int x1), (2, .int x2)]) hx hb d_MM_laysTold_52 hl (by decide) rfl (fun ls hl => ?_)
      refine lv_iconst (v := (0 : Int32)) hx hb d_MM_laysTold_54 (by decide) ?_
      refine lv_istore (lv' := [(5, .int (0 : Int32)), (4, .int x1), (0, .ref (Z.2.2.1 0)), (1, .int x1), (2, .int x2)]) hx hb d_MM_laysTold_55 hl (by decide) rfl (fun ls hl => ?_)
      refine lv_iload_n hx hb d_MM_laysTold_57 rfl (lv_at hl 4 rfl) ?_
      refine lv_iconst (v := (1 : Int32)) hx hb d_MM_laysTold_58 (by decide) ?_
      refine lv_isub hx hb d_MM_laysTold_59 ?_
      refine lv_istore (lv' := [(6, .int (x2 - (1 : Int32))), (5, .int (0 : Int32)), (4, .int x1), (0, .ref (Z.2.2.1 0)), (1, .int x1), (2, .int x2)]) hx hb d_MM_laysTold_60 hl (by decide) rfl (fun ls hl => ?_)
      exact J62 _ _ _ _ _ _ _ _ hf0 hH (lv_sub hl [3, 5, 2, 1, 0] rfl)
    · replace hf0 := o_t hc hf0
      refine lv_iconst (v := (-1 : Int32)) hx hb d_MM_laysTold_49 (by decide) ?_
      obtain ⟨rfl, rfl⟩ := o_p hf0
      exact hQ _ _ _ _ hH d_MM_laysTold_50
  have J4 : ∀ (M : Mem) (x1 : Int32) (x2 : Int32) (x3 : Int32) (H : Heap) (locs : List Loc) (ls : Array Slot), f_MM_laysTold_J4 M x1 x2 x3 = some (r, M') → HW Z M s H locs → lv_has ls 8 [(0, .ref (Z.2.2.1 0)), (1, .int x1), (2, .int x2), (3, .int x3)] → W p l e R s m args below meth c H locs 0 0 Q (F0 m 4 ls []) := by
    intro M x1 x2 x3 H locs ls hf0 hH hl
    unfold f_MM_laysTold_J4 at hf0
    obtain ⟨e4, he4, hf0⟩ := o_b hf0
    have KX4 : ∀ (H : Heap) (locs : List Loc) (ls : Array Slot), HW Z M s H locs → lv_has ls 8 [(0, .ref (Z.2.2.1 0)), (1, .int x1), (2, .int e4)] → W p l e R s m args below meth c H locs 0 0 Q (F0 m 37 ls []) := by
      intro H locs ls hH hl
      exact J37 _ _ _ _ _ _ hf0 hH (lv_sub hl [0, 1, 2] rfl)
    unfold f_MM_laysTold_W4 at he4
    refine loop_W (fun t => ∀ (H : Heap) (locs : List Loc) (ls : Array Slot), HW Z M s H locs → lv_has ls 8 [(0, .ref (Z.2.2.1 0)), (1, .int x1), (2, .int t.1), (3, .int t.2)] → W p l e R s m args below meth c H locs 0 0 Q (F0 m 4 ls [])) ?_ he4 H locs ls hH hl
    rintro ⟨x2, x3⟩ o1 hf1 hG1 hR1 H locs ls hH hl
    replace hH : HW Z M s H locs := hH
    replace hl : lv_has ls 8 [(0, .ref (Z.2.2.1 0)), (1, .int x1), (2, .int x2), (3, .int x3)] := hl
    replace hf1 : f_MM_laysTold_L4 M x1 x2 x3 = some o1 := hf1
    unfold f_MM_laysTold_L4 at hf1
    refine lv_iload_n hx hb d_MM_laysTold_4 rfl (lv_at hl 2 rfl) ?_
    refine lv_bipush (v := (9 : Int32)) hx hb d_MM_laysTold_5 (by decide) ?_
    refine lv_icmp_ge (tgt := 37) hx hb d_MM_laysTold_7 (by decide) (fun hc => ?_) (fun hc => ?_)
    · replace hf1 := o_t hc hf1
      obtain rfl := hR1 _ (o_v hf1).symm
      exact KX4 _ _ _ hH (lv_sub hl [0, 1, 2] rfl)
    · replace hf1 := o_f hc hf1
      refine lv_iload_n hx hb d_MM_laysTold_10 rfl (lv_at hl 1 rfl) ?_
      refine lv_iload_n hx hb d_MM_laysTold_11 rfl (lv_at hl 3 rfl) ?_
      obtain ⟨hz4, hf1⟩ := o_nz hf1
      refine lv_idiv hx hb d_MM_laysTold_12 hz4 ?_
      refine lv_if_le (tgt := 37) hx hb d_MM_laysTold_13 (by decide) (fun hc => ?_) (fun hc => ?_)
      · replace hf1 := o_t hc hf1
        obtain rfl := hR1 _ (o_v hf1).symm
        exact KX4 _ _ _ hH (lv_sub hl [0, 1, 2] rfl)
      · replace hf1 := o_f hc hf1
        refine lv_iinc (v := x2 + (1 : Int32)) (lv' := [(2, .int (x2 + (1 : Int32))), (0, .ref (Z.2.2.1 0)), (1, .int x1), (3, .int x3)]) hx hb d_MM_laysTold_16 hl (k := 2) rfl rfl (by decide) rfl (fun ls hl => ?_)
        refine lv_iload_n hx hb d_MM_laysTold_19 rfl (lv_at hl 0 rfl) ?_
        refine lv_bipush (v := (9 : Int32)) hx hb d_MM_laysTold_20 (by decide) ?_
        refine lv_icmp_ge (tgt := 32) hx hb d_MM_laysTold_22 (by decide) (fun hc => ?_) (fun hc => ?_)
        · replace hf1 := o_t hc hf1
          refine lv_iload_n hx hb d_MM_laysTold_32 rfl (lv_at hl 3 rfl) ?_
          refine lv_istore_n (lv' := [(3, .int x3), (2, .int (x2 + (1 : Int32))), (0, .ref (Z.2.2.1 0)), (1, .int x1)]) hx hb d_MM_laysTold_33 rfl hl (by decide) rfl (fun ls hl => ?_)
          refine lv_goto (tgt := 4) hx hb d_MM_laysTold_34 (by decide) ?_
          exact hG1 _ (o_v hf1).symm _ _ _ hH (lv_sub hl [2, 3, 1, 0] rfl)
        · replace hf1 := o_f hc hf1
          refine lv_iload_n hx hb d_MM_laysTold_25 rfl (lv_at hl 3 rfl) ?_
          refine lv_bipush (v := (10 : Int32)) hx hb d_MM_laysTold_26 (by decide) ?_
          refine lv_imul hx hb d_MM_laysTold_28 ?_
          refine lv_goto (tgt := 33) hx hb d_MM_laysTold_29 (by decide) ?_
          refine lv_istore_n (lv' := [(3, .int (x3 * (10 : Int32))), (2, .int (x2 + (1 : Int32))), (0, .ref (Z.2.2.1 0)), (1, .int x1)]) hx hb d_MM_laysTold_33 rfl hl (by decide) rfl (fun ls hl => ?_)
          refine lv_goto (tgt := 4) hx hb d_MM_laysTold_34 (by decide) ?_
          exact hG1 _ (o_v hf1).symm _ _ _ hH (lv_sub hl [2, 3, 1, 0] rfl)
  refine lv_iconst (v := (0 : Int32)) hx hb d_MM_laysTold_0 (by decide) ?_
  refine lv_istore_n (lv' := [(2, .int (0 : Int32)), (0, .ref (Z.2.2.1 0)), (1, .int x1)]) hx hb d_MM_laysTold_1 rfl hl (by decide) rfl (fun ls hl => ?_)
  refine lv_iconst (v := (1 : Int32)) hx hb d_MM_laysTold_2 (by decide) ?_
  refine lv_istore_n (lv' := [(3, .int (1 : Int32)), (2, .int (0 : Int32)), (0, .ref (Z.2.2.1 0)), (1, .int x1)]) hx hb d_MM_laysTold_3 rfl hl (by decide) rfl (fun ls hl => ?_)
  exact J4 _ _ _ _ _ _ _ hf0 hH (lv_sub hl [2, 3, 1, 0] rfl)
theorem c_MM_laysTold (l : Launch) {Z : WD} (hI : wI Z) (hZ : IsM Z) (M : Mem) (x1 : Int32) {r : Int32} {M' : Mem} (hf : f_MM_laysTold M x1 = some (r, M')) : Ci l Z y_MM_laysTold b_MM_laysTold 8 (some .int) 2 46 [.ref (Z.2.2.1 0), .int x1] M M' r := by
  refine Met.ofW (cc := b_MM_laysTold) (maxL := 8) (ret := (some .int)) (by decide) rfl ?_
  intro p e s m args below meth c s₁ B hml hv
  obtain ⟨rfl, hP, hX⟩ := hv
  have S : CallFix p m c b_MM_laysTold 8 s ([.ref (Z.2.2.1 0), .int x1] : List Value).toArray gtb R_MM := ⟨B.exec, B.bytes, hml, findClass_of_methodNamed B.named, fun w hw => atoms_spec (ws := .code y_MM_laysTold b_MM_laysTold 8 (some .int) :: gtb) B.pre w (List.mem_cons_of_mem _ hw)⟩
  have hl := lv_entry ([.ref (Z.2.2.1 0), .int x1]) (n := 8) (Nat.le_of_ble_eq_true rfl)
  rw [lg_entry_eq]
  exact wk_MM_laysTold hI hZ M x1 S hX ⟨Nat.le_refl _, Nat.le_refl _⟩ (fun pc H locs ls hH d => q_ri S.1 S.2.1 B.returns B.notSynchronized hH rfl rfl d) hf ⟨hP, va_S.rf⟩ hl
noncomputable def f_MM_areUnlike_J25 (M : Mem) : Bool := false
noncomputable def f_MM_areUnlike (M : Mem) (x1 : Int32) (x2 : Int32) : Bool := 
    if (bI (f_MM_isParty M x1)) = 0 then f_MM_areUnlike_J25 M else 
    if (bI (f_MM_isParty M x2)) = 0 then f_MM_areUnlike_J25 M else if x1 = x2 then f_MM_areUnlike_J25 M else true
set_option maxHeartbeats 4000000 in
theorem wk_MM_areUnlike {l : Launch} {Z : WD} (hI : wI Z) (hZ : IsM Z) (M : Mem) (x1 : Int32) (x2 : Int32) {r : Bool} {p : Program} {e : Env} {R : Room} {s : State} {m : MethodId} {args : Array Value} {below : List Frame} {meth : Method} {c : Code} {H : Heap} {locs : List Loc} {ls : Array Slot} {Q : State → Prop} (S : CallFix p m c b_MM_areUnlike 3 s args gtb R_MM) (hX : wX Z s) (hR : 2 ≤ R.frames ∧ 46 ≤ R.locals) (hQ : ∀ (pc : Nat) (H : Heap) (locs : List Loc) (ls : Array Slot), HW Z M s H locs → decode b_MM_areUnlike pc = .ok (.ireturn, 1) → W p l e R s m args below meth c H locs 0 0 Q (F0 m pc ls [.int (bI r)])) (hf0 : f_MM_areUnlike M x1 x2 = r) (hH : HW Z M s H locs) (hl : lv_has ls 3 [(0, .ref (Z.2.2.1 0)), (1, .int x1), (2, .int x2)]) : W p l e R s m args below meth c H locs 0 0 Q (F0 m 0 ls []) := by
  have hx := S.1
  have hb := S.2.1
  have hown := S.2.2.2.1
  have ht := S.2.2.2.2
  unfold f_MM_areUnlike at hf0
  have J25 : ∀ (H : Heap) (locs : List Loc) (ls : Array Slot), f_MM_areUnlike_J25 M = r → HW Z M s H locs → lv_has ls 3 [] → W p l e R s m args below meth c H locs 0 0 Q (F0 m 25 ls []) := by
    intro H locs ls hf0 hH hl
    unfold f_MM_areUnlike_J25 at hf0
    refine lv_iconst (v := (0 : Int32)) hx hb d_MM_areUnlike_25 (by decide) ?_
    subst hf0
    exact hQ _ _ _ _ hH d_MM_areUnlike_26
  refine lv_aload_n hx hb d_MM_areUnlike_0 rfl (lv_at hl 0 rfl) ?_
  refine lv_iload_n hx hb d_MM_areUnlike_1 rfl (lv_at hl 1 rfl) ?_
  refine q_cVi (As := [.int x1]) (rest := []) S hX hH (c_MM_isParty l hI hZ M x1 rfl) (cw_MM_197 S.2.2.2.2 (Nat.le_trans (Nat.le_of_ble_eq_true rfl) hR.1) (Nat.le_trans (Nat.le_of_ble_eq_true rfl) hR.2)) (rc_MM hX hH hZ) rfl hl.1 rfl (Nat.le_of_ble_eq_true rfl) d_MM_areUnlike_2 ⟨Nat.zero_le _, Nat.zero_le _⟩ (fun H locs hH => ?_)
  refine lv_if_eq (tgt := 25) hx hb d_MM_areUnlike_5 (by decide) (fun hc => ?_) (fun hc => ?_)
  · replace hf0 := o_t hc hf0
    exact J25 _ _ _ hf0 hH (lv_sub hl [] rfl)
  · replace hf0 := o_f hc hf0
    refine lv_aload_n hx hb d_MM_areUnlike_8 rfl (lv_at hl 0 rfl) ?_
    refine lv_iload_n hx hb d_MM_areUnlike_9 rfl (lv_at hl 2 rfl) ?_
    refine q_cVi (As := [.int x2]) (rest := []) S hX hH (c_MM_isParty l hI hZ M x2 rfl) (cw_MM_197 S.2.2.2.2 (Nat.le_trans (Nat.le_of_ble_eq_true rfl) hR.1) (Nat.le_trans (Nat.le_of_ble_eq_true rfl) hR.2)) (rc_MM hX hH hZ) rfl hl.1 rfl (Nat.le_of_ble_eq_true rfl) d_MM_areUnlike_10 ⟨Nat.zero_le _, Nat.zero_le _⟩ (fun H locs hH => ?_)
    refine lv_if_eq (tgt := 25) hx hb d_MM_areUnlike_13 (by decide) (fun hc => ?_) (fun hc => ?_)
    · replace hf0 := o_t hc hf0
      exact J25 _ _ _ hf0 hH (lv_sub hl [] rfl)
    · replace hf0 := o_f hc hf0
      refine lv_iload_n hx hb d_MM_areUnlike_16 rfl (lv_at hl 1 rfl) ?_
      refine lv_iload_n hx hb d_MM_areUnlike_17 rfl (lv_at hl 2 rfl) ?_
      refine lv_icmp_eq (tgt := 25) hx hb d_MM_areUnlike_18 (by decide) (fun hc => ?_) (fun hc => ?_)
      · replace hf0 := o_t hc hf0
        exact J25 _ _ _ hf0 hH (lv_sub hl [] rfl)
      · replace hf0 := o_f hc hf0
        refine lv_iconst (v := (1 : Int32)) hx hb d_MM_areUnlike_21 (by decide) ?_
        refine lv_goto (tgt := 26) hx hb d_MM_areUnlike_22 (by decide) ?_
        subst hf0
        exact hQ _ _ _ _ hH d_MM_areUnlike_26
theorem c_MM_areUnlike (l : Launch) {Z : WD} (hI : wI Z) (hZ : IsM Z) (M : Mem) (x1 : Int32) (x2 : Int32) {r : Bool} (hf : f_MM_areUnlike M x1 x2 = r) : Ci l Z y_MM_areUnlike b_MM_areUnlike 3 (some .boolean) 2 46 [.ref (Z.2.2.1 0), .int x1, .int x2] M M (bI r) := by
  refine Met.ofW (cc := b_MM_areUnlike) (maxL := 3) (ret := (some .boolean)) (by decide) rfl ?_
  intro p e s m args below meth c s₁ B hml hv
  obtain ⟨rfl, hP, hX⟩ := hv
  have S : CallFix p m c b_MM_areUnlike 3 s ([.ref (Z.2.2.1 0), .int x1, .int x2] : List Value).toArray gtb R_MM := ⟨B.exec, B.bytes, hml, findClass_of_methodNamed B.named, fun w hw => atoms_spec (ws := .code y_MM_areUnlike b_MM_areUnlike 3 (some .boolean) :: gtb) B.pre w (List.mem_cons_of_mem _ hw)⟩
  have hl := lv_entry ([.ref (Z.2.2.1 0), .int x1, .int x2]) (n := 3) (Nat.le_of_ble_eq_true rfl)
  rw [lg_entry_eq]
  exact wk_MM_areUnlike hI hZ M x1 x2 S hX ⟨Nat.le_refl _, Nat.le_refl _⟩ (fun pc H locs ls hH d => q_rz S.1 S.2.1 B.returns B.notSynchronized hH rfl rfl d) hf ⟨hP, va_S.rf⟩ hl
noncomputable def f_MM_plans_J104 (M : Mem) (x5 : Int32) (x6 : Int32) (x7 : Int32) (s0 : Int32) (s1 : Int32) : Option ((Int32 × Mem) ⊕ Mem) := gIn s1 302 (lt1 (upM M 1 s1.toNatClampNeg s0) (fun M2 => some (.inl (x7 + (1 : Int32), M2))))
noncomputable def f_MM_plans_L68 (x5 : Int32) (x6 : Int32) (x7 : Int32) (M : Mem) : Option ((Int32 × Mem) ⊕ Mem) := if (8 : Int32) ≤ x7 then lt1 (upM M 1 7 ((M 1 7) + (1 : Int32))) (fun M3 => some (.inr M3)) else 
    if x5 ≤ x7 then f_MM_plans_J104 M x5 x6 x7 (0 : Int32) ((x6 + (5 : Int32)) + x7) else gIn x7 8 (f_MM_plans_J104 M x5 x6 x7 (M 8 x7.toNatClampNeg) ((x6 + (5 : Int32)) + x7))
noncomputable def f_MM_plans_W68 (x5 : Int32) (x6 : Int32) (u : (Int32 × Mem)) : Option Mem := loop (fun t => f_MM_plans_L68 x5 x6 t.1 t.2) u
noncomputable def f_MM_plans_J68 (M : Mem) (x5 : Int32) (x6 : Int32) (x7 : Int32) : Option (Mem) := bnd (f_MM_plans_W68 x5 x6 (x7, M)) (fun e68 => some e68)
noncomputable def f_MM_plans (M : Mem) (x1 : Int32) (x2 : Int32) (x3 : Int32) (x4 : Int32) (x5 : Int32) : Option Mem := 
    gIn ((10 : Int32) + ((13 : Int32) * (M 1 7))) 302 (lt1 (upM M 1 (((10 : Int32) + ((13 : Int32) * (M 1 7))).toNatClampNeg) x1) (fun M6 => 
    gIn (((10 : Int32) + ((13 : Int32) * (M 1 7))) + (1 : Int32)) 302 (lt1 (upM M6 1 ((((10 : Int32) + ((13 : Int32) * (M 1 7))) + (1 : Int32)).toNatClampNeg) x2) (fun M8 => 
    gIn (((10 : Int32) + ((13 : Int32) * (M 1 7))) + (2 : Int32)) 302 (lt1 (upM M8 1 ((((10 : Int32) + ((13 : Int32) * (M 1 7))) + (2 : Int32)).toNatClampNeg) x3) (fun M10 => 
    gIn (((10 : Int32) + ((13 : Int32) * (M 1 7))) + (3 : Int32)) 302 (lt1 (upM M10 1 ((((10 : Int32) + ((13 : Int32) * (M 1 7))) + (3 : Int32)).toNatClampNeg) x4) (fun M12 => 
    gIn (((10 : Int32) + ((13 : Int32) * (M 1 7))) + (4 : Int32)) 302 (lt1 (upM M12 1 ((((10 : Int32) + ((13 : Int32) * (M 1 7))) + (4 : Int32)).toNatClampNeg) x5) (fun M14 => f_MM_plans_J68 M14 x5 ((10 : Int32) + ((13 : Int32) * (M 1 7))) (0 : Int32)))))))))))
set_option maxHeartbeats 4000000 in
theorem wk_MM_plans {l : Launch} {Z : WD} (hI : wI Z) (hZ : IsM Z) (M : Mem) (x1 : Int32) (x2 : Int32) (x3 : Int32) (x4 : Int32) (x5 : Int32) {M' : Mem} {p : Program} {e : Env} {R : Room} {s : State} {m : MethodId} {args : Array Value} {below : List Frame} {meth : Method} {c : Code} {H : Heap} {locs : List Loc} {ls : Array Slot} {Q : State → Prop} (S : CallFix p m c b_MM_plans 8 s args gtb R_MM) (hX : wX Z s) (hR : 0 ≤ R.frames ∧ 0 ≤ R.locals) (hQ : ∀ (pc : Nat) (H : Heap) (locs : List Loc) (ls : Array Slot), HW Z M' s H locs → decode b_MM_plans pc = .ok (.return_, 1) → W p l e R s m args below meth c H locs 0 0 Q (F0 m pc ls [])) (hf0 : f_MM_plans M x1 x2 x3 x4 x5 = some M') (hH : HW Z M s H locs) (hl : lv_has ls 8 [(0, .ref (Z.2.2.1 0)), (1, .int x1), (2, .int x2), (3, .int x3), (4, .int x4), (5, .int x5)]) : W p l e R s m args below meth c H locs 0 0 Q (F0 m 0 ls []) := by
  have hx := S.1
  have hb := S.2.1
  have hown := S.2.2.2.1
  have ht := S.2.2.2.2
  unfold f_MM_plans at hf0
  have J68 : ∀ (M : Mem) (x5 : Int32) (x6 : Int32) (x7 : Int32) (H : Heap) (locs : List Loc) (ls : Array Slot), f_MM_plans_J68 M x5 x6 x7 = some M' → HW Z M s H locs → lv_has ls 8 [(0, .ref (Z.2.2.1 0)), (5, .int x5), (6, .int x6), (7, .int x7)] → W p l e R s m args below meth c H locs 0 0 Q (F0 m 68 ls []) := by
    intro M x5 x6 x7 H locs ls hf0 hH hl
    unfold f_MM_plans_J68 at hf0
    obtain ⟨e68, he68, hf0⟩ := o_b hf0
    unfold f_MM_plans_W68 at he68
    refine loop_W (fun t => ∀ (H : Heap) (locs : List Loc) (ls : Array Slot), HW Z t.2 s H locs → lv_has ls 8 [(0, .ref (Z.2.2.1 0)), (5, .int x5), (6, .int x6), (7, .int t.1)] → W p l e R s m args below meth c H locs 0 0 Q (F0 m 68 ls [])) ?_ he68 H locs ls hH hl
    rintro ⟨x7, M⟩ o1 hf1 hG1 hR1 H locs ls hH hl
    replace hH : HW Z M s H locs := hH
    replace hl : lv_has ls 8 [(0, .ref (Z.2.2.1 0)), (5, .int x5), (6, .int x6), (7, .int x7)] := hl
    replace hf1 : f_MM_plans_L68 x5 x6 x7 M = some o1 := hf1
    unfold f_MM_plans_L68 at hf1
    have J104 : ∀ (M : Mem) (x7 : Int32) (s0 : Int32) (s1 : Int32) (H : Heap) (locs : List Loc) (ls : Array Slot), f_MM_plans_J104 M x5 x6 x7 s0 s1 = some o1 → HW Z M s H locs → lv_has ls 8 [(0, .ref (Z.2.2.1 0)), (5, .int x5), (6, .int x6), (7, .int x7)] → W p l e R s m args below meth c H locs 0 0 Q (F0 m 104 ls [.int s0, .int s1, .ref (Z.2.2.1 1)]) := by
      intro M x7 s0 s1 H locs ls hf1 hH hl
      unfold f_MM_plans_J104 at hf1
      obtain ⟨hn1, hf1⟩ := o_in hf1
      obtain ⟨M2, hM2, hf1⟩ := o_l hf1
      refine q_iast (j := s1.toNatClampNeg) hx hb hX hI hH (aa_MM_1 hZ) hn1 rfl d_MM_plans_104 (fun H locs hH => ?_)
      rw [hM2] at hH
      refine lv_iinc (v := x7 + (1 : Int32)) (lv' := [(7, .int (x7 + (1 : Int32))), (0, .ref (Z.2.2.1 0)), (5, .int x5), (6, .int x6)]) hx hb d_MM_plans_105 hl (k := 3) rfl rfl (by decide) rfl (fun ls hl => ?_)
      refine lv_goto (tgt := 68) hx hb d_MM_plans_108 (by decide) ?_
      exact hG1 _ (o_v hf1).symm _ _ _ hH (lv_sub hl [1, 2, 3, 0] rfl)
    refine lv_iload hx hb d_MM_plans_68 (lv_at hl 3 rfl) ?_
    refine lv_bipush (v := (8 : Int32)) hx hb d_MM_plans_70 (by decide) ?_
    refine lv_icmp_ge (tgt := 111) hx hb d_MM_plans_72 (by decide) (fun hc => ?_) (fun hc => ?_)
    · replace hf1 := o_t hc hf1
      refine lv_aload_n hx hb d_MM_plans_111 rfl (lv_at hl 0 rfl) ?_
      refine g_MM_9 S hX hH hZ d_MM_plans_112 ?_
      refine lv_bipush (v := (7 : Int32)) hx hb d_MM_plans_115 (by decide) ?_
      refine lv_dup2_11 hx hb d_MM_plans_117 rfl rfl ?_
      refine q_iald (j := 7) hx hb hX hH (aa_MM_1 hZ) (vp_c (by decide)) (by decide) d_MM_plans_118 ?_
      refine lv_iconst (v := (1 : Int32)) hx hb d_MM_plans_119 (by decide) ?_
      refine lv_iadd hx hb d_MM_plans_120 ?_
      obtain ⟨M3, hM3, hf1⟩ := o_l hf1
      refine q_iast (j := 7) hx hb hX hI hH (aa_MM_1 hZ) (vp_c (by decide)) (by decide) d_MM_plans_121 (fun H locs hH => ?_)
      rw [hM3] at hH
      obtain rfl := hR1 _ (o_v hf1).symm
      obtain rfl := o_v hf0
      exact hQ _ _ _ _ hH d_MM_plans_122
    · replace hf1 := o_f hc hf1
      refine lv_aload_n hx hb d_MM_plans_75 rfl (lv_at hl 0 rfl) ?_
      refine g_MM_9 S hX hH hZ d_MM_plans_76 ?_
      refine lv_iload hx hb d_MM_plans_79 (lv_at hl 2 rfl) ?_
      refine lv_iconst (v := (5 : Int32)) hx hb d_MM_plans_81 (by decide) ?_
      refine lv_iadd hx hb d_MM_plans_82 ?_
      refine lv_iload hx hb d_MM_plans_83 (lv_at hl 3 rfl) ?_
      refine lv_iadd hx hb d_MM_plans_85 ?_
      refine lv_iload hx hb d_MM_plans_86 (lv_at hl 3 rfl) ?_
      refine lv_iload hx hb d_MM_plans_88 (lv_at hl 1 rfl) ?_
      refine lv_icmp_ge (tgt := 103) hx hb d_MM_plans_90 (by decide) (fun hc => ?_) (fun hc => ?_)
      · replace hf1 := o_t hc hf1
        refine lv_iconst (v := (0 : Int32)) hx hb d_MM_plans_103 (by decide) ?_
        exact J104 _ _ _ _ _ _ _ hf1 hH (lv_sub hl [0, 1, 2, 3] rfl)
      · replace hf1 := o_f hc hf1
        refine lv_aload_n hx hb d_MM_plans_93 rfl (lv_at hl 0 rfl) ?_
        refine g_MM_33 S hX hH hZ d_MM_plans_94 ?_
        refine lv_iload hx hb d_MM_plans_97 (lv_at hl 3 rfl) ?_
        obtain ⟨hn4, hf1⟩ := o_in hf1
        refine q_iald (j := x7.toNatClampNeg) hx hb hX hH (aa_MM_8 hZ) hn4 rfl d_MM_plans_99 ?_
        refine lv_goto (tgt := 104) hx hb d_MM_plans_100 (by decide) ?_
        exact J104 _ _ _ _ _ _ _ hf1 hH (lv_sub hl [0, 1, 2, 3] rfl)
  refine lv_bipush (v := (10 : Int32)) hx hb d_MM_plans_0 (by decide) ?_
  refine lv_bipush (v := (13 : Int32)) hx hb d_MM_plans_2 (by decide) ?_
  refine lv_aload_n hx hb d_MM_plans_4 rfl (lv_at hl 0 rfl) ?_
  refine g_MM_9 S hX hH hZ d_MM_plans_5 ?_
  refine lv_bipush (v := (7 : Int32)) hx hb d_MM_plans_8 (by decide) ?_
  refine q_iald (j := 7) hx hb hX hH (aa_MM_1 hZ) (vp_c (by decide)) (by decide) d_MM_plans_10 ?_
  refine lv_imul hx hb d_MM_plans_11 ?_
  refine lv_iadd hx hb d_MM_plans_12 ?_
  refine lv_istore (lv' := [(6, .int ((10 : Int32) + ((13 : Int32) * (M 1 7)))), (0, .ref (Z.2.2.1 0)), (1, .int x1), (2, .int x2), (3, .int x3), (4, .int x4), (5, .int x5)]) hx hb d_MM_plans_13 hl (by decide) rfl (fun ls hl => ?_)
  refine lv_aload_n hx hb d_MM_plans_15 rfl (lv_at hl 1 rfl) ?_
  refine g_MM_9 S hX hH hZ d_MM_plans_16 ?_
  refine lv_iload hx hb d_MM_plans_19 (lv_at hl 0 rfl) ?_
  refine lv_iload_n hx hb d_MM_plans_21 rfl (lv_at hl 2 rfl) ?_
  obtain ⟨hn5, hf0⟩ := o_in hf0
  obtain ⟨M6, hM6, hf0⟩ := o_l hf0
  refine q_iast (j := ((10 : Int32) + ((13 : Int32) * (M 1 7))).toNatClampNeg) hx hb hX hI hH (aa_MM_1 hZ) hn5 rfl d_MM_plans_22 (fun H locs hH => ?_)
  rw [hM6] at hH
  refine lv_aload_n hx hb d_MM_plans_23 rfl (lv_at hl 1 rfl) ?_
  refine g_MM_9 S hX hH hZ d_MM_plans_24 ?_
  refine lv_iload hx hb d_MM_plans_27 (lv_at hl 0 rfl) ?_
  refine lv_iconst (v := (1 : Int32)) hx hb d_MM_plans_29 (by decide) ?_
  refine lv_iadd hx hb d_MM_plans_30 ?_
  refine lv_iload_n hx hb d_MM_plans_31 rfl (lv_at hl 3 rfl) ?_
  obtain ⟨hn7, hf0⟩ := o_in hf0
  obtain ⟨M8, hM8, hf0⟩ := o_l hf0
  refine q_iast (j := (((10 : Int32) + ((13 : Int32) * (M 1 7))) + (1 : Int32)).toNatClampNeg) hx hb hX hI hH (aa_MM_1 hZ) hn7 rfl d_MM_plans_32 (fun H locs hH => ?_)
  rw [hM8] at hH
  refine lv_aload_n hx hb d_MM_plans_33 rfl (lv_at hl 1 rfl) ?_
  refine g_MM_9 S hX hH hZ d_MM_plans_34 ?_
  refine lv_iload hx hb d_MM_plans_37 (lv_at hl 0 rfl) ?_
  refine lv_iconst (v := (2 : Int32)) hx hb d_MM_plans_39 (by decide) ?_
  refine lv_iadd hx hb d_MM_plans_40 ?_
  refine lv_iload_n hx hb d_MM_plans_41 rfl (lv_at hl 4 rfl) ?_
  obtain ⟨hn9, hf0⟩ := o_in hf0
  obtain ⟨M10, hM10, hf0⟩ := o_l hf0
  refine q_iast (j := (((10 : Int32) + ((13 : Int32) * (M 1 7))) + (2 : Int32)).toNatClampNeg) hx hb hX hI hH (aa_MM_1 hZ) hn9 rfl d_MM_plans_42 (fun H locs hH => ?_)
  rw [hM10] at hH
  refine lv_aload_n hx hb d_MM_plans_43 rfl (lv_at hl 1 rfl) ?_
  refine g_MM_9 S hX hH hZ d_MM_plans_44 ?_
  refine lv_iload hx hb d_MM_plans_47 (lv_at hl 0 rfl) ?_
  refine lv_iconst (v := (3 : Int32)) hx hb d_MM_plans_49 (by decide) ?_
  refine lv_iadd hx hb d_MM_plans_50 ?_
  refine lv_iload hx hb d_MM_plans_51 (lv_at hl 5 rfl) ?_
  obtain ⟨hn11, hf0⟩ := o_in hf0
  obtain ⟨M12, hM12, hf0⟩ := o_l hf0
  refine q_iast (j := (((10 : Int32) + ((13 : Int32) * (M 1 7))) + (3 : Int32)).toNatClampNeg) hx hb hX hI hH (aa_MM_1 hZ) hn11 rfl d_MM_plans_53 (fun H locs hH => ?_)
  rw [hM12] at hH
  refine lv_aload_n hx hb d_MM_plans_54 rfl (lv_at hl 1 rfl) ?_
  refine g_MM_9 S hX hH hZ d_MM_plans_55 ?_
  refine lv_iload hx hb d_MM_plans_58 (lv_at hl 0 rfl) ?_
  refine lv_iconst (v := (4 : Int32)) hx hb d_MM_plans_60 (by decide) ?_
  refine lv_iadd hx hb d_MM_plans_61 ?_
  refine lv_iload hx hb d_MM_plans_62 (lv_at hl 6 rfl) ?_
  obtain ⟨hn13, hf0⟩ := o_in hf0
  obtain ⟨M14, hM14, hf0⟩ := o_l hf0
  refine q_iast (j := (((10 : Int32) + ((13 : Int32) * (M 1 7))) + (4 : Int32)).toNatClampNeg) hx hb hX hI hH (aa_MM_1 hZ) hn13 rfl d_MM_plans_64 (fun H locs hH => ?_)
  rw [hM14] at hH
  refine lv_iconst (v := (0 : Int32)) hx hb d_MM_plans_65 (by decide) ?_
  refine lv_istore (lv' := [(7, .int (0 : Int32)), (6, .int ((10 : Int32) + ((13 : Int32) * (M 1 7)))), (0, .ref (Z.2.2.1 0)), (1, .int x1), (2, .int x2), (3, .int x3), (4, .int x4), (5, .int x5)]) hx hb d_MM_plans_66 hl (by decide) rfl (fun ls hl => ?_)
  exact J68 _ _ _ _ _ _ _ hf0 hH (lv_sub hl [2, 7, 1, 0] rfl)
theorem c_MM_plans (l : Launch) {Z : WD} (hI : wI Z) (hZ : IsM Z) (M : Mem) (x1 : Int32) (x2 : Int32) (x3 : Int32) (x4 : Int32) (x5 : Int32) {M' : Mem} (hf : f_MM_plans M x1 x2 x3 x4 x5 = some M') : Cv l Z y_MM_plans b_MM_plans 8 none 0 0 [.ref (Z.2.2.1 0), .int x1, .int x2, .int x3, .int x4, .int x5] M M' := by
  refine Met.ofW (cc := b_MM_plans) (maxL := 8) (ret := none) (by decide) rfl ?_
  intro p e s m args below meth c s₁ B hml hv
  obtain ⟨rfl, hP, hX⟩ := hv
  have S : CallFix p m c b_MM_plans 8 s ([.ref (Z.2.2.1 0), .int x1, .int x2, .int x3, .int x4, .int x5] : List Value).toArray gtb R_MM := ⟨B.exec, B.bytes, hml, findClass_of_methodNamed B.named, fun w hw => atoms_spec (ws := .code y_MM_plans b_MM_plans 8 none :: gtb) B.pre w (List.mem_cons_of_mem _ hw)⟩
  have hl := lv_entry ([.ref (Z.2.2.1 0), .int x1, .int x2, .int x3, .int x4, .int x5]) (n := 8) (Nat.le_of_ble_eq_true rfl)
  rw [lg_entry_eq]
  exact wk_MM_plans hI hZ M x1 x2 x3 x4 x5 S hX ⟨Nat.le_refl _, Nat.le_refl _⟩ (fun pc H locs ls hH d => q_rv S.1 S.2.1 B.returns B.notSynchronized hH rfl d) hf ⟨hP, va_S.rf⟩ hl
theorem cw_MM_224 {R : Room} {s : State} {args : Array Value} (ht : ∀ w ∈ gtb, w.before args s = true) (h1 : 2 + 1 ≤ R.frames) (h2 : 8 + (3 + 11) + 46 ≤ R.locals) : CallW R s args R_MM R_MM 224 y_MM_areUnlike b_MM_areUnlike 3 (some .boolean) (.code y_MM_areUnlike b_MM_areUnlike 3 (some .boolean) :: gtb) { frames := 2, cells := 0, slots := 0, locals := 46 } 0 0 2 := cwV 2 ht (gV w5_195 w5_197 ws_MM_areUnlike w1_10 w5_198) rfl rfl rfl ⟨rfl, by decide, by decide, by decide +kernel⟩ ⟨h1, h2⟩
theorem cw_MM_227 {R : Room} {s : State} {args : Array Value} (ht : ∀ w ∈ gtb, w.before args s = true) (h1 : 0 + 1 ≤ R.frames) (h2 : 8 + (8 + 11) + 0 ≤ R.locals) : CallW R s args R_MM R_MM 227 y_MM_plans b_MM_plans 8 none (.code y_MM_plans b_MM_plans 8 none :: gtb) { frames := 0, cells := 0, slots := 0, locals := 0 } 0 0 5 := cwV 5 ht (gV w5_199 w5_201 ws_MM_plans w1_10 w5_202) rfl rfl rfl ⟨rfl, by decide, by decide, by decide +kernel⟩ ⟨h1, h2⟩
theorem cw_MM_220 {R : Room} {s : State} {args : Array Value} (ht : ∀ w ∈ gtb, w.before args s = true) (h1 : 2 + 1 ≤ R.frames) (h2 : 8 + (8 + 11) + 46 ≤ R.locals) : CallW R s args R_MM R_MM 220 y_MM_laysTold b_MM_laysTold 8 (some .int) (.code y_MM_laysTold b_MM_laysTold 8 (some .int) :: gtb) { frames := 2, cells := 0, slots := 0, locals := 46 } 0 0 1 := cwV 1 ht (gV w5_191 w5_193 ws_MM_laysTold w1_10 w5_194) rfl rfl rfl ⟨rfl, by decide, by decide, by decide +kernel⟩ ⟨h1, h2⟩
noncomputable def f_MM_plan_J16 (M : Mem) (x1 : Int32) (x2 : Int32) (x3 : Int32) (x4 : Int32) (s0 : Int32) : Option (Int32 × Mem) := if (bI (f_MM_in x1.toInt64 (1 : Int64) (8 : Int64))) = 0 then some ((-1 : Int32), M) else 
    if (bI (f_MM_areUnlike M x2 x3)) = 0 then some ((-1 : Int32), M) else 
    if (bI (f_MM_in x4.toInt64 (0 : Int64) (3 : Int64))) = 0 then some ((-1 : Int32), M) else 
    if s0 = (-1 : Int32) then some ((-1 : Int32), M) else 
    if (M 1 7) = (16 : Int32) then some ((-3 : Int32), M) else 
    bnd (f_MM_keepsPast M) (fun M2 => bnd (f_MM_plans M2 x1 x2 x3 x4 s0) (fun M4 => some ((M4 1 7) - (1 : Int32), M4)))
noncomputable def f_MM_plan (M : Mem) (x1 : Int32) (x2 : Int32) (x3 : Int32) (x4 : Int32) (x5 : Int32) : Option (Int32 × Mem) := 
    if (1 : Int32) ≤ x5 then bnd2 (f_MM_laysTold M x5) (fun y7 M6 => f_MM_plan_J16 M6 x1 x2 x3 x4 y7) else f_MM_plan_J16 M x1 x2 x3 x4 (-1 : Int32)
set_option maxHeartbeats 4000000 in
theorem wk_MM_plan {l : Launch} {Z : WD} (hI : wI Z) (hZ : IsM Z) (M : Mem) (x1 : Int32) (x2 : Int32) (x3 : Int32) (x4 : Int32) (x5 : Int32) {r : Int32} {M' : Mem} {p : Program} {e : Env} {R : Room} {s : State} {m : MethodId} {args : Array Value} {below : List Frame} {meth : Method} {c : Code} {H : Heap} {locs : List Loc} {ls : Array Slot} {Q : State → Prop} (S : CallFix p m c b_MM_plan 7 s args gtb R_MM) (hX : wX Z s) (hR : 3 ≤ R.frames ∧ 73 ≤ R.locals) (hQ : ∀ (pc : Nat) (H : Heap) (locs : List Loc) (ls : Array Slot), HW Z M' s H locs → decode b_MM_plan pc = .ok (.ireturn, 1) → W p l e R s m args below meth c H locs 0 0 Q (F0 m pc ls [.int r])) (hf0 : f_MM_plan M x1 x2 x3 x4 x5 = some (r, M')) (hH : HW Z M s H locs) (hl : lv_has ls 7 [(0, .ref (Z.2.2.1 0)), (1, .int x1), (2, .int x2), (3, .int x3), (4, .int x4), (5, .int x5)]) : W p l e R s m args below meth c H locs 0 0 Q (F0 m 0 ls []) := by
  have hx := S.1
  have hb := S.2.1
  have hown := S.2.2.2.1
  have ht := S.2.2.2.2
  unfold f_MM_plan at hf0
  have J16 : ∀ (M : Mem) (x1 : Int32) (x2 : Int32) (x3 : Int32) (x4 : Int32) (s0 : Int32) (H : Heap) (locs : List Loc) (ls : Array Slot), f_MM_plan_J16 M x1 x2 x3 x4 s0 = some (r, M') → HW Z M s H locs → lv_has ls 7 [(0, .ref (Z.2.2.1 0)), (1, .int x1), (2, .int x2), (3, .int x3), (4, .int x4)] → W p l e R s m args below meth c H locs 0 0 Q (F0 m 16 ls [.int s0]) := by
    intro M x1 x2 x3 x4 s0 H locs ls hf0 hH hl
    unfold f_MM_plan_J16 at hf0
    refine lv_istore (lv' := [(6, .int s0), (0, .ref (Z.2.2.1 0)), (1, .int x1), (2, .int x2), (3, .int x3), (4, .int x4)]) hx hb d_MM_plan_16 hl (by decide) rfl (fun ls hl => ?_)
    refine lv_iload_n hx hb d_MM_plan_18 rfl (lv_at hl 2 rfl) ?_
    refine lv_i2l hx hb d_MM_plan_19 rfl ?_
    refine lv_lconst (v := (1 : Int64)) hx hb d_MM_plan_20 (by decide) ?_
    refine lv_ldc2 (v := (8 : Int64)) hx hb hown (ht _ w5_170) d_MM_plan_21 ?_
    refine q_cSi (As := [.long x1.toInt64, .long (1 : Int64), .long (8 : Int64)]) (rest := []) S hX hH (c_MM_in l hI M x1.toInt64 (1 : Int64) (8 : Int64) rfl) (cw_MM_108 S.2.2.2.2 (Nat.le_trans (Nat.le_of_ble_eq_true rfl) hR.1) (Nat.le_trans (Nat.le_of_ble_eq_true rfl) hR.2)) rfl hl.1 rfl (Nat.le_of_ble_eq_true rfl) d_MM_plan_24 ⟨Nat.zero_le _, Nat.zero_le _⟩ (fun H locs hH => ?_)
    refine lv_if_eq (tgt := 58) hx hb d_MM_plan_27 (by decide) (fun hc => ?_) (fun hc => ?_)
    · replace hf0 := o_t hc hf0
      refine lv_iconst (v := (-1 : Int32)) hx hb d_MM_plan_58 (by decide) ?_
      obtain ⟨rfl, rfl⟩ := o_p hf0
      exact hQ _ _ _ _ hH d_MM_plan_59
    · replace hf0 := o_f hc hf0
      refine lv_aload_n hx hb d_MM_plan_30 rfl (lv_at hl 1 rfl) ?_
      refine lv_iload_n hx hb d_MM_plan_31 rfl (lv_at hl 3 rfl) ?_
      refine lv_iload_n hx hb d_MM_plan_32 rfl (lv_at hl 4 rfl) ?_
      refine q_cVi (As := [.int x2, .int x3]) (rest := []) S hX hH (c_MM_areUnlike l hI hZ M x2 x3 rfl) (cw_MM_224 S.2.2.2.2 (Nat.le_trans (Nat.le_of_ble_eq_true rfl) hR.1) (Nat.le_trans (Nat.le_of_ble_eq_true rfl) hR.2)) (rc_MM hX hH hZ) rfl hl.1 rfl (Nat.le_of_ble_eq_true rfl) d_MM_plan_33 ⟨Nat.zero_le _, Nat.zero_le _⟩ (fun H locs hH => ?_)
      refine lv_if_eq (tgt := 58) hx hb d_MM_plan_36 (by decide) (fun hc => ?_) (fun hc => ?_)
      · replace hf0 := o_t hc hf0
        refine lv_iconst (v := (-1 : Int32)) hx hb d_MM_plan_58 (by decide) ?_
        obtain ⟨rfl, rfl⟩ := o_p hf0
        exact hQ _ _ _ _ hH d_MM_plan_59
      · replace hf0 := o_f hc hf0
        refine lv_iload hx hb d_MM_plan_39 (lv_at hl 5 rfl) ?_
        refine lv_i2l hx hb d_MM_plan_41 rfl ?_
        refine lv_lconst (v := (0 : Int64)) hx hb d_MM_plan_42 (by decide) ?_
        refine lv_ldc2 (v := (3 : Int64)) hx hb hown (ht _ w5_171) d_MM_plan_43 ?_
        refine q_cSi (As := [.long x4.toInt64, .long (0 : Int64), .long (3 : Int64)]) (rest := []) S hX hH (c_MM_in l hI M x4.toInt64 (0 : Int64) (3 : Int64) rfl) (cw_MM_108 S.2.2.2.2 (Nat.le_trans (Nat.le_of_ble_eq_true rfl) hR.1) (Nat.le_trans (Nat.le_of_ble_eq_true rfl) hR.2)) rfl hl.1 rfl (Nat.le_of_ble_eq_true rfl) d_MM_plan_46 ⟨Nat.zero_le _, Nat.zero_le _⟩ (fun H locs hH => ?_)
        refine lv_if_eq (tgt := 58) hx hb d_MM_plan_49 (by decide) (fun hc => ?_) (fun hc => ?_)
        · replace hf0 := o_t hc hf0
          refine lv_iconst (v := (-1 : Int32)) hx hb d_MM_plan_58 (by decide) ?_
          obtain ⟨rfl, rfl⟩ := o_p hf0
          exact hQ _ _ _ _ hH d_MM_plan_59
        · replace hf0 := o_f hc hf0
          refine lv_iload hx hb d_MM_plan_52 (lv_at hl 0 rfl) ?_
          refine lv_iconst (v := (-1 : Int32)) hx hb d_MM_plan_54 (by decide) ?_
          refine lv_icmp_ne (tgt := 60) hx hb d_MM_plan_55 (by decide) (fun hc => ?_) (fun hc => ?_)
          · replace hf0 := o_f hc hf0
            refine lv_aload_n hx hb d_MM_plan_60 rfl (lv_at hl 1 rfl) ?_
            refine g_MM_9 S hX hH hZ d_MM_plan_61 ?_
            refine lv_bipush (v := (7 : Int32)) hx hb d_MM_plan_64 (by decide) ?_
            refine q_iald (j := 7) hx hb hX hH (aa_MM_1 hZ) (vp_c (by decide)) (by decide) d_MM_plan_66 ?_
            refine lv_bipush (v := (16 : Int32)) hx hb d_MM_plan_67 (by decide) ?_
            refine lv_icmp_ne (tgt := 75) hx hb d_MM_plan_69 (by decide) (fun hc => ?_) (fun hc => ?_)
            · replace hf0 := o_f hc hf0
              refine lv_aload_n hx hb d_MM_plan_75 rfl (lv_at hl 1 rfl) ?_
              obtain ⟨M2, hc1, hf0⟩ := o_b hf0
              refine q_cVv (As := []) (rest := []) S hX hH (c_MM_keepsPast l hI hZ M hc1) (cw_MM_217 S.2.2.2.2 (Nat.le_trans (Nat.le_of_ble_eq_true rfl) hR.1) (Nat.le_trans (Nat.le_of_ble_eq_true rfl) hR.2)) (rc_MM hX hH hZ) rfl hl.1 rfl (Nat.le_of_ble_eq_true rfl) d_MM_plan_76 ⟨Nat.zero_le _, Nat.zero_le _⟩ (fun H locs hH => ?_)
              refine lv_aload_n hx hb d_MM_plan_79 rfl (lv_at hl 1 rfl) ?_
              refine lv_iload_n hx hb d_MM_plan_80 rfl (lv_at hl 2 rfl) ?_
              refine lv_iload_n hx hb d_MM_plan_81 rfl (lv_at hl 3 rfl) ?_
              refine lv_iload_n hx hb d_MM_plan_82 rfl (lv_at hl 4 rfl) ?_
              refine lv_iload hx hb d_MM_plan_83 (lv_at hl 5 rfl) ?_
              refine lv_iload hx hb d_MM_plan_85 (lv_at hl 0 rfl) ?_
              obtain ⟨M4, hc3, hf0⟩ := o_b hf0
              refine q_cVv (As := [.int x1, .int x2, .int x3, .int x4, .int s0]) (rest := []) S hX hH (c_MM_plans l hI hZ M2 x1 x2 x3 x4 s0 hc3) (cw_MM_227 S.2.2.2.2 (Nat.le_trans (Nat.le_of_ble_eq_true rfl) hR.1) (Nat.le_trans (Nat.le_of_ble_eq_true rfl) hR.2)) (rc_MM hX hH hZ) rfl hl.1 rfl (Nat.le_of_ble_eq_true rfl) d_MM_plan_87 ⟨Nat.zero_le _, Nat.zero_le _⟩ (fun H locs hH => ?_)
              refine lv_aload_n hx hb d_MM_plan_90 rfl (lv_at hl 1 rfl) ?_
              refine g_MM_9 S hX hH hZ d_MM_plan_91 ?_
              refine lv_bipush (v := (7 : Int32)) hx hb d_MM_plan_94 (by decide) ?_
              refine q_iald (j := 7) hx hb hX hH (aa_MM_1 hZ) (vp_c (by decide)) (by decide) d_MM_plan_96 ?_
              refine lv_iconst (v := (1 : Int32)) hx hb d_MM_plan_97 (by decide) ?_
              refine lv_isub hx hb d_MM_plan_98 ?_
              obtain ⟨rfl, rfl⟩ := o_p hf0
              exact hQ _ _ _ _ hH d_MM_plan_99
            · replace hf0 := o_t hc hf0
              refine lv_bipush (v := (-3 : Int32)) hx hb d_MM_plan_72 (by decide) ?_
              obtain ⟨rfl, rfl⟩ := o_p hf0
              exact hQ _ _ _ _ hH d_MM_plan_74
          · replace hf0 := o_t hc hf0
            refine lv_iconst (v := (-1 : Int32)) hx hb d_MM_plan_58 (by decide) ?_
            obtain ⟨rfl, rfl⟩ := o_p hf0
            exact hQ _ _ _ _ hH d_MM_plan_59
  refine lv_iload hx hb d_MM_plan_0 (lv_at hl 5 rfl) ?_
  refine lv_iconst (v := (1 : Int32)) hx hb d_MM_plan_2 (by decide) ?_
  refine lv_icmp_ge (tgt := 10) hx hb d_MM_plan_3 (by decide) (fun hc => ?_) (fun hc => ?_)
  · replace hf0 := o_t hc hf0
    refine lv_aload_n hx hb d_MM_plan_10 rfl (lv_at hl 0 rfl) ?_
    refine lv_iload hx hb d_MM_plan_11 (lv_at hl 5 rfl) ?_
    obtain ⟨y7, M6, hc5, hf0⟩ := o_b2 hf0
    refine q_cVi (As := [.int x5]) (rest := []) S hX hH (c_MM_laysTold l hI hZ M x5 hc5) (cw_MM_220 S.2.2.2.2 (Nat.le_trans (Nat.le_of_ble_eq_true rfl) hR.1) (Nat.le_trans (Nat.le_of_ble_eq_true rfl) hR.2)) (rc_MM hX hH hZ) rfl hl.1 rfl (Nat.le_of_ble_eq_true rfl) d_MM_plan_13 ⟨Nat.zero_le _, Nat.zero_le _⟩ (fun H locs hH => ?_)
    exact J16 _ _ _ _ _ _ _ _ _ hf0 hH (lv_sub hl [0, 1, 2, 3, 4] rfl)
  · replace hf0 := o_f hc hf0
    refine lv_iconst (v := (-1 : Int32)) hx hb d_MM_plan_6 (by decide) ?_
    refine lv_goto (tgt := 16) hx hb d_MM_plan_7 (by decide) ?_
    exact J16 _ _ _ _ _ _ _ _ _ hf0 hH (lv_sub hl [0, 1, 2, 3, 4] rfl)
theorem c_MM_plan (l : Launch) {Z : WD} (hI : wI Z) (hZ : IsM Z) (M : Mem) (x1 : Int32) (x2 : Int32) (x3 : Int32) (x4 : Int32) (x5 : Int32) {r : Int32} {M' : Mem} (hf : f_MM_plan M x1 x2 x3 x4 x5 = some (r, M')) : Ci l Z y_MM_plan b_MM_plan 7 (some .int) 3 73 [.ref (Z.2.2.1 0), .int x1, .int x2, .int x3, .int x4, .int x5] M M' r := by
  refine Met.ofW (cc := b_MM_plan) (maxL := 7) (ret := (some .int)) (by decide) rfl ?_
  intro p e s m args below meth c s₁ B hml hv
  obtain ⟨rfl, hP, hX⟩ := hv
  have S : CallFix p m c b_MM_plan 7 s ([.ref (Z.2.2.1 0), .int x1, .int x2, .int x3, .int x4, .int x5] : List Value).toArray gtb R_MM := ⟨B.exec, B.bytes, hml, findClass_of_methodNamed B.named, fun w hw => atoms_spec (ws := .code y_MM_plan b_MM_plan 7 (some .int) :: gtb) B.pre w (List.mem_cons_of_mem _ hw)⟩
  have hl := lv_entry ([.ref (Z.2.2.1 0), .int x1, .int x2, .int x3, .int x4, .int x5]) (n := 7) (Nat.le_of_ble_eq_true rfl)
  rw [lg_entry_eq]
  exact wk_MM_plan hI hZ M x1 x2 x3 x4 x5 S hX ⟨Nat.le_refl _, Nat.le_refl _⟩ (fun pc H locs ls hH d => q_ri S.1 S.2.1 B.returns B.notSynchronized hH rfl rfl d) hf ⟨hP, va_S.rf⟩ hl
noncomputable def f_MM_wideOf (x0 : Int32) : Int32 := if x0 = 0 then (13 : Int32) else if x0 = (1 : Int32) then (3 : Int32) else (4 : Int32)
set_option maxHeartbeats 4000000 in
theorem wk_MM_wideOf {l : Launch} {Z : WD} (hI : wI Z) (M : Mem) (x0 : Int32) {r : Int32} {p : Program} {e : Env} {R : Room} {s : State} {m : MethodId} {args : Array Value} {below : List Frame} {meth : Method} {c : Code} {H : Heap} {locs : List Loc} {ls : Array Slot} {Q : State → Prop} (S : CallFix p m c b_MM_wideOf 1 s args gtb R_MM) (hX : wX Z s) (hR : 0 ≤ R.frames ∧ 0 ≤ R.locals) (hQ : ∀ (pc : Nat) (H : Heap) (locs : List Loc) (ls : Array Slot), HW Z M s H locs → decode b_MM_wideOf pc = .ok (.ireturn, 1) → W p l e R s m args below meth c H locs 0 0 Q (F0 m pc ls [.int r])) (hf0 : f_MM_wideOf x0 = r) (hH : HW Z M s H locs) (hl : lv_has ls 1 [(0, .int x0)]) : W p l e R s m args below meth c H locs 0 0 Q (F0 m 0 ls []) := by
  have hx := S.1
  have hb := S.2.1
  have hown := S.2.2.2.1
  have ht := S.2.2.2.2
  unfold f_MM_wideOf at hf0
  refine lv_iload_n hx hb d_MM_wideOf_0 rfl (lv_at hl 0 rfl) ?_
  refine lv_if_ne (tgt := 9) hx hb d_MM_wideOf_1 (by decide) (fun hc => ?_) (fun hc => ?_)
  · replace hf0 := o_f hc hf0
    refine lv_iload_n hx hb d_MM_wideOf_9 rfl (lv_at hl 0 rfl) ?_
    refine lv_iconst (v := (1 : Int32)) hx hb d_MM_wideOf_10 (by decide) ?_
    refine lv_icmp_ne (tgt := 18) hx hb d_MM_wideOf_11 (by decide) (fun hc => ?_) (fun hc => ?_)
    · replace hf0 := o_f hc hf0
      refine lv_iconst (v := (4 : Int32)) hx hb d_MM_wideOf_18 (by decide) ?_
      subst hf0
      exact hQ _ _ _ _ hH d_MM_wideOf_19
    · replace hf0 := o_t hc hf0
      refine lv_iconst (v := (3 : Int32)) hx hb d_MM_wideOf_14 (by decide) ?_
      refine lv_goto (tgt := 19) hx hb d_MM_wideOf_15 (by decide) ?_
      subst hf0
      exact hQ _ _ _ _ hH d_MM_wideOf_19
  · replace hf0 := o_t hc hf0
    refine lv_bipush (v := (13 : Int32)) hx hb d_MM_wideOf_4 (by decide) ?_
    refine lv_goto (tgt := 19) hx hb d_MM_wideOf_6 (by decide) ?_
    subst hf0
    exact hQ _ _ _ _ hH d_MM_wideOf_19
theorem c_MM_wideOf (l : Launch) {Z : WD} (hI : wI Z) (M : Mem) (x0 : Int32) {r : Int32} (hf : f_MM_wideOf x0 = r) : Ci l Z y_MM_wideOf b_MM_wideOf 1 (some .int) 0 0 [.int x0] M M r := by
  refine Met.ofW (cc := b_MM_wideOf) (maxL := 1) (ret := (some .int)) (by decide) rfl ?_
  intro p e s m args below meth c s₁ B hml hv
  obtain ⟨rfl, hP, hX⟩ := hv
  have S : CallFix p m c b_MM_wideOf 1 s ([.int x0] : List Value).toArray gtb R_MM := ⟨B.exec, B.bytes, hml, findClass_of_methodNamed B.named, fun w hw => atoms_spec (ws := .code y_MM_wideOf b_MM_wideOf 1 (some .int) :: gtb) B.pre w (List.mem_cons_of_mem _ hw)⟩
  have hl := lv_entry ([.int x0]) (n := 1) (Nat.le_of_ble_eq_true rfl)
  rw [lg_entry_eq]
  exact wk_MM_wideOf hI M x0 S hX ⟨Nat.le_refl _, Nat.le_refl _⟩ (fun pc H locs ls hH d => q_ri S.1 S.2.1 B.returns B.notSynchronized hH rfl rfl d) hf ⟨hP, va_S.rf⟩ hl
noncomputable def f_MM_placeOf (x0 : Int32) : Int32 := if x0 = 0 then (10 : Int32) else if x0 = (1 : Int32) then (218 : Int32) else (254 : Int32)
set_option maxHeartbeats 4000000 in
theorem wk_MM_placeOf {l : Launch} {Z : WD} (hI : wI Z) (M : Mem) (x0 : Int32) {r : Int32} {p : Program} {e : Env} {R : Room} {s : State} {m : MethodId} {args : Array Value} {below : List Frame} {meth : Method} {c : Code} {H : Heap} {locs : List Loc} {ls : Array Slot} {Q : State → Prop} (S : CallFix p m c b_MM_placeOf 1 s args gtb R_MM) (hX : wX Z s) (hR : 0 ≤ R.frames ∧ 0 ≤ R.locals) (hQ : ∀ (pc : Nat) (H : Heap) (locs : List Loc) (ls : Array Slot), HW Z M s H locs → decode b_MM_placeOf pc = .ok (.ireturn, 1) → W p l e R s m args below meth c H locs 0 0 Q (F0 m pc ls [.int r])) (hf0 : f_MM_placeOf x0 = r) (hH : HW Z M s H locs) (hl : lv_has ls 1 [(0, .int x0)]) : W p l e R s m args below meth c H locs 0 0 Q (F0 m 0 ls []) := by
  have hx := S.1
  have hb := S.2.1
  have hown := S.2.2.2.1
  have ht := S.2.2.2.2
  unfold f_MM_placeOf at hf0
  refine lv_iload_n hx hb d_MM_placeOf_0 rfl (lv_at hl 0 rfl) ?_
  refine lv_if_ne (tgt := 9) hx hb d_MM_placeOf_1 (by decide) (fun hc => ?_) (fun hc => ?_)
  · replace hf0 := o_f hc hf0
    refine lv_iload_n hx hb d_MM_placeOf_9 rfl (lv_at hl 0 rfl) ?_
    refine lv_iconst (v := (1 : Int32)) hx hb d_MM_placeOf_10 (by decide) ?_
    refine lv_icmp_ne (tgt := 20) hx hb d_MM_placeOf_11 (by decide) (fun hc => ?_) (fun hc => ?_)
    · replace hf0 := o_f hc hf0
      refine lv_sipush (v := (254 : Int32)) hx hb d_MM_placeOf_20 (by decide) ?_
      subst hf0
      exact hQ _ _ _ _ hH d_MM_placeOf_23
    · replace hf0 := o_t hc hf0
      refine lv_sipush (v := (218 : Int32)) hx hb d_MM_placeOf_14 (by decide) ?_
      refine lv_goto (tgt := 23) hx hb d_MM_placeOf_17 (by decide) ?_
      subst hf0
      exact hQ _ _ _ _ hH d_MM_placeOf_23
  · replace hf0 := o_t hc hf0
    refine lv_bipush (v := (10 : Int32)) hx hb d_MM_placeOf_4 (by decide) ?_
    refine lv_goto (tgt := 23) hx hb d_MM_placeOf_6 (by decide) ?_
    subst hf0
    exact hQ _ _ _ _ hH d_MM_placeOf_23
theorem c_MM_placeOf (l : Launch) {Z : WD} (hI : wI Z) (M : Mem) (x0 : Int32) {r : Int32} (hf : f_MM_placeOf x0 = r) : Ci l Z y_MM_placeOf b_MM_placeOf 1 (some .int) 0 0 [.int x0] M M r := by
  refine Met.ofW (cc := b_MM_placeOf) (maxL := 1) (ret := (some .int)) (by decide) rfl ?_
  intro p e s m args below meth c s₁ B hml hv
  obtain ⟨rfl, hP, hX⟩ := hv
  have S : CallFix p m c b_MM_placeOf 1 s ([.int x0] : List Value).toArray gtb R_MM := ⟨B.exec, B.bytes, hml, findClass_of_methodNamed B.named, fun w hw => atoms_spec (ws := .code y_MM_placeOf b_MM_placeOf 1 (some .int) :: gtb) B.pre w (List.mem_cons_of_mem _ hw)⟩
  have hl := lv_entry ([.int x0]) (n := 1) (Nat.le_of_ble_eq_true rfl)
  rw [lg_entry_eq]
  exact wk_MM_placeOf hI M x0 S hX ⟨Nat.le_refl _, Nat.le_refl _⟩ (fun pc H locs ls hH d => q_ri S.1 S.2.1 B.returns B.notSynchronized hH rfl rfl d) hf ⟨hP, va_S.rf⟩ hl
theorem cw_MM_234 {R : Room} {s : State} {args : Array Value} (ht : ∀ w ∈ gtb, w.before args s = true) (h1 : 0 + 1 ≤ R.frames) (h2 : 8 + (1 + 11) + 0 ≤ R.locals) : CallB R s args R_MM 234 y_MM_placeOf b_MM_placeOf 1 (some .int) (.code y_MM_placeOf b_MM_placeOf 1 (some .int) :: gtb) { frames := 0, cells := 0, slots := 0, locals := 0 } 0 0 1 ∧ (Cond.static y_MM_placeOf).before args s = true := va_cwS 1 ht (gS w5_215 w5_216 w1_10 w5_217) rfl rfl rfl ⟨by decide, by decide, by decide +kernel⟩ ⟨h1, h2⟩
theorem cw_MM_231 {R : Room} {s : State} {args : Array Value} (ht : ∀ w ∈ gtb, w.before args s = true) (h1 : 0 + 1 ≤ R.frames) (h2 : 8 + (1 + 11) + 0 ≤ R.locals) : CallB R s args R_MM 231 y_MM_wideOf b_MM_wideOf 1 (some .int) (.code y_MM_wideOf b_MM_wideOf 1 (some .int) :: gtb) { frames := 0, cells := 0, slots := 0, locals := 0 } 0 0 1 ∧ (Cond.static y_MM_wideOf).before args s = true := va_cwS 1 ht (gS w5_212 w5_213 w1_10 w5_214) rfl rfl rfl ⟨by decide, by decide, by decide +kernel⟩ ⟨h1, h2⟩
noncomputable def f_MM_takesOut_L15 (x1 : Int32) (x3 : Int32) (x4 : Int32) (M : Mem) : Option ((Int32 × Mem) ⊕ Mem) := gIn ((7 : Int32) + x1) 302 (if ((f_MM_placeOf x1) + (x3 * ((M 1 ((7 : Int32) + x1).toNatClampNeg) - (1 : Int32)))) ≤ x4 then 
    lt1 (upM M 1 (((7 : Int32) + x1).toNatClampNeg) ((M 1 ((7 : Int32) + x1).toNatClampNeg) - (1 : Int32))) (fun M2 => some (.inr M2)) else 
    gIn (x4 + x3) 302 (gIn x4 302 (lt1 (upM M 1 x4.toNatClampNeg (M 1 (x4 + x3).toNatClampNeg)) (fun M5 => some (.inl (x4 + (1 : Int32), M5))))))
noncomputable def f_MM_takesOut_W15 (x1 : Int32) (x3 : Int32) (u : (Int32 × Mem)) : Option Mem := loop (fun t => f_MM_takesOut_L15 x1 x3 t.1 t.2) u
noncomputable def f_MM_takesOut_J15 (M : Mem) (x1 : Int32) (x3 : Int32) (x4 : Int32) : Option (Mem) := bnd (f_MM_takesOut_W15 x1 x3 (x4, M)) (fun e15 => some e15)
noncomputable def f_MM_takesOut (M : Mem) (x1 : Int32) (x2 : Int32) : Option Mem := f_MM_takesOut_J15 M x1 (f_MM_wideOf x1) ((f_MM_placeOf x1) + ((f_MM_wideOf x1) * x2))
set_option maxHeartbeats 4000000 in
theorem wk_MM_takesOut {l : Launch} {Z : WD} (hI : wI Z) (hZ : IsM Z) (M : Mem) (x1 : Int32) (x2 : Int32) {M' : Mem} {p : Program} {e : Env} {R : Room} {s : State} {m : MethodId} {args : Array Value} {below : List Frame} {meth : Method} {c : Code} {H : Heap} {locs : List Loc} {ls : Array Slot} {Q : State → Prop} (S : CallFix p m c b_MM_takesOut 5 s args gtb R_MM) (hX : wX Z s) (hR : 1 ≤ R.frames ∧ 20 ≤ R.locals) (hQ : ∀ (pc : Nat) (H : Heap) (locs : List Loc) (ls : Array Slot), HW Z M' s H locs → decode b_MM_takesOut pc = .ok (.return_, 1) → W p l e R s m args below meth c H locs 0 0 Q (F0 m pc ls [])) (hf0 : f_MM_takesOut M x1 x2 = some M') (hH : HW Z M s H locs) (hl : lv_has ls 5 [(0, .ref (Z.2.2.1 0)), (1, .int x1), (2, .int x2)]) : W p l e R s m args below meth c H locs 0 0 Q (F0 m 0 ls []) := by
  have hx := S.1
  have hb := S.2.1
  have hown := S.2.2.2.1
  have ht := S.2.2.2.2
  unfold f_MM_takesOut at hf0
  have J15 : ∀ (M : Mem) (x1 : Int32) (x3 : Int32) (x4 : Int32) (H : Heap) (locs : List Loc) (ls : Array Slot), f_MM_takesOut_J15 M x1 x3 x4 = some M' → HW Z M s H locs → lv_has ls 5 [(0, .ref (Z.2.2.1 0)), (1, .int x1), (3, .int x3), (4, .int x4)] → W p l e R s m args below meth c H locs 0 0 Q (F0 m 15 ls []) := by
    intro M x1 x3 x4 H locs ls hf0 hH hl
    unfold f_MM_takesOut_J15 at hf0
    obtain ⟨e15, he15, hf0⟩ := o_b hf0
    unfold f_MM_takesOut_W15 at he15
    refine loop_W (fun t => ∀ (H : Heap) (locs : List Loc) (ls : Array Slot), HW Z t.2 s H locs → lv_has ls 5 [(0, .ref (Z.2.2.1 0)), (1, .int x1), (3, .int x3), (4, .int t.1)] → W p l e R s m args below meth c H locs 0 0 Q (F0 m 15 ls [])) ?_ he15 H locs ls hH hl
    rintro ⟨x4, M⟩ o1 hf1 hG1 hR1 H locs ls hH hl
    replace hH : HW Z M s H locs := hH
    replace hl : lv_has ls 5 [(0, .ref (Z.2.2.1 0)), (1, .int x1), (3, .int x3), (4, .int x4)] := hl
    replace hf1 : f_MM_takesOut_L15 x1 x3 x4 M = some o1 := hf1
    unfold f_MM_takesOut_L15 at hf1
    refine lv_iload hx hb d_MM_takesOut_15 (lv_at hl 3 rfl) ?_
    refine lv_iload_n hx hb d_MM_takesOut_17 rfl (lv_at hl 1 rfl) ?_
    refine q_cSi (As := [.int x1]) (rest := [.int x4]) S hX hH (c_MM_placeOf l hI M x1 rfl) (cw_MM_234 S.2.2.2.2 (Nat.le_trans (Nat.le_of_ble_eq_true rfl) hR.1) (Nat.le_trans (Nat.le_of_ble_eq_true rfl) hR.2)) rfl hl.1 rfl (Nat.le_of_ble_eq_true rfl) d_MM_takesOut_18 ⟨Nat.zero_le _, Nat.zero_le _⟩ (fun H locs hH => ?_)
    refine lv_iload_n hx hb d_MM_takesOut_21 rfl (lv_at hl 2 rfl) ?_
    refine lv_aload_n hx hb d_MM_takesOut_22 rfl (lv_at hl 0 rfl) ?_
    refine g_MM_9 S hX hH hZ d_MM_takesOut_23 ?_
    refine lv_bipush (v := (7 : Int32)) hx hb d_MM_takesOut_26 (by decide) ?_
    refine lv_iload_n hx hb d_MM_takesOut_28 rfl (lv_at hl 1 rfl) ?_
    refine lv_iadd hx hb d_MM_takesOut_29 ?_
    obtain ⟨hn1, hf1⟩ := o_in hf1
    refine q_iald (j := ((7 : Int32) + x1).toNatClampNeg) hx hb hX hH (aa_MM_1 hZ) hn1 rfl d_MM_takesOut_30 ?_
    refine lv_iconst (v := (1 : Int32)) hx hb d_MM_takesOut_31 (by decide) ?_
    refine lv_isub hx hb d_MM_takesOut_32 ?_
    refine lv_imul hx hb d_MM_takesOut_33 ?_
    refine lv_iadd hx hb d_MM_takesOut_34 ?_
    refine lv_icmp_ge (tgt := 60) hx hb d_MM_takesOut_35 (by decide) (fun hc => ?_) (fun hc => ?_)
    · replace hf1 := o_t hc hf1
      refine lv_aload_n hx hb d_MM_takesOut_60 rfl (lv_at hl 0 rfl) ?_
      refine g_MM_9 S hX hH hZ d_MM_takesOut_61 ?_
      refine lv_bipush (v := (7 : Int32)) hx hb d_MM_takesOut_64 (by decide) ?_
      refine lv_iload_n hx hb d_MM_takesOut_66 rfl (lv_at hl 1 rfl) ?_
      refine lv_iadd hx hb d_MM_takesOut_67 ?_
      refine lv_dup2_11 hx hb d_MM_takesOut_68 rfl rfl ?_
      refine q_iald (j := ((7 : Int32) + x1).toNatClampNeg) hx hb hX hH (aa_MM_1 hZ) hn1 rfl d_MM_takesOut_69 ?_
      refine lv_iconst (v := (1 : Int32)) hx hb d_MM_takesOut_70 (by decide) ?_
      refine lv_isub hx hb d_MM_takesOut_71 ?_
      obtain ⟨M2, hM2, hf1⟩ := o_l hf1
      refine q_iast (j := ((7 : Int32) + x1).toNatClampNeg) hx hb hX hI hH (aa_MM_1 hZ) hn1 rfl d_MM_takesOut_72 (fun H locs hH => ?_)
      rw [hM2] at hH
      obtain rfl := hR1 _ (o_v hf1).symm
      obtain rfl := o_v hf0
      exact hQ _ _ _ _ hH d_MM_takesOut_73
    · replace hf1 := o_f hc hf1
      refine lv_aload_n hx hb d_MM_takesOut_38 rfl (lv_at hl 0 rfl) ?_
      refine g_MM_9 S hX hH hZ d_MM_takesOut_39 ?_
      refine lv_iload hx hb d_MM_takesOut_42 (lv_at hl 3 rfl) ?_
      refine lv_aload_n hx hb d_MM_takesOut_44 rfl (lv_at hl 0 rfl) ?_
      refine g_MM_9 S hX hH hZ d_MM_takesOut_45 ?_
      refine lv_iload hx hb d_MM_takesOut_48 (lv_at hl 3 rfl) ?_
      refine lv_iload_n hx hb d_MM_takesOut_50 rfl (lv_at hl 2 rfl) ?_
      refine lv_iadd hx hb d_MM_takesOut_51 ?_
      obtain ⟨hn3, hf1⟩ := o_in hf1
      refine q_iald (j := (x4 + x3).toNatClampNeg) hx hb hX hH (aa_MM_1 hZ) hn3 rfl d_MM_takesOut_52 ?_
      obtain ⟨hn4, hf1⟩ := o_in hf1
      obtain ⟨M5, hM5, hf1⟩ := o_l hf1
      refine q_iast (j := x4.toNatClampNeg) hx hb hX hI hH (aa_MM_1 hZ) hn4 rfl d_MM_takesOut_53 (fun H locs hH => ?_)
      rw [hM5] at hH
      refine lv_iinc (v := x4 + (1 : Int32)) (lv' := [(4, .int (x4 + (1 : Int32))), (0, .ref (Z.2.2.1 0)), (1, .int x1), (3, .int x3)]) hx hb d_MM_takesOut_54 hl (k := 3) rfl rfl (by decide) rfl (fun ls hl => ?_)
      refine lv_goto (tgt := 15) hx hb d_MM_takesOut_57 (by decide) ?_
      exact hG1 _ (o_v hf1).symm _ _ _ hH (lv_sub hl [1, 2, 3, 0] rfl)
  refine lv_iload_n hx hb d_MM_takesOut_0 rfl (lv_at hl 1 rfl) ?_
  refine q_cSi (As := [.int x1]) (rest := []) S hX hH (c_MM_wideOf l hI M x1 rfl) (cw_MM_231 S.2.2.2.2 (Nat.le_trans (Nat.le_of_ble_eq_true rfl) hR.1) (Nat.le_trans (Nat.le_of_ble_eq_true rfl) hR.2)) rfl hl.1 rfl (Nat.le_of_ble_eq_true rfl) d_MM_takesOut_1 ⟨Nat.zero_le _, Nat.zero_le _⟩ (fun H locs hH => ?_)
  refine lv_istore_n (lv' := [(3, .int (f_MM_wideOf x1)), (0, .ref (Z.2.2.1 0)), (1, .int x1), (2, .int x2)]) hx hb d_MM_takesOut_4 rfl hl (by decide) rfl (fun ls hl => ?_)
  refine lv_iload_n hx hb d_MM_takesOut_5 rfl (lv_at hl 2 rfl) ?_
  refine q_cSi (As := [.int x1]) (rest := []) S hX hH (c_MM_placeOf l hI M x1 rfl) (cw_MM_234 S.2.2.2.2 (Nat.le_trans (Nat.le_of_ble_eq_true rfl) hR.1) (Nat.le_trans (Nat.le_of_ble_eq_true rfl) hR.2)) rfl hl.1 rfl (Nat.le_of_ble_eq_true rfl) d_MM_takesOut_6 ⟨Nat.zero_le _, Nat.zero_le _⟩ (fun H locs hH => ?_)
  refine lv_iload_n hx hb d_MM_takesOut_9 rfl (lv_at hl 0 rfl) ?_
  refine lv_iload_n hx hb d_MM_takesOut_10 rfl (lv_at hl 3 rfl) ?_
  refine lv_imul hx hb d_MM_takesOut_11 ?_
  refine lv_iadd hx hb d_MM_takesOut_12 ?_
  refine lv_istore (lv' := [(4, .int ((f_MM_placeOf x1) + ((f_MM_wideOf x1) * x2))), (3, .int (f_MM_wideOf x1)), (0, .ref (Z.2.2.1 0)), (1, .int x1), (2, .int x2)]) hx hb d_MM_takesOut_13 hl (by decide) rfl (fun ls hl => ?_)
  exact J15 _ _ _ _ _ _ _ hf0 hH (lv_sub hl [2, 3, 1, 0] rfl)
theorem c_MM_takesOut (l : Launch) {Z : WD} (hI : wI Z) (hZ : IsM Z) (M : Mem) (x1 : Int32) (x2 : Int32) {M' : Mem} (hf : f_MM_takesOut M x1 x2 = some M') : Cv l Z y_MM_takesOut b_MM_takesOut 5 none 1 20 [.ref (Z.2.2.1 0), .int x1, .int x2] M M' := by
  refine Met.ofW (cc := b_MM_takesOut) (maxL := 5) (ret := none) (by decide) rfl ?_
  intro p e s m args below meth c s₁ B hml hv
  obtain ⟨rfl, hP, hX⟩ := hv
  have S : CallFix p m c b_MM_takesOut 5 s ([.ref (Z.2.2.1 0), .int x1, .int x2] : List Value).toArray gtb R_MM := ⟨B.exec, B.bytes, hml, findClass_of_methodNamed B.named, fun w hw => atoms_spec (ws := .code y_MM_takesOut b_MM_takesOut 5 none :: gtb) B.pre w (List.mem_cons_of_mem _ hw)⟩
  have hl := lv_entry ([.ref (Z.2.2.1 0), .int x1, .int x2]) (n := 5) (Nat.le_of_ble_eq_true rfl)
  rw [lg_entry_eq]
  exact wk_MM_takesOut hI hZ M x1 x2 S hX ⟨Nat.le_refl _, Nat.le_refl _⟩ (fun pc H locs ls hH d => q_rv S.1 S.2.1 B.returns B.notSynchronized hH rfl d) hf ⟨hP, va_S.rf⟩ hl
theorem cw_MM_239 {R : Room} {s : State} {args : Array Value} (ht : ∀ w ∈ gtb, w.before args s = true) (h1 : 1 + 1 ≤ R.frames) (h2 : 8 + (5 + 11) + 20 ≤ R.locals) : CallW R s args R_MM R_MM 239 y_MM_takesOut b_MM_takesOut 5 none (.code y_MM_takesOut b_MM_takesOut 5 none :: gtb) { frames := 1, cells := 0, slots := 0, locals := 20 } 0 0 2 := cwV 2 ht (gV w5_208 w5_210 ws_MM_takesOut w1_10 w5_211) rfl rfl rfl ⟨rfl, by decide, by decide, by decide +kernel⟩ ⟨h1, h2⟩
noncomputable def f_MM_drop (M : Mem) (x1 : Int32) (x2 : Int32) : Option (Int32 × Mem) := 
    if (bI (f_MM_in x1.toInt64 (0 : Int64) (2 : Int64))) = 0 then some ((-1 : Int32), M) else 
    gIn ((7 : Int32) + x1) 302 (if (bI (f_MM_in x2.toInt64 (0 : Int64) (((M 1 ((7 : Int32) + x1).toNatClampNeg) - (1 : Int32)).toInt64))) = 0 then some ((-1 : Int32), M) else 
    bnd (f_MM_keepsPast M) (fun M3 => bnd (f_MM_takesOut M3 x1 x2) (fun M5 => some (M5 1 ((7 : Int32) + x1).toNatClampNeg, M5))))
set_option maxHeartbeats 4000000 in
theorem wk_MM_drop {l : Launch} {Z : WD} (hI : wI Z) (hZ : IsM Z) (M : Mem) (x1 : Int32) (x2 : Int32) {r : Int32} {M' : Mem} {p : Program} {e : Env} {R : Room} {s : State} {m : MethodId} {args : Array Value} {below : List Frame} {meth : Method} {c : Code} {H : Heap} {locs : List Loc} {ls : Array Slot} {Q : State → Prop} (S : CallFix p m c b_MM_drop 3 s args gtb R_MM) (hX : wX Z s) (hR : 2 ≤ R.frames ∧ 45 ≤ R.locals) (hQ : ∀ (pc : Nat) (H : Heap) (locs : List Loc) (ls : Array Slot), HW Z M' s H locs → decode b_MM_drop pc = .ok (.ireturn, 1) → W p l e R s m args below meth c H locs 0 0 Q (F0 m pc ls [.int r])) (hf0 : f_MM_drop M x1 x2 = some (r, M')) (hH : HW Z M s H locs) (hl : lv_has ls 3 [(0, .ref (Z.2.2.1 0)), (1, .int x1), (2, .int x2)]) : W p l e R s m args below meth c H locs 0 0 Q (F0 m 0 ls []) := by
  have hx := S.1
  have hb := S.2.1
  have hown := S.2.2.2.1
  have ht := S.2.2.2.2
  unfold f_MM_drop at hf0
  refine lv_iload_n hx hb d_MM_drop_0 rfl (lv_at hl 1 rfl) ?_
  refine lv_i2l hx hb d_MM_drop_1 rfl ?_
  refine lv_lconst (v := (0 : Int64)) hx hb d_MM_drop_2 (by decide) ?_
  refine lv_ldc2 (v := (2 : Int64)) hx hb hown (ht _ w5_207) d_MM_drop_3 ?_
  refine q_cSi (As := [.long x1.toInt64, .long (0 : Int64), .long (2 : Int64)]) (rest := []) S hX hH (c_MM_in l hI M x1.toInt64 (0 : Int64) (2 : Int64) rfl) (cw_MM_108 S.2.2.2.2 (Nat.le_trans (Nat.le_of_ble_eq_true rfl) hR.1) (Nat.le_trans (Nat.le_of_ble_eq_true rfl) hR.2)) rfl hl.1 rfl (Nat.le_of_ble_eq_true rfl) d_MM_drop_6 ⟨Nat.zero_le _, Nat.zero_le _⟩ (fun H locs hH => ?_)
  refine lv_if_eq (tgt := 33) hx hb d_MM_drop_9 (by decide) (fun hc => ?_) (fun hc => ?_)
  · replace hf0 := o_t hc hf0
    refine lv_iconst (v := (-1 : Int32)) hx hb d_MM_drop_33 (by decide) ?_
    obtain ⟨rfl, rfl⟩ := o_p hf0
    exact hQ _ _ _ _ hH d_MM_drop_34
  · replace hf0 := o_f hc hf0
    refine lv_iload_n hx hb d_MM_drop_12 rfl (lv_at hl 2 rfl) ?_
    refine lv_i2l hx hb d_MM_drop_13 rfl ?_
    refine lv_lconst (v := (0 : Int64)) hx hb d_MM_drop_14 (by decide) ?_
    refine lv_aload_n hx hb d_MM_drop_15 rfl (lv_at hl 0 rfl) ?_
    refine g_MM_9 S hX hH hZ d_MM_drop_16 ?_
    refine lv_bipush (v := (7 : Int32)) hx hb d_MM_drop_19 (by decide) ?_
    refine lv_iload_n hx hb d_MM_drop_21 rfl (lv_at hl 1 rfl) ?_
    refine lv_iadd hx hb d_MM_drop_22 ?_
    obtain ⟨hn1, hf0⟩ := o_in hf0
    refine q_iald (j := ((7 : Int32) + x1).toNatClampNeg) hx hb hX hH (aa_MM_1 hZ) hn1 rfl d_MM_drop_23 ?_
    refine lv_iconst (v := (1 : Int32)) hx hb d_MM_drop_24 (by decide) ?_
    refine lv_isub hx hb d_MM_drop_25 ?_
    refine lv_i2l hx hb d_MM_drop_26 rfl ?_
    refine q_cSi (As := [.long x2.toInt64, .long (0 : Int64), .long (((M 1 ((7 : Int32) + x1).toNatClampNeg) - (1 : Int32)).toInt64)]) (rest := []) S hX hH (c_MM_in l hI M x2.toInt64 (0 : Int64) (((M 1 ((7 : Int32) + x1).toNatClampNeg) - (1 : Int32)).toInt64) rfl) (cw_MM_108 S.2.2.2.2 (Nat.le_trans (Nat.le_of_ble_eq_true rfl) hR.1) (Nat.le_trans (Nat.le_of_ble_eq_true rfl) hR.2)) rfl hl.1 rfl (Nat.le_of_ble_eq_true rfl) d_MM_drop_27 ⟨Nat.zero_le _, Nat.zero_le _⟩ (fun H locs hH => ?_)
    refine lv_if_ne (tgt := 35) hx hb d_MM_drop_30 (by decide) (fun hc => ?_) (fun hc => ?_)
    · replace hf0 := o_f hc hf0
      refine lv_aload_n hx hb d_MM_drop_35 rfl (lv_at hl 0 rfl) ?_
      obtain ⟨M3, hc2, hf0⟩ := o_b hf0
      refine q_cVv (As := []) (rest := []) S hX hH (c_MM_keepsPast l hI hZ M hc2) (cw_MM_217 S.2.2.2.2 (Nat.le_trans (Nat.le_of_ble_eq_true rfl) hR.1) (Nat.le_trans (Nat.le_of_ble_eq_true rfl) hR.2)) (rc_MM hX hH hZ) rfl hl.1 rfl (Nat.le_of_ble_eq_true rfl) d_MM_drop_36 ⟨Nat.zero_le _, Nat.zero_le _⟩ (fun H locs hH => ?_)
      refine lv_aload_n hx hb d_MM_drop_39 rfl (lv_at hl 0 rfl) ?_
      refine lv_iload_n hx hb d_MM_drop_40 rfl (lv_at hl 1 rfl) ?_
      refine lv_iload_n hx hb d_MM_drop_41 rfl (lv_at hl 2 rfl) ?_
      obtain ⟨M5, hc4, hf0⟩ := o_b hf0
      refine q_cVv (As := [.int x1, .int x2]) (rest := []) S hX hH (c_MM_takesOut l hI hZ M3 x1 x2 hc4) (cw_MM_239 S.2.2.2.2 (Nat.le_trans (Nat.le_of_ble_eq_true rfl) hR.1) (Nat.le_trans (Nat.le_of_ble_eq_true rfl) hR.2)) (rc_MM hX hH hZ) rfl hl.1 rfl (Nat.le_of_ble_eq_true rfl) d_MM_drop_42 ⟨Nat.zero_le _, Nat.zero_le _⟩ (fun H locs hH => ?_)
      refine lv_aload_n hx hb d_MM_drop_45 rfl (lv_at hl 0 rfl) ?_
      refine g_MM_9 S hX hH hZ d_MM_drop_46 ?_
      refine lv_bipush (v := (7 : Int32)) hx hb d_MM_drop_49 (by decide) ?_
      refine lv_iload_n hx hb d_MM_drop_51 rfl (lv_at hl 1 rfl) ?_
      refine lv_iadd hx hb d_MM_drop_52 ?_
      refine q_iald (j := ((7 : Int32) + x1).toNatClampNeg) hx hb hX hH (aa_MM_1 hZ) hn1 rfl d_MM_drop_53 ?_
      obtain ⟨rfl, rfl⟩ := o_p hf0
      exact hQ _ _ _ _ hH d_MM_drop_54
    · replace hf0 := o_t hc hf0
      refine lv_iconst (v := (-1 : Int32)) hx hb d_MM_drop_33 (by decide) ?_
      obtain ⟨rfl, rfl⟩ := o_p hf0
      exact hQ _ _ _ _ hH d_MM_drop_34
theorem c_MM_drop (l : Launch) {Z : WD} (hI : wI Z) (hZ : IsM Z) (M : Mem) (x1 : Int32) (x2 : Int32) {r : Int32} {M' : Mem} (hf : f_MM_drop M x1 x2 = some (r, M')) : Ci l Z y_MM_drop b_MM_drop 3 (some .int) 2 45 [.ref (Z.2.2.1 0), .int x1, .int x2] M M' r := by
  refine Met.ofW (cc := b_MM_drop) (maxL := 3) (ret := (some .int)) (by decide) rfl ?_
  intro p e s m args below meth c s₁ B hml hv
  obtain ⟨rfl, hP, hX⟩ := hv
  have S : CallFix p m c b_MM_drop 3 s ([.ref (Z.2.2.1 0), .int x1, .int x2] : List Value).toArray gtb R_MM := ⟨B.exec, B.bytes, hml, findClass_of_methodNamed B.named, fun w hw => atoms_spec (ws := .code y_MM_drop b_MM_drop 3 (some .int) :: gtb) B.pre w (List.mem_cons_of_mem _ hw)⟩
  have hl := lv_entry ([.ref (Z.2.2.1 0), .int x1, .int x2]) (n := 3) (Nat.le_of_ble_eq_true rfl)
  rw [lg_entry_eq]
  exact wk_MM_drop hI hZ M x1 x2 S hX ⟨Nat.le_refl _, Nat.le_refl _⟩ (fun pc H locs ls hH d => q_ri S.1 S.2.1 B.returns B.notSynchronized hH rfl rfl d) hf ⟨hP, va_S.rf⟩ hl
noncomputable def f_MM_faultOf_L3 (M : Mem) (x1 : Int32) (x2 : Int32) (x3 : Int32) (x4 : Int32) (x5 : Int32) : Option (Int32 ⊕ Int32) := gIn ((7 : Int32) + x1) 302 (if (M 1 ((7 : Int32) + x1).toNatClampNeg) ≤ x5 then some (.inr (-1 : Int32)) else 
    gIn ((f_MM_placeOf x1) + ((f_MM_wideOf x1) * x5)) 302 (if (M 1 ((f_MM_placeOf x1) + ((f_MM_wideOf x1) * x5)).toNatClampNeg) = x2 then 
    gIn (((f_MM_placeOf x1) + ((f_MM_wideOf x1) * x5)) + (1 : Int32)) 302 (if (M 1 (((f_MM_placeOf x1) + ((f_MM_wideOf x1) * x5)) + (1 : Int32)).toNatClampNeg) = x3 then 
    gIn (((f_MM_placeOf x1) + ((f_MM_wideOf x1) * x5)) + (2 : Int32)) 302 (if (M 1 (((f_MM_placeOf x1) + ((f_MM_wideOf x1) * x5)) + (2 : Int32)).toNatClampNeg) = x4 then some (.inr x5) else some (.inl (x5 + (1 : Int32)))) else some (.inl (x5 + (1 : Int32)))) else some (.inl (x5 + (1 : Int32)))))
noncomputable def f_MM_faultOf_W3 (M : Mem) (x1 : Int32) (x2 : Int32) (x3 : Int32) (x4 : Int32) (u : Int32) : Option Int32 := loop (fun t => f_MM_faultOf_L3 M x1 x2 x3 x4 t) u
noncomputable def f_MM_faultOf_J3 (M : Mem) (x1 : Int32) (x2 : Int32) (x3 : Int32) (x4 : Int32) (x5 : Int32) : Option (Int32) := bnd (f_MM_faultOf_W3 M x1 x2 x3 x4 x5) (fun e3 => some e3)
noncomputable def f_MM_faultOf (M : Mem) (x1 : Int32) (x2 : Int32) (x3 : Int32) (x4 : Int32) : Option Int32 := f_MM_faultOf_J3 M x1 x2 x3 x4 (0 : Int32)
set_option maxHeartbeats 4000000 in
theorem wk_MM_faultOf {l : Launch} {Z : WD} (hI : wI Z) (hZ : IsM Z) (M : Mem) (x1 : Int32) (x2 : Int32) (x3 : Int32) (x4 : Int32) {r : Int32} {p : Program} {e : Env} {R : Room} {s : State} {m : MethodId} {args : Array Value} {below : List Frame} {meth : Method} {c : Code} {H : Heap} {locs : List Loc} {ls : Array Slot} {Q : State → Prop} (S : CallFix p m c b_MM_faultOf 7 s args gtb R_MM) (hX : wX Z s) (hR : 1 ≤ R.frames ∧ 20 ≤ R.locals) (hQ : ∀ (pc : Nat) (H : Heap) (locs : List Loc) (ls : Array Slot), HW Z M s H locs → decode b_MM_faultOf pc = .ok (.ireturn, 1) → W p l e R s m args below meth c H locs 0 0 Q (F0 m pc ls [.int r])) (hf0 : f_MM_faultOf M x1 x2 x3 x4 = some r) (hH : HW Z M s H locs) (hl : lv_has ls 7 [(0, .ref (Z.2.2.1 0)), (1, .int x1), (2, .int x2), (3, .int x3), (4, .int x4)]) : W p l e R s m args below meth c H locs 0 0 Q (F0 m 0 ls []) := by
  have hx := S.1
  have hb := S.2.1
  have hown := S.2.2.2.1
  have ht := S.2.2.2.2
  unfold f_MM_faultOf at hf0
  have J3 : ∀ (x1 : Int32) (x2 : Int32) (x3 : Int32) (x4 : Int32) (x5 : Int32) (H : Heap) (locs : List Loc) (ls : Array Slot), f_MM_faultOf_J3 M x1 x2 x3 x4 x5 = some r → HW Z M s H locs → lv_has ls 7 [(0, .ref (Z.2.2.1 0)), (1, .int x1), (2, .int x2), (3, .int x3), (4, .int x4), (5, .int x5)] → W p l e R s m args below meth c H locs 0 0 Q (F0 m 3 ls []) := by
    intro x1 x2 x3 x4 x5 H locs ls hf0 hH hl
    unfold f_MM_faultOf_J3 at hf0
    obtain ⟨e3, he3, hf0⟩ := o_b hf0
    unfold f_MM_faultOf_W3 at he3
    refine loop_W (fun t => ∀ (H : Heap) (locs : List Loc) (ls : Array Slot), HW Z M s H locs → lv_has ls 7 [(0, .ref (Z.2.2.1 0)), (1, .int x1), (2, .int x2), (3, .int x3), (4, .int x4), (5, .int t)] → W p l e R s m args below meth c H locs 0 0 Q (F0 m 3 ls [])) ?_ he3 H locs ls hH hl
    rintro x5 o1 hf1 hG1 hR1 H locs ls hH hl
    replace hH : HW Z M s H locs := hH
    replace hl : lv_has ls 7 [(0, .ref (Z.2.2.1 0)), (1, .int x1), (2, .int x2), (3, .int x3), (4, .int x4), (5, .int x5)] := hl
    replace hf1 : f_MM_faultOf_L3 M x1 x2 x3 x4 x5 = some o1 := hf1
    unfold f_MM_faultOf_L3 at hf1
    refine lv_iload hx hb d_MM_faultOf_3 (lv_at hl 5 rfl) ?_
    refine lv_aload_n hx hb d_MM_faultOf_5 rfl (lv_at hl 0 rfl) ?_
    refine g_MM_9 S hX hH hZ d_MM_faultOf_6 ?_
    refine lv_bipush (v := (7 : Int32)) hx hb d_MM_faultOf_9 (by decide) ?_
    refine lv_iload_n hx hb d_MM_faultOf_11 rfl (lv_at hl 1 rfl) ?_
    refine lv_iadd hx hb d_MM_faultOf_12 ?_
    obtain ⟨hn1, hf1⟩ := o_in hf1
    refine q_iald (j := ((7 : Int32) + x1).toNatClampNeg) hx hb hX hH (aa_MM_1 hZ) hn1 rfl d_MM_faultOf_13 ?_
    refine lv_icmp_ge (tgt := 78) hx hb d_MM_faultOf_14 (by decide) (fun hc => ?_) (fun hc => ?_)
    · replace hf1 := o_t hc hf1
      refine lv_iconst (v := (-1 : Int32)) hx hb d_MM_faultOf_78 (by decide) ?_
      obtain rfl := hR1 _ (o_v hf1).symm
      obtain rfl := o_v hf0
      exact hQ _ _ _ _ hH d_MM_faultOf_79
    · replace hf1 := o_f hc hf1
      refine lv_iload_n hx hb d_MM_faultOf_17 rfl (lv_at hl 1 rfl) ?_
      refine q_cSi (As := [.int x1]) (rest := []) S hX hH (c_MM_placeOf l hI M x1 rfl) (cw_MM_234 S.2.2.2.2 (Nat.le_trans (Nat.le_of_ble_eq_true rfl) hR.1) (Nat.le_trans (Nat.le_of_ble_eq_true rfl) hR.2)) rfl hl.1 rfl (Nat.le_of_ble_eq_true rfl) d_MM_faultOf_18 ⟨Nat.zero_le _, Nat.zero_le _⟩ (fun H locs hH => ?_)
      refine lv_iload_n hx hb d_MM_faultOf_21 rfl (lv_at hl 1 rfl) ?_
      refine q_cSi (As := [.int x1]) (rest := [.int (f_MM_placeOf x1)]) S hX hH (c_MM_wideOf l hI M x1 rfl) (cw_MM_231 S.2.2.2.2 (Nat.le_trans (Nat.le_of_ble_eq_true rfl) hR.1) (Nat.le_trans (Nat.le_of_ble_eq_true rfl) hR.2)) rfl hl.1 rfl (Nat.le_of_ble_eq_true rfl) d_MM_faultOf_22 ⟨Nat.zero_le _, Nat.zero_le _⟩ (fun H locs hH => ?_)
      refine lv_iload hx hb d_MM_faultOf_25 (lv_at hl 5 rfl) ?_
      refine lv_imul hx hb d_MM_faultOf_27 ?_
      refine lv_iadd hx hb d_MM_faultOf_28 ?_
      refine lv_istore (lv' := [(6, .int ((f_MM_placeOf x1) + ((f_MM_wideOf x1) * x5))), (0, .ref (Z.2.2.1 0)), (1, .int x1), (2, .int x2), (3, .int x3), (4, .int x4), (5, .int x5)]) hx hb d_MM_faultOf_29 hl (by decide) rfl (fun ls hl => ?_)
      refine lv_aload_n hx hb d_MM_faultOf_31 rfl (lv_at hl 1 rfl) ?_
      refine g_MM_9 S hX hH hZ d_MM_faultOf_32 ?_
      refine lv_iload hx hb d_MM_faultOf_35 (lv_at hl 0 rfl) ?_
      obtain ⟨hn2, hf1⟩ := o_in hf1
      refine q_iald (j := ((f_MM_placeOf x1) + ((f_MM_wideOf x1) * x5)).toNatClampNeg) hx hb hX hH (aa_MM_1 hZ) hn2 rfl d_MM_faultOf_37 ?_
      refine lv_iload_n hx hb d_MM_faultOf_38 rfl (lv_at hl 3 rfl) ?_
      refine lv_icmp_ne (tgt := 72) hx hb d_MM_faultOf_39 (by decide) (fun hc => ?_) (fun hc => ?_)
      · replace hf1 := o_f hc hf1
        refine lv_iinc (v := x5 + (1 : Int32)) (lv' := [(5, .int (x5 + (1 : Int32))), (6, .int ((f_MM_placeOf x1) + ((f_MM_wideOf x1) * x5))), (0, .ref (Z.2.2.1 0)), (1, .int x1), (2, .int x2), (3, .int x3), (4, .int x4)]) hx hb d_MM_faultOf_72 hl (k := 6) rfl rfl (by decide) rfl (fun ls hl => ?_)
        refine lv_goto (tgt := 3) hx hb d_MM_faultOf_75 (by decide) ?_
        exact hG1 _ (o_v hf1).symm _ _ _ hH (lv_sub hl [2, 3, 4, 5, 6, 0] rfl)
      · replace hf1 := o_t hc hf1
        refine lv_aload_n hx hb d_MM_faultOf_42 rfl (lv_at hl 1 rfl) ?_
        refine g_MM_9 S hX hH hZ d_MM_faultOf_43 ?_
        refine lv_iload hx hb d_MM_faultOf_46 (lv_at hl 0 rfl) ?_
        refine lv_iconst (v := (1 : Int32)) hx hb d_MM_faultOf_48 (by decide) ?_
        refine lv_iadd hx hb d_MM_faultOf_49 ?_
        obtain ⟨hn3, hf1⟩ := o_in hf1
        refine q_iald (j := (((f_MM_placeOf x1) + ((f_MM_wideOf x1) * x5)) + (1 : Int32)).toNatClampNeg) hx hb hX hH (aa_MM_1 hZ) hn3 rfl d_MM_faultOf_50 ?_
        refine lv_iload_n hx hb d_MM_faultOf_51 rfl (lv_at hl 4 rfl) ?_
        refine lv_icmp_ne (tgt := 72) hx hb d_MM_faultOf_52 (by decide) (fun hc => ?_) (fun hc => ?_)
        · replace hf1 := o_f hc hf1
          refine lv_iinc (v := x5 + (1 : Int32)) (lv' := [(5, .int (x5 + (1 : Int32))), (6, .int ((f_MM_placeOf x1) + ((f_MM_wideOf x1) * x5))), (0, .ref (Z.2.2.1 0)), (1, .int x1), (2, .int x2), (3, .int x3), (4, .int x4)]) hx hb d_MM_faultOf_72 hl (k := 6) rfl rfl (by decide) rfl (fun ls hl => ?_)
          refine lv_goto (tgt := 3) hx hb d_MM_faultOf_75 (by decide) ?_
          exact hG1 _ (o_v hf1).symm _ _ _ hH (lv_sub hl [2, 3, 4, 5, 6, 0] rfl)
        · replace hf1 := o_t hc hf1
          refine lv_aload_n hx hb d_MM_faultOf_55 rfl (lv_at hl 1 rfl) ?_
          refine g_MM_9 S hX hH hZ d_MM_faultOf_56 ?_
          refine lv_iload hx hb d_MM_faultOf_59 (lv_at hl 0 rfl) ?_
          refine lv_iconst (v := (2 : Int32)) hx hb d_MM_faultOf_61 (by decide) ?_
          refine lv_iadd hx hb d_MM_faultOf_62 ?_
          obtain ⟨hn4, hf1⟩ := o_in hf1
          refine q_iald (j := (((f_MM_placeOf x1) + ((f_MM_wideOf x1) * x5)) + (2 : Int32)).toNatClampNeg) hx hb hX hH (aa_MM_1 hZ) hn4 rfl d_MM_faultOf_63 ?_
          refine lv_iload hx hb d_MM_faultOf_64 (lv_at hl 5 rfl) ?_
          refine lv_icmp_ne (tgt := 72) hx hb d_MM_faultOf_66 (by decide) (fun hc => ?_) (fun hc => ?_)
          · replace hf1 := o_f hc hf1
            refine lv_iinc (v := x5 + (1 : Int32)) (lv' := [(5, .int (x5 + (1 : Int32))), (6, .int ((f_MM_placeOf x1) + ((f_MM_wideOf x1) * x5))), (0, .ref (Z.2.2.1 0)), (1, .int x1), (2, .int x2), (3, .int x3), (4, .int x4)]) hx hb d_MM_faultOf_72 hl (k := 6) rfl rfl (by decide) rfl (fun ls hl => ?_)
            refine lv_goto (tgt := 3) hx hb d_MM_faultOf_75 (by decide) ?_
            exact hG1 _ (o_v hf1).symm _ _ _ hH (lv_sub hl [2, 3, 4, 5, 6, 0] rfl)
          · replace hf1 := o_t hc hf1
            refine lv_iload hx hb d_MM_faultOf_69 (lv_at hl 6 rfl) ?_
            obtain rfl := hR1 _ (o_v hf1).symm
            obtain rfl := o_v hf0
            exact hQ _ _ _ _ hH d_MM_faultOf_71
  refine lv_iconst (v := (0 : Int32)) hx hb d_MM_faultOf_0 (by decide) ?_
  refine lv_istore (lv' := [(5, .int (0 : Int32)), (0, .ref (Z.2.2.1 0)), (1, .int x1), (2, .int x2), (3, .int x3), (4, .int x4)]) hx hb d_MM_faultOf_1 hl (by decide) rfl (fun ls hl => ?_)
  exact J3 _ _ _ _ _ _ _ _ hf0 hH (lv_sub hl [1, 2, 3, 4, 5, 0] rfl)
theorem c_MM_faultOf (l : Launch) {Z : WD} (hI : wI Z) (hZ : IsM Z) (M : Mem) (x1 : Int32) (x2 : Int32) (x3 : Int32) (x4 : Int32) {r : Int32} (hf : f_MM_faultOf M x1 x2 x3 x4 = some r) : Ci l Z y_MM_faultOf b_MM_faultOf 7 (some .int) 1 20 [.ref (Z.2.2.1 0), .int x1, .int x2, .int x3, .int x4] M M r := by
  refine Met.ofW (cc := b_MM_faultOf) (maxL := 7) (ret := (some .int)) (by decide) rfl ?_
  intro p e s m args below meth c s₁ B hml hv
  obtain ⟨rfl, hP, hX⟩ := hv
  have S : CallFix p m c b_MM_faultOf 7 s ([.ref (Z.2.2.1 0), .int x1, .int x2, .int x3, .int x4] : List Value).toArray gtb R_MM := ⟨B.exec, B.bytes, hml, findClass_of_methodNamed B.named, fun w hw => atoms_spec (ws := .code y_MM_faultOf b_MM_faultOf 7 (some .int) :: gtb) B.pre w (List.mem_cons_of_mem _ hw)⟩
  have hl := lv_entry ([.ref (Z.2.2.1 0), .int x1, .int x2, .int x3, .int x4]) (n := 7) (Nat.le_of_ble_eq_true rfl)
  rw [lg_entry_eq]
  exact wk_MM_faultOf hI hZ M x1 x2 x3 x4 S hX ⟨Nat.le_refl _, Nat.le_refl _⟩ (fun pc H locs ls hH d => q_ri S.1 S.2.1 B.returns B.notSynchronized hH rfl rfl d) hf ⟨hP, va_S.rf⟩ hl
noncomputable def f_MM_faults_J66 (M : Mem) (x1 : Int32) : Option (Mem) := gIn ((7 : Int32) + x1) 302 (lt1 (upM M 1 (((7 : Int32) + x1).toNatClampNeg) ((M 1 ((7 : Int32) + x1).toNatClampNeg) + (1 : Int32))) (fun M2 => some M2))
noncomputable def f_MM_faults (M : Mem) (x1 : Int32) (x2 : Int32) (x3 : Int32) (x4 : Int32) (x5 : Int32) : Option Mem := 
    gIn ((7 : Int32) + x1) 302 (lt1 ((f_MM_placeOf x1) + ((f_MM_wideOf x1) * (M 1 ((7 : Int32) + x1).toNatClampNeg))) (fun y4 => gIn y4 302 (lt1 (upM M 1 y4.toNatClampNeg x2) (fun M6 => 
    gIn (y4 + (1 : Int32)) 302 (lt1 (upM M6 1 ((y4 + (1 : Int32)).toNatClampNeg) x3) (fun M8 => 
    gIn (y4 + (2 : Int32)) 302 (lt1 (upM M8 1 ((y4 + (2 : Int32)).toNatClampNeg) x4) (fun M10 => 
    if x1 = (2 : Int32) then 
    gIn (y4 + (3 : Int32)) 302 (lt1 (upM M10 1 ((y4 + (3 : Int32)).toNatClampNeg) x5) (fun M12 => f_MM_faults_J66 M12 x1)) else f_MM_faults_J66 M10 x1))))))))
set_option maxHeartbeats 4000000 in
theorem wk_MM_faults {l : Launch} {Z : WD} (hI : wI Z) (hZ : IsM Z) (M : Mem) (x1 : Int32) (x2 : Int32) (x3 : Int32) (x4 : Int32) (x5 : Int32) {M' : Mem} {p : Program} {e : Env} {R : Room} {s : State} {m : MethodId} {args : Array Value} {below : List Frame} {meth : Method} {c : Code} {H : Heap} {locs : List Loc} {ls : Array Slot} {Q : State → Prop} (S : CallFix p m c b_MM_faults 7 s args gtb R_MM) (hX : wX Z s) (hR : 1 ≤ R.frames ∧ 20 ≤ R.locals) (hQ : ∀ (pc : Nat) (H : Heap) (locs : List Loc) (ls : Array Slot), HW Z M' s H locs → decode b_MM_faults pc = .ok (.return_, 1) → W p l e R s m args below meth c H locs 0 0 Q (F0 m pc ls [])) (hf0 : f_MM_faults M x1 x2 x3 x4 x5 = some M') (hH : HW Z M s H locs) (hl : lv_has ls 7 [(0, .ref (Z.2.2.1 0)), (1, .int x1), (2, .int x2), (3, .int x3), (4, .int x4), (5, .int x5)]) : W p l e R s m args below meth c H locs 0 0 Q (F0 m 0 ls []) := by
  have hx := S.1
  have hb := S.2.1
  have hown := S.2.2.2.1
  have ht := S.2.2.2.2
  unfold f_MM_faults at hf0
  have J66 : ∀ (M : Mem) (x1 : Int32) (H : Heap) (locs : List Loc) (ls : Array Slot), f_MM_faults_J66 M x1 = some M' → HW Z M s H locs → lv_has ls 7 [(0, .ref (Z.2.2.1 0)), (1, .int x1)] → W p l e R s m args below meth c H locs 0 0 Q (F0 m 66 ls []) := by
    intro M x1 H locs ls hf0 hH hl
    unfold f_MM_faults_J66 at hf0
    refine lv_aload_n hx hb d_MM_faults_66 rfl (lv_at hl 0 rfl) ?_
    refine g_MM_9 S hX hH hZ d_MM_faults_67 ?_
    refine lv_bipush (v := (7 : Int32)) hx hb d_MM_faults_70 (by decide) ?_
    refine lv_iload_n hx hb d_MM_faults_72 rfl (lv_at hl 1 rfl) ?_
    refine lv_iadd hx hb d_MM_faults_73 ?_
    refine lv_dup2_11 hx hb d_MM_faults_74 rfl rfl ?_
    obtain ⟨hn1, hf0⟩ := o_in hf0
    refine q_iald (j := ((7 : Int32) + x1).toNatClampNeg) hx hb hX hH (aa_MM_1 hZ) hn1 rfl d_MM_faults_75 ?_
    refine lv_iconst (v := (1 : Int32)) hx hb d_MM_faults_76 (by decide) ?_
    refine lv_iadd hx hb d_MM_faults_77 ?_
    obtain ⟨M2, hM2, hf0⟩ := o_l hf0
    refine q_iast (j := ((7 : Int32) + x1).toNatClampNeg) hx hb hX hI hH (aa_MM_1 hZ) hn1 rfl d_MM_faults_78 (fun H locs hH => ?_)
    rw [hM2] at hH
    obtain rfl := o_v hf0
    exact hQ _ _ _ _ hH d_MM_faults_79
  refine lv_iload_n hx hb d_MM_faults_0 rfl (lv_at hl 1 rfl) ?_
  refine q_cSi (As := [.int x1]) (rest := []) S hX hH (c_MM_placeOf l hI M x1 rfl) (cw_MM_234 S.2.2.2.2 (Nat.le_trans (Nat.le_of_ble_eq_true rfl) hR.1) (Nat.le_trans (Nat.le_of_ble_eq_true rfl) hR.2)) rfl hl.1 rfl (Nat.le_of_ble_eq_true rfl) d_MM_faults_1 ⟨Nat.zero_le _, Nat.zero_le _⟩ (fun H locs hH => ?_)
  refine lv_iload_n hx hb d_MM_faults_4 rfl (lv_at hl 1 rfl) ?_
  refine q_cSi (As := [.int x1]) (rest := [.int (f_MM_placeOf x1)]) S hX hH (c_MM_wideOf l hI M x1 rfl) (cw_MM_231 S.2.2.2.2 (Nat.le_trans (Nat.le_of_ble_eq_true rfl) hR.1) (Nat.le_trans (Nat.le_of_ble_eq_true rfl) hR.2)) rfl hl.1 rfl (Nat.le_of_ble_eq_true rfl) d_MM_faults_5 ⟨Nat.zero_le _, Nat.zero_le _⟩ (fun H locs hH => ?_)
  refine lv_aload_n hx hb d_MM_faults_8 rfl (lv_at hl 0 rfl) ?_
  refine g_MM_9 S hX hH hZ d_MM_faults_9 ?_
  refine lv_bipush (v := (7 : Int32)) hx hb d_MM_faults_12 (by decide) ?_
  refine lv_iload_n hx hb d_MM_faults_14 rfl (lv_at hl 1 rfl) ?_
  refine lv_iadd hx hb d_MM_faults_15 ?_
  obtain ⟨hn3, hf0⟩ := o_in hf0
  refine q_iald (j := ((7 : Int32) + x1).toNatClampNeg) hx hb hX hH (aa_MM_1 hZ) hn3 rfl d_MM_faults_16 ?_
  refine lv_imul hx hb d_MM_faults_17 ?_
  refine lv_iadd hx hb d_MM_faults_18 ?_
  obtain ⟨y4, hy4, hf0⟩ := o_l hf0
  refine lv_nm hy4 ?_
  refine lv_istore (lv' := [(6, .int y4), (0, .ref (Z.2.2.1 0)), (1, .int x1), (2, .int x2), (3, .int x3), (4, .int x4), (5, .int x5)]) hx hb d_MM_faults_19 hl (by decide) rfl (fun ls hl => ?_)
  refine lv_aload_n hx hb d_MM_faults_21 rfl (lv_at hl 1 rfl) ?_
  refine g_MM_9 S hX hH hZ d_MM_faults_22 ?_
  refine lv_iload hx hb d_MM_faults_25 (lv_at hl 0 rfl) ?_
  refine lv_iload_n hx hb d_MM_faults_27 rfl (lv_at hl 3 rfl) ?_
  obtain ⟨hn5, hf0⟩ := o_in hf0
  obtain ⟨M6, hM6, hf0⟩ := o_l hf0
  refine q_iast (j := y4.toNatClampNeg) hx hb hX hI hH (aa_MM_1 hZ) hn5 rfl d_MM_faults_28 (fun H locs hH => ?_)
  rw [hM6] at hH
  refine lv_aload_n hx hb d_MM_faults_29 rfl (lv_at hl 1 rfl) ?_
  refine g_MM_9 S hX hH hZ d_MM_faults_30 ?_
  refine lv_iload hx hb d_MM_faults_33 (lv_at hl 0 rfl) ?_
  refine lv_iconst (v := (1 : Int32)) hx hb d_MM_faults_35 (by decide) ?_
  refine lv_iadd hx hb d_MM_faults_36 ?_
  refine lv_iload_n hx hb d_MM_faults_37 rfl (lv_at hl 4 rfl) ?_
  obtain ⟨hn7, hf0⟩ := o_in hf0
  obtain ⟨M8, hM8, hf0⟩ := o_l hf0
  refine q_iast (j := (y4 + (1 : Int32)).toNatClampNeg) hx hb hX hI hH (aa_MM_1 hZ) hn7 rfl d_MM_faults_38 (fun H locs hH => ?_)
  rw [hM8] at hH
  refine lv_aload_n hx hb d_MM_faults_39 rfl (lv_at hl 1 rfl) ?_
  refine g_MM_9 S hX hH hZ d_MM_faults_40 ?_
  refine lv_iload hx hb d_MM_faults_43 (lv_at hl 0 rfl) ?_
  refine lv_iconst (v := (2 : Int32)) hx hb d_MM_faults_45 (by decide) ?_
  refine lv_iadd hx hb d_MM_faults_46 ?_
  refine lv_iload hx hb d_MM_faults_47 (lv_at hl 5 rfl) ?_
  obtain ⟨hn9, hf0⟩ := o_in hf0
  obtain ⟨M10, hM10, hf0⟩ := o_l hf0
  refine q_iast (j := (y4 + (2 : Int32)).toNatClampNeg) hx hb hX hI hH (aa_MM_1 hZ) hn9 rfl d_MM_faults_49 (fun H locs hH => ?_)
  rw [hM10] at hH
  refine lv_iload_n hx hb d_MM_faults_50 rfl (lv_at hl 2 rfl) ?_
  refine lv_iconst (v := (2 : Int32)) hx hb d_MM_faults_51 (by decide) ?_
  refine lv_icmp_ne (tgt := 66) hx hb d_MM_faults_52 (by decide) (fun hc => ?_) (fun hc => ?_)
  · replace hf0 := o_f hc hf0
    exact J66 _ _ _ _ _ hf0 hH (lv_sub hl [1, 2] rfl)
  · replace hf0 := o_t hc hf0
    refine lv_aload_n hx hb d_MM_faults_55 rfl (lv_at hl 1 rfl) ?_
    refine g_MM_9 S hX hH hZ d_MM_faults_56 ?_
    refine lv_iload hx hb d_MM_faults_59 (lv_at hl 0 rfl) ?_
    refine lv_iconst (v := (3 : Int32)) hx hb d_MM_faults_61 (by decide) ?_
    refine lv_iadd hx hb d_MM_faults_62 ?_
    refine lv_iload hx hb d_MM_faults_63 (lv_at hl 6 rfl) ?_
    obtain ⟨hn11, hf0⟩ := o_in hf0
    obtain ⟨M12, hM12, hf0⟩ := o_l hf0
    refine q_iast (j := (y4 + (3 : Int32)).toNatClampNeg) hx hb hX hI hH (aa_MM_1 hZ) hn11 rfl d_MM_faults_65 (fun H locs hH => ?_)
    rw [hM12] at hH
    exact J66 _ _ _ _ _ hf0 hH (lv_sub hl [1, 2] rfl)
theorem c_MM_faults (l : Launch) {Z : WD} (hI : wI Z) (hZ : IsM Z) (M : Mem) (x1 : Int32) (x2 : Int32) (x3 : Int32) (x4 : Int32) (x5 : Int32) {M' : Mem} (hf : f_MM_faults M x1 x2 x3 x4 x5 = some M') : Cv l Z y_MM_faults b_MM_faults 7 none 1 20 [.ref (Z.2.2.1 0), .int x1, .int x2, .int x3, .int x4, .int x5] M M' := by
  refine Met.ofW (cc := b_MM_faults) (maxL := 7) (ret := none) (by decide) rfl ?_
  intro p e s m args below meth c s₁ B hml hv
  obtain ⟨rfl, hP, hX⟩ := hv
  have S : CallFix p m c b_MM_faults 7 s ([.ref (Z.2.2.1 0), .int x1, .int x2, .int x3, .int x4, .int x5] : List Value).toArray gtb R_MM := ⟨B.exec, B.bytes, hml, findClass_of_methodNamed B.named, fun w hw => atoms_spec (ws := .code y_MM_faults b_MM_faults 7 none :: gtb) B.pre w (List.mem_cons_of_mem _ hw)⟩
  have hl := lv_entry ([.ref (Z.2.2.1 0), .int x1, .int x2, .int x3, .int x4, .int x5]) (n := 7) (Nat.le_of_ble_eq_true rfl)
  rw [lg_entry_eq]
  exact wk_MM_faults hI hZ M x1 x2 x3 x4 x5 S hX ⟨Nat.le_refl _, Nat.le_refl _⟩ (fun pc H locs ls hH d => q_rv S.1 S.2.1 B.returns B.notSynchronized hH rfl d) hf ⟨hP, va_S.rf⟩ hl
theorem cw_MM_244 {R : Room} {s : State} {args : Array Value} (ht : ∀ w ∈ gtb, w.before args s = true) (h1 : 1 + 1 ≤ R.frames) (h2 : 8 + (7 + 11) + 20 ≤ R.locals) : CallW R s args R_MM R_MM 244 y_MM_faultOf b_MM_faultOf 7 (some .int) (.code y_MM_faultOf b_MM_faultOf 7 (some .int) :: gtb) { frames := 1, cells := 0, slots := 0, locals := 20 } 0 0 4 := cwV 4 ht (gV w5_227 w5_229 ws_MM_faultOf w1_10 w5_230) rfl rfl rfl ⟨rfl, by decide, by decide, by decide +kernel⟩ ⟨h1, h2⟩
theorem cw_MM_248 {R : Room} {s : State} {args : Array Value} (ht : ∀ w ∈ gtb, w.before args s = true) (h1 : 1 + 1 ≤ R.frames) (h2 : 8 + (7 + 11) + 20 ≤ R.locals) : CallW R s args R_MM R_MM 248 y_MM_faults b_MM_faults 7 none (.code y_MM_faults b_MM_faults 7 none :: gtb) { frames := 1, cells := 0, slots := 0, locals := 20 } 0 0 5 := cwV 5 ht (gV w5_231 w5_233 ws_MM_faults w1_10 w5_234) rfl rfl rfl ⟨rfl, by decide, by decide, by decide +kernel⟩ ⟨h1, h2⟩
noncomputable def f_MM_adds (M : Mem) (x1 : Int32) (x2 : Int32) (x3 : Int32) (x4 : Int32) (x5 : Int32) : Option (Int32 × Mem) := 
    if (bI (f_MM_in x2.toInt64 (1 : Int64) (8 : Int64))) = 0 then some ((-1 : Int32), M) else 
    if (bI (f_MM_areUnlike M x3 x4)) = 0 then some ((-1 : Int32), M) else 
    if (bI (f_MM_in x5.toInt64 (1 : Int64) (7 : Int64))) = 0 then some ((-1 : Int32), M) else 
    bnd (f_MM_faultOf M x1 x2 x3 x4) (fun y2 => 
    if y2 = (-1 : Int32) then 
    gIn ((7 : Int32) + x1) 302 (if (M 1 ((7 : Int32) + x1).toNatClampNeg) = (12 : Int32) then some ((-3 : Int32), M) else 
    bnd (f_MM_keepsPast M) (fun M5 => 
    bnd (f_MM_faults M5 x1 x2 x3 x4 x5) (fun M7 => some ((M7 1 ((7 : Int32) + x1).toNatClampNeg) - (1 : Int32), M7)))) else some ((-2 : Int32), M))
set_option maxHeartbeats 4000000 in
theorem wk_MM_adds {l : Launch} {Z : WD} (hI : wI Z) (hZ : IsM Z) (M : Mem) (x1 : Int32) (x2 : Int32) (x3 : Int32) (x4 : Int32) (x5 : Int32) {r : Int32} {M' : Mem} {p : Program} {e : Env} {R : Room} {s : State} {m : MethodId} {args : Array Value} {below : List Frame} {meth : Method} {c : Code} {H : Heap} {locs : List Loc} {ls : Array Slot} {Q : State → Prop} (S : CallFix p m c b_MM_adds 6 s args gtb R_MM) (hX : wX Z s) (hR : 3 ≤ R.frames ∧ 68 ≤ R.locals) (hQ : ∀ (pc : Nat) (H : Heap) (locs : List Loc) (ls : Array Slot), HW Z M' s H locs → decode b_MM_adds pc = .ok (.ireturn, 1) → W p l e R s m args below meth c H locs 0 0 Q (F0 m pc ls [.int r])) (hf0 : f_MM_adds M x1 x2 x3 x4 x5 = some (r, M')) (hH : HW Z M s H locs) (hl : lv_has ls 6 [(0, .ref (Z.2.2.1 0)), (1, .int x1), (2, .int x2), (3, .int x3), (4, .int x4), (5, .int x5)]) : W p l e R s m args below meth c H locs 0 0 Q (F0 m 0 ls []) := by
  have hx := S.1
  have hb := S.2.1
  have hown := S.2.2.2.1
  have ht := S.2.2.2.2
  unfold f_MM_adds at hf0
  refine lv_iload_n hx hb d_MM_adds_0 rfl (lv_at hl 2 rfl) ?_
  refine lv_i2l hx hb d_MM_adds_1 rfl ?_
  refine lv_lconst (v := (1 : Int64)) hx hb d_MM_adds_2 (by decide) ?_
  refine lv_ldc2 (v := (8 : Int64)) hx hb hown (ht _ w5_170) d_MM_adds_3 ?_
  refine q_cSi (As := [.long x2.toInt64, .long (1 : Int64), .long (8 : Int64)]) (rest := []) S hX hH (c_MM_in l hI M x2.toInt64 (1 : Int64) (8 : Int64) rfl) (cw_MM_108 S.2.2.2.2 (Nat.le_trans (Nat.le_of_ble_eq_true rfl) hR.1) (Nat.le_trans (Nat.le_of_ble_eq_true rfl) hR.2)) rfl hl.1 rfl (Nat.le_of_ble_eq_true rfl) d_MM_adds_6 ⟨Nat.zero_le _, Nat.zero_le _⟩ (fun H locs hH => ?_)
  refine lv_if_eq (tgt := 35) hx hb d_MM_adds_9 (by decide) (fun hc => ?_) (fun hc => ?_)
  · replace hf0 := o_t hc hf0
    refine lv_iconst (v := (-1 : Int32)) hx hb d_MM_adds_35 (by decide) ?_
    obtain ⟨rfl, rfl⟩ := o_p hf0
    exact hQ _ _ _ _ hH d_MM_adds_36
  · replace hf0 := o_f hc hf0
    refine lv_aload_n hx hb d_MM_adds_12 rfl (lv_at hl 0 rfl) ?_
    refine lv_iload_n hx hb d_MM_adds_13 rfl (lv_at hl 3 rfl) ?_
    refine lv_iload hx hb d_MM_adds_14 (lv_at hl 4 rfl) ?_
    refine q_cVi (As := [.int x3, .int x4]) (rest := []) S hX hH (c_MM_areUnlike l hI hZ M x3 x4 rfl) (cw_MM_224 S.2.2.2.2 (Nat.le_trans (Nat.le_of_ble_eq_true rfl) hR.1) (Nat.le_trans (Nat.le_of_ble_eq_true rfl) hR.2)) (rc_MM hX hH hZ) rfl hl.1 rfl (Nat.le_of_ble_eq_true rfl) d_MM_adds_16 ⟨Nat.zero_le _, Nat.zero_le _⟩ (fun H locs hH => ?_)
    refine lv_if_eq (tgt := 35) hx hb d_MM_adds_19 (by decide) (fun hc => ?_) (fun hc => ?_)
    · replace hf0 := o_t hc hf0
      refine lv_iconst (v := (-1 : Int32)) hx hb d_MM_adds_35 (by decide) ?_
      obtain ⟨rfl, rfl⟩ := o_p hf0
      exact hQ _ _ _ _ hH d_MM_adds_36
    · replace hf0 := o_f hc hf0
      refine lv_iload hx hb d_MM_adds_22 (lv_at hl 5 rfl) ?_
      refine lv_i2l hx hb d_MM_adds_24 rfl ?_
      refine lv_lconst (v := (1 : Int64)) hx hb d_MM_adds_25 (by decide) ?_
      refine lv_ldc2 (v := (7 : Int64)) hx hb hown (ht _ w5_226) d_MM_adds_26 ?_
      refine q_cSi (As := [.long x5.toInt64, .long (1 : Int64), .long (7 : Int64)]) (rest := []) S hX hH (c_MM_in l hI M x5.toInt64 (1 : Int64) (7 : Int64) rfl) (cw_MM_108 S.2.2.2.2 (Nat.le_trans (Nat.le_of_ble_eq_true rfl) hR.1) (Nat.le_trans (Nat.le_of_ble_eq_true rfl) hR.2)) rfl hl.1 rfl (Nat.le_of_ble_eq_true rfl) d_MM_adds_29 ⟨Nat.zero_le _, Nat.zero_le _⟩ (fun H locs hH => ?_)
      refine lv_if_ne (tgt := 37) hx hb d_MM_adds_32 (by decide) (fun hc => ?_) (fun hc => ?_)
      · replace hf0 := o_f hc hf0
        refine lv_aload_n hx hb d_MM_adds_37 rfl (lv_at hl 0 rfl) ?_
        refine lv_iload_n hx hb d_MM_adds_38 rfl (lv_at hl 1 rfl) ?_
        refine lv_iload_n hx hb d_MM_adds_39 rfl (lv_at hl 2 rfl) ?_
        refine lv_iload_n hx hb d_MM_adds_40 rfl (lv_at hl 3 rfl) ?_
        refine lv_iload hx hb d_MM_adds_41 (lv_at hl 4 rfl) ?_
        obtain ⟨y2, hc1, hf0⟩ := o_b hf0
        refine q_cVi (As := [.int x1, .int x2, .int x3, .int x4]) (rest := []) S hX hH (c_MM_faultOf l hI hZ M x1 x2 x3 x4 hc1) (cw_MM_244 S.2.2.2.2 (Nat.le_trans (Nat.le_of_ble_eq_true rfl) hR.1) (Nat.le_trans (Nat.le_of_ble_eq_true rfl) hR.2)) (rc_MM hX hH hZ) rfl hl.1 rfl (Nat.le_of_ble_eq_true rfl) d_MM_adds_43 ⟨Nat.zero_le _, Nat.zero_le _⟩ (fun H locs hH => ?_)
        refine lv_iconst (v := (-1 : Int32)) hx hb d_MM_adds_46 (by decide) ?_
        refine lv_icmp_eq (tgt := 53) hx hb d_MM_adds_47 (by decide) (fun hc => ?_) (fun hc => ?_)
        · replace hf0 := o_t hc hf0
          refine lv_aload_n hx hb d_MM_adds_53 rfl (lv_at hl 0 rfl) ?_
          refine g_MM_9 S hX hH hZ d_MM_adds_54 ?_
          refine lv_bipush (v := (7 : Int32)) hx hb d_MM_adds_57 (by decide) ?_
          refine lv_iload_n hx hb d_MM_adds_59 rfl (lv_at hl 1 rfl) ?_
          refine lv_iadd hx hb d_MM_adds_60 ?_
          obtain ⟨hn3, hf0⟩ := o_in hf0
          refine q_iald (j := ((7 : Int32) + x1).toNatClampNeg) hx hb hX hH (aa_MM_1 hZ) hn3 rfl d_MM_adds_61 ?_
          refine lv_bipush (v := (12 : Int32)) hx hb d_MM_adds_62 (by decide) ?_
          refine lv_icmp_ne (tgt := 70) hx hb d_MM_adds_64 (by decide) (fun hc => ?_) (fun hc => ?_)
          · replace hf0 := o_f hc hf0
            refine lv_aload_n hx hb d_MM_adds_70 rfl (lv_at hl 0 rfl) ?_
            obtain ⟨M5, hc4, hf0⟩ := o_b hf0
            refine q_cVv (As := []) (rest := []) S hX hH (c_MM_keepsPast l hI hZ M hc4) (cw_MM_217 S.2.2.2.2 (Nat.le_trans (Nat.le_of_ble_eq_true rfl) hR.1) (Nat.le_trans (Nat.le_of_ble_eq_true rfl) hR.2)) (rc_MM hX hH hZ) rfl hl.1 rfl (Nat.le_of_ble_eq_true rfl) d_MM_adds_71 ⟨Nat.zero_le _, Nat.zero_le _⟩ (fun H locs hH => ?_)
            refine lv_aload_n hx hb d_MM_adds_74 rfl (lv_at hl 0 rfl) ?_
            refine lv_iload_n hx hb d_MM_adds_75 rfl (lv_at hl 1 rfl) ?_
            refine lv_iload_n hx hb d_MM_adds_76 rfl (lv_at hl 2 rfl) ?_
            refine lv_iload_n hx hb d_MM_adds_77 rfl (lv_at hl 3 rfl) ?_
            refine lv_iload hx hb d_MM_adds_78 (lv_at hl 4 rfl) ?_
            refine lv_iload hx hb d_MM_adds_80 (lv_at hl 5 rfl) ?_
            obtain ⟨M7, hc6, hf0⟩ := o_b hf0
            refine q_cVv (As := [.int x1, .int x2, .int x3, .int x4, .int x5]) (rest := []) S hX hH (c_MM_faults l hI hZ M5 x1 x2 x3 x4 x5 hc6) (cw_MM_248 S.2.2.2.2 (Nat.le_trans (Nat.le_of_ble_eq_true rfl) hR.1) (Nat.le_trans (Nat.le_of_ble_eq_true rfl) hR.2)) (rc_MM hX hH hZ) rfl hl.1 rfl (Nat.le_of_ble_eq_true rfl) d_MM_adds_82 ⟨Nat.zero_le _, Nat.zero_le _⟩ (fun H locs hH => ?_)
            refine lv_aload_n hx hb d_MM_adds_85 rfl (lv_at hl 0 rfl) ?_
            refine g_MM_9 S hX hH hZ d_MM_adds_86 ?_
            refine lv_bipush (v := (7 : Int32)) hx hb d_MM_adds_89 (by decide) ?_
            refine lv_iload_n hx hb d_MM_adds_91 rfl (lv_at hl 1 rfl) ?_
            refine lv_iadd hx hb d_MM_adds_92 ?_
            refine q_iald (j := ((7 : Int32) + x1).toNatClampNeg) hx hb hX hH (aa_MM_1 hZ) hn3 rfl d_MM_adds_93 ?_
            refine lv_iconst (v := (1 : Int32)) hx hb d_MM_adds_94 (by decide) ?_
            refine lv_isub hx hb d_MM_adds_95 ?_
            obtain ⟨rfl, rfl⟩ := o_p hf0
            exact hQ _ _ _ _ hH d_MM_adds_96
          · replace hf0 := o_t hc hf0
            refine lv_bipush (v := (-3 : Int32)) hx hb d_MM_adds_67 (by decide) ?_
            obtain ⟨rfl, rfl⟩ := o_p hf0
            exact hQ _ _ _ _ hH d_MM_adds_69
        · replace hf0 := o_f hc hf0
          refine lv_bipush (v := (-2 : Int32)) hx hb d_MM_adds_50 (by decide) ?_
          obtain ⟨rfl, rfl⟩ := o_p hf0
          exact hQ _ _ _ _ hH d_MM_adds_52
      · replace hf0 := o_t hc hf0
        refine lv_iconst (v := (-1 : Int32)) hx hb d_MM_adds_35 (by decide) ?_
        obtain ⟨rfl, rfl⟩ := o_p hf0
        exact hQ _ _ _ _ hH d_MM_adds_36
theorem c_MM_adds (l : Launch) {Z : WD} (hI : wI Z) (hZ : IsM Z) (M : Mem) (x1 : Int32) (x2 : Int32) (x3 : Int32) (x4 : Int32) (x5 : Int32) {r : Int32} {M' : Mem} (hf : f_MM_adds M x1 x2 x3 x4 x5 = some (r, M')) : Ci l Z y_MM_adds b_MM_adds 6 (some .int) 3 68 [.ref (Z.2.2.1 0), .int x1, .int x2, .int x3, .int x4, .int x5] M M' r := by
  refine Met.ofW (cc := b_MM_adds) (maxL := 6) (ret := (some .int)) (by decide) rfl ?_
  intro p e s m args below meth c s₁ B hml hv
  obtain ⟨rfl, hP, hX⟩ := hv
  have S : CallFix p m c b_MM_adds 6 s ([.ref (Z.2.2.1 0), .int x1, .int x2, .int x3, .int x4, .int x5] : List Value).toArray gtb R_MM := ⟨B.exec, B.bytes, hml, findClass_of_methodNamed B.named, fun w hw => atoms_spec (ws := .code y_MM_adds b_MM_adds 6 (some .int) :: gtb) B.pre w (List.mem_cons_of_mem _ hw)⟩
  have hl := lv_entry ([.ref (Z.2.2.1 0), .int x1, .int x2, .int x3, .int x4, .int x5]) (n := 6) (Nat.le_of_ble_eq_true rfl)
  rw [lg_entry_eq]
  exact wk_MM_adds hI hZ M x1 x2 x3 x4 x5 S hX ⟨Nat.le_refl _, Nat.le_refl _⟩ (fun pc H locs ls hH d => q_ri S.1 S.2.1 B.returns B.notSynchronized hH rfl rfl d) hf ⟨hP, va_S.rf⟩ hl
theorem cw_MM_251 {R : Room} {s : State} {args : Array Value} (ht : ∀ w ∈ gtb, w.before args s = true) (h1 : 3 + 1 ≤ R.frames) (h2 : 8 + (6 + 11) + 68 ≤ R.locals) : CallW R s args R_MM R_MM 251 y_MM_adds b_MM_adds 6 (some .int) (.code y_MM_adds b_MM_adds 6 (some .int) :: gtb) { frames := 3, cells := 0, slots := 0, locals := 68 } 0 0 5 := cwV 5 ht (gV w5_222 w5_224 ws_MM_adds w1_10 w5_225) rfl rfl rfl ⟨rfl, by decide, by decide, by decide +kernel⟩ ⟨h1, h2⟩
noncomputable def f_MM_omit (M : Mem) (x1 : Int32) (x2 : Int32) (x3 : Int32) : Option (Int32 × Mem) := bnd2 (f_MM_adds M (1 : Int32) x1 x2 x3 (1 : Int32)) (fun y3 M2 => some (y3, M2))
set_option maxHeartbeats 4000000 in
theorem wk_MM_omit {l : Launch} {Z : WD} (hI : wI Z) (hZ : IsM Z) (M : Mem) (x1 : Int32) (x2 : Int32) (x3 : Int32) {r : Int32} {M' : Mem} {p : Program} {e : Env} {R : Room} {s : State} {m : MethodId} {args : Array Value} {below : List Frame} {meth : Method} {c : Code} {H : Heap} {locs : List Loc} {ls : Array Slot} {Q : State → Prop} (S : CallFix p m c b_MM_omit 4 s args gtb R_MM) (hX : wX Z s) (hR : 4 ≤ R.frames ∧ 93 ≤ R.locals) (hQ : ∀ (pc : Nat) (H : Heap) (locs : List Loc) (ls : Array Slot), HW Z M' s H locs → decode b_MM_omit pc = .ok (.ireturn, 1) → W p l e R s m args below meth c H locs 0 0 Q (F0 m pc ls [.int r])) (hf0 : f_MM_omit M x1 x2 x3 = some (r, M')) (hH : HW Z M s H locs) (hl : lv_has ls 4 [(0, .ref (Z.2.2.1 0)), (1, .int x1), (2, .int x2), (3, .int x3)]) : W p l e R s m args below meth c H locs 0 0 Q (F0 m 0 ls []) := by
  have hx := S.1
  have hb := S.2.1
  have hown := S.2.2.2.1
  have ht := S.2.2.2.2
  unfold f_MM_omit at hf0
  refine lv_aload_n hx hb d_MM_omit_0 rfl (lv_at hl 0 rfl) ?_
  refine lv_iconst (v := (1 : Int32)) hx hb d_MM_omit_1 (by decide) ?_
  refine lv_iload_n hx hb d_MM_omit_2 rfl (lv_at hl 1 rfl) ?_
  refine lv_iload_n hx hb d_MM_omit_3 rfl (lv_at hl 2 rfl) ?_
  refine lv_iload_n hx hb d_MM_omit_4 rfl (lv_at hl 3 rfl) ?_
  refine lv_iconst (v := (1 : Int32)) hx hb d_MM_omit_5 (by decide) ?_
  obtain ⟨y3, M2, hc1, hf0⟩ := o_b2 hf0
  refine q_cVi (As := [.int (1 : Int32), .int x1, .int x2, .int x3, .int (1 : Int32)]) (rest := []) S hX hH (c_MM_adds l hI hZ M (1 : Int32) x1 x2 x3 (1 : Int32) hc1) (cw_MM_251 S.2.2.2.2 (Nat.le_trans (Nat.le_of_ble_eq_true rfl) hR.1) (Nat.le_trans (Nat.le_of_ble_eq_true rfl) hR.2)) (rc_MM hX hH hZ) rfl hl.1 rfl (Nat.le_of_ble_eq_true rfl) d_MM_omit_6 ⟨Nat.zero_le _, Nat.zero_le _⟩ (fun H locs hH => ?_)
  obtain ⟨rfl, rfl⟩ := o_p hf0
  exact hQ _ _ _ _ hH d_MM_omit_9
theorem c_MM_omit (l : Launch) {Z : WD} (hI : wI Z) (hZ : IsM Z) (M : Mem) (x1 : Int32) (x2 : Int32) (x3 : Int32) {r : Int32} {M' : Mem} (hf : f_MM_omit M x1 x2 x3 = some (r, M')) : Ci l Z y_MM_omit b_MM_omit 4 (some .int) 4 93 [.ref (Z.2.2.1 0), .int x1, .int x2, .int x3] M M' r := by
  refine Met.ofW (cc := b_MM_omit) (maxL := 4) (ret := (some .int)) (by decide) rfl ?_
  intro p e s m args below meth c s₁ B hml hv
  obtain ⟨rfl, hP, hX⟩ := hv
  have S : CallFix p m c b_MM_omit 4 s ([.ref (Z.2.2.1 0), .int x1, .int x2, .int x3] : List Value).toArray gtb R_MM := ⟨B.exec, B.bytes, hml, findClass_of_methodNamed B.named, fun w hw => atoms_spec (ws := .code y_MM_omit b_MM_omit 4 (some .int) :: gtb) B.pre w (List.mem_cons_of_mem _ hw)⟩
  have hl := lv_entry ([.ref (Z.2.2.1 0), .int x1, .int x2, .int x3]) (n := 4) (Nat.le_of_ble_eq_true rfl)
  rw [lg_entry_eq]
  exact wk_MM_omit hI hZ M x1 x2 x3 S hX ⟨Nat.le_refl _, Nat.le_refl _⟩ (fun pc H locs ls hH d => q_ri S.1 S.2.1 B.returns B.notSynchronized hH rfl rfl d) hf ⟨hP, va_S.rf⟩ hl
noncomputable def f_MM_late (M : Mem) (x1 : Int32) (x2 : Int32) (x3 : Int32) (x4 : Int32) : Option (Int32 × Mem) := bnd2 (f_MM_adds M (2 : Int32) x1 x2 x3 x4) (fun y3 M2 => some (y3, M2))
set_option maxHeartbeats 4000000 in
theorem wk_MM_late {l : Launch} {Z : WD} (hI : wI Z) (hZ : IsM Z) (M : Mem) (x1 : Int32) (x2 : Int32) (x3 : Int32) (x4 : Int32) {r : Int32} {M' : Mem} {p : Program} {e : Env} {R : Room} {s : State} {m : MethodId} {args : Array Value} {below : List Frame} {meth : Method} {c : Code} {H : Heap} {locs : List Loc} {ls : Array Slot} {Q : State → Prop} (S : CallFix p m c b_MM_late 5 s args gtb R_MM) (hX : wX Z s) (hR : 4 ≤ R.frames ∧ 93 ≤ R.locals) (hQ : ∀ (pc : Nat) (H : Heap) (locs : List Loc) (ls : Array Slot), HW Z M' s H locs → decode b_MM_late pc = .ok (.ireturn, 1) → W p l e R s m args below meth c H locs 0 0 Q (F0 m pc ls [.int r])) (hf0 : f_MM_late M x1 x2 x3 x4 = some (r, M')) (hH : HW Z M s H locs) (hl : lv_has ls 5 [(0, .ref (Z.2.2.1 0)), (1, .int x1), (2, .int x2), (3, .int x3), (4, .int x4)]) : W p l e R s m args below meth c H locs 0 0 Q (F0 m 0 ls []) := by
  have hx := S.1
  have hb := S.2.1
  have hown := S.2.2.2.1
  have ht := S.2.2.2.2
  unfold f_MM_late at hf0
  refine lv_aload_n hx hb d_MM_late_0 rfl (lv_at hl 0 rfl) ?_
  refine lv_iconst (v := (2 : Int32)) hx hb d_MM_late_1 (by decide) ?_
  refine lv_iload_n hx hb d_MM_late_2 rfl (lv_at hl 1 rfl) ?_
  refine lv_iload_n hx hb d_MM_late_3 rfl (lv_at hl 2 rfl) ?_
  refine lv_iload_n hx hb d_MM_late_4 rfl (lv_at hl 3 rfl) ?_
  refine lv_iload hx hb d_MM_late_5 (lv_at hl 4 rfl) ?_
  obtain ⟨y3, M2, hc1, hf0⟩ := o_b2 hf0
  refine q_cVi (As := [.int (2 : Int32), .int x1, .int x2, .int x3, .int x4]) (rest := []) S hX hH (c_MM_adds l hI hZ M (2 : Int32) x1 x2 x3 x4 hc1) (cw_MM_251 S.2.2.2.2 (Nat.le_trans (Nat.le_of_ble_eq_true rfl) hR.1) (Nat.le_trans (Nat.le_of_ble_eq_true rfl) hR.2)) (rc_MM hX hH hZ) rfl hl.1 rfl (Nat.le_of_ble_eq_true rfl) d_MM_late_7 ⟨Nat.zero_le _, Nat.zero_le _⟩ (fun H locs hH => ?_)
  obtain ⟨rfl, rfl⟩ := o_p hf0
  exact hQ _ _ _ _ hH d_MM_late_10
theorem c_MM_late (l : Launch) {Z : WD} (hI : wI Z) (hZ : IsM Z) (M : Mem) (x1 : Int32) (x2 : Int32) (x3 : Int32) (x4 : Int32) {r : Int32} {M' : Mem} (hf : f_MM_late M x1 x2 x3 x4 = some (r, M')) : Ci l Z y_MM_late b_MM_late 5 (some .int) 4 93 [.ref (Z.2.2.1 0), .int x1, .int x2, .int x3, .int x4] M M' r := by
  refine Met.ofW (cc := b_MM_late) (maxL := 5) (ret := (some .int)) (by decide) rfl ?_
  intro p e s m args below meth c s₁ B hml hv
  obtain ⟨rfl, hP, hX⟩ := hv
  have S : CallFix p m c b_MM_late 5 s ([.ref (Z.2.2.1 0), .int x1, .int x2, .int x3, .int x4] : List Value).toArray gtb R_MM := ⟨B.exec, B.bytes, hml, findClass_of_methodNamed B.named, fun w hw => atoms_spec (ws := .code y_MM_late b_MM_late 5 (some .int) :: gtb) B.pre w (List.mem_cons_of_mem _ hw)⟩
  have hl := lv_entry ([.ref (Z.2.2.1 0), .int x1, .int x2, .int x3, .int x4]) (n := 5) (Nat.le_of_ble_eq_true rfl)
  rw [lg_entry_eq]
  exact wk_MM_late hI hZ M x1 x2 x3 x4 S hX ⟨Nat.le_refl _, Nat.le_refl _⟩ (fun pc H locs ls hH d => q_ri S.1 S.2.1 B.returns B.notSynchronized hH rfl rfl d) hf ⟨hP, va_S.rf⟩ hl
theorem cw_MM_255 {R : Room} {s : State} {args : Array Value} (ht : ∀ w ∈ gtb, w.before args s = true) (h1 : 0 + 1 ≤ R.frames) (h2 : 8 + (1 + 11) + 0 ≤ R.locals) : CallB R s args R_MM 255 y_Int_bitCount b_Int_bitCount 1 (some .int) (.code y_Int_bitCount b_Int_bitCount 1 (some .int) :: gtb) { frames := 0, cells := 0, slots := 0, locals := 0 } 0 0 1 ∧ (Cond.static y_Int_bitCount).before args s = true := va_cwS 1 ht (gS w6_3 w3_127 w1_15 w3_128) rfl rfl rfl ⟨by decide, by decide, by decide +kernel⟩ ⟨h1, h2⟩
noncomputable def f_MM_attack_L136 (x1 : Int32) (x3 : Int32) (x4 : Int32) (M : Mem) : Option ((Int32 × Int32 × Mem) ⊕ (Int32 × Mem)) := if (M 1 3) ≤ x3 then 
    gIn (x3 - (1 : Int32)) 8 (bnd (f_MM_plans M (M 1 3) (M 8 (x3 - (1 : Int32)).toNatClampNeg) x1 (((M 1 4) + (1 : Int32)) - ((M 1 4) + (1 : Int32)) / (4 : Int32) * (4 : Int32)) x3) (fun M3 => some (.inr (x3, M3)))) else 
    if (bI (f_MM_isLiar M x4)) = 0 then some (.inl (x3, x4 + (1 : Int32), M)) else 
    if x4 = (M 1 1) then some (.inl (x3, x4 + (1 : Int32), M)) else 
    gIn x3 8 (lt1 (upM M 8 x3.toNatClampNeg x4) (fun M5 => some (.inl (x3 + (1 : Int32), x4 + (1 : Int32), M5))))
noncomputable def f_MM_attack_W136 (x1 : Int32) (u : (Int32 × Int32 × Mem)) : Option (Int32 × Mem) := loop (fun t => f_MM_attack_L136 x1 t.1 t.2.1 t.2.2) u
noncomputable def f_MM_attack_J136 (M : Mem) (x1 : Int32) (x3 : Int32) (x4 : Int32) : Option (Int32 × Mem) := bnd (f_MM_attack_W136 x1 (x3, x4, M)) (fun e136 => some e136)
noncomputable def f_MM_attack_J56 (M : Mem) (x1 : Int32) (x3 : Int32) (s0 : Int32) (s1 : Int32) : Option ((Int32 × Int32 × Int32) ⊕ (Int32 × Int32)) := some (.inl (x1, s1 + (f_MM_truth s0), x3 + (-1 : Int32)))
noncomputable def f_MM_attack_J41 (M : Mem) (x2 : Int32) (x3 : Int32) (s0 : Int32) : Option ((Int32 × Int32 × Int32) ⊕ (Int32 × Int32)) := if (bI (f_MM_isLiar M x3)) = 0 then f_MM_attack_J56 M s0 x3 (1 : Int32) x2 else f_MM_attack_J56 M s0 x3 (0 : Int32) x2
noncomputable def f_MM_attack_L24 (M : Mem) (x1 : Int32) (x2 : Int32) (x3 : Int32) : Option ((Int32 × Int32 × Int32) ⊕ (Int32 × Int32)) := if x3 < 0 then some (.inr (x1, x2)) else if (bI (f_MM_isLiar M x3)) = 0 then f_MM_attack_J41 M x2 x3 x3 else f_MM_attack_J41 M x2 x3 x1
noncomputable def f_MM_attack_W24 (M : Mem) (u : (Int32 × Int32 × Int32)) : Option (Int32 × Int32) := loop (fun t => f_MM_attack_L24 M t.1 t.2.1 t.2.2) u
noncomputable def f_MM_attack_J24 (M : Mem) (x1 : Int32) (x2 : Int32) (x3 : Int32) : Option (Int32 × Mem) := bnd (f_MM_attack_W24 M (x1, x2, x3)) (fun e24 => if (bI (f_MM_isLiar M (M 1 1))) = 0 then some ((-2 : Int32), M) else 
    if (f_Int_bitCount (M 1 6)) < (M 1 3) then some ((-2 : Int32), M) else 
    if (2 : Int32) ≤ e24.2 then 
    bnd (f_MM_keepsPast M) (fun M7 => 
    lt1 (upM M7 1 7 (0 : Int32)) (fun M8 => lt1 (upM M8 8 0 (M8 1 1)) (fun M9 => f_MM_attack_J136 M9 e24.1 (1 : Int32) (0 : Int32)))) else some ((-2 : Int32), M))
noncomputable def f_MM_attack (M : Mem) : Option (Int32 × Mem) := 
    if (M 1 0) = 0 then some ((-1 : Int32), M) else f_MM_attack_J24 M (-1 : Int32) (0 : Int32) ((M 1 0) - (1 : Int32))
set_option maxHeartbeats 4000000 in
theorem wk_MM_attack {l : Launch} {Z : WD} (hI : wI Z) (hZ : IsM Z) (M : Mem) {r : Int32} {M' : Mem} {p : Program} {e : Env} {R : Room} {s : State} {m : MethodId} {args : Array Value} {below : List Frame} {meth : Method} {c : Code} {H : Heap} {locs : List Loc} {ls : Array Slot} {Q : State → Prop} (S : CallFix p m c b_MM_attack 5 s args gtb R_MM) (hX : wX Z s) (hR : 2 ≤ R.frames ∧ 45 ≤ R.locals) (hQ : ∀ (pc : Nat) (H : Heap) (locs : List Loc) (ls : Array Slot), HW Z M' s H locs → decode b_MM_attack pc = .ok (.ireturn, 1) → W p l e R s m args below meth c H locs 0 0 Q (F0 m pc ls [.int r])) (hf0 : f_MM_attack M = some (r, M')) (hH : HW Z M s H locs) (hl : lv_has ls 5 [(0, .ref (Z.2.2.1 0))]) : W p l e R s m args below meth c H locs 0 0 Q (F0 m 0 ls []) := by
  have hx := S.1
  have hb := S.2.1
  have hown := S.2.2.2.1
  have ht := S.2.2.2.2
  unfold f_MM_attack at hf0
  have J136 : ∀ (M : Mem) (x1 : Int32) (x3 : Int32) (x4 : Int32) (H : Heap) (locs : List Loc) (ls : Array Slot), f_MM_attack_J136 M x1 x3 x4 = some (r, M') → HW Z M s H locs → lv_has ls 5 [(0, .ref (Z.2.2.1 0)), (1, .int x1), (3, .int x3), (4, .int x4)] → W p l e R s m args below meth c H locs 0 0 Q (F0 m 136 ls []) := by
    intro M x1 x3 x4 H locs ls hf0 hH hl
    unfold f_MM_attack_J136 at hf0
    obtain ⟨e136, he136, hf0⟩ := o_b hf0
    unfold f_MM_attack_W136 at he136
    refine loop_W (fun t => ∀ (H : Heap) (locs : List Loc) (ls : Array Slot), HW Z t.2.2 s H locs → lv_has ls 5 [(0, .ref (Z.2.2.1 0)), (1, .int x1), (3, .int t.1), (4, .int t.2.1)] → W p l e R s m args below meth c H locs 0 0 Q (F0 m 136 ls [])) ?_ he136 H locs ls hH hl
    rintro ⟨x3, x4, M⟩ o1 hf1 hG1 hR1 H locs ls hH hl
    replace hH : HW Z M s H locs := hH
    replace hl : lv_has ls 5 [(0, .ref (Z.2.2.1 0)), (1, .int x1), (3, .int x3), (4, .int x4)] := hl
    replace hf1 : f_MM_attack_L136 x1 x3 x4 M = some o1 := hf1
    unfold f_MM_attack_L136 at hf1
    refine lv_iload_n hx hb d_MM_attack_136 rfl (lv_at hl 2 rfl) ?_
    refine lv_aload_n hx hb d_MM_attack_137 rfl (lv_at hl 0 rfl) ?_
    refine g_MM_9 S hX hH hZ d_MM_attack_138 ?_
    refine lv_iconst (v := (3 : Int32)) hx hb d_MM_attack_141 (by decide) ?_
    refine q_iald (j := 3) hx hb hX hH (aa_MM_1 hZ) (vp_c (by decide)) (by decide) d_MM_attack_142 ?_
    refine lv_icmp_ge (tgt := 183) hx hb d_MM_attack_143 (by decide) (fun hc => ?_) (fun hc => ?_)
    · replace hf1 := o_t hc hf1
      refine lv_aload_n hx hb d_MM_attack_183 rfl (lv_at hl 0 rfl) ?_
      refine lv_aload_n hx hb d_MM_attack_184 rfl (lv_at hl 0 rfl) ?_
      refine g_MM_9 S hX hH hZ d_MM_attack_185 ?_
      refine lv_iconst (v := (3 : Int32)) hx hb d_MM_attack_188 (by decide) ?_
      refine q_iald (j := 3) hx hb hX hH (aa_MM_1 hZ) (vp_c (by decide)) (by decide) d_MM_attack_189 ?_
      refine lv_aload_n hx hb d_MM_attack_190 rfl (lv_at hl 0 rfl) ?_
      refine g_MM_33 S hX hH hZ d_MM_attack_191 ?_
      refine lv_iload_n hx hb d_MM_attack_194 rfl (lv_at hl 2 rfl) ?_
      refine lv_iconst (v := (1 : Int32)) hx hb d_MM_attack_195 (by decide) ?_
      refine lv_isub hx hb d_MM_attack_196 ?_
      obtain ⟨hn1, hf1⟩ := o_in hf1
      refine q_iald (j := (x3 - (1 : Int32)).toNatClampNeg) hx hb hX hH (aa_MM_8 hZ) hn1 rfl d_MM_attack_197 ?_
      refine lv_iload_n hx hb d_MM_attack_198 rfl (lv_at hl 1 rfl) ?_
      refine lv_aload_n hx hb d_MM_attack_199 rfl (lv_at hl 0 rfl) ?_
      refine g_MM_9 S hX hH hZ d_MM_attack_200 ?_
      refine lv_iconst (v := (4 : Int32)) hx hb d_MM_attack_203 (by decide) ?_
      refine q_iald (j := 4) hx hb hX hH (aa_MM_1 hZ) (vp_c (by decide)) (by decide) d_MM_attack_204 ?_
      refine lv_iconst (v := (1 : Int32)) hx hb d_MM_attack_205 (by decide) ?_
      refine lv_iadd hx hb d_MM_attack_206 ?_
      refine lv_iconst (v := (4 : Int32)) hx hb d_MM_attack_207 (by decide) ?_
      refine lv_irem hx hb d_MM_attack_208 (by decide) ?_
      refine lv_iload_n hx hb d_MM_attack_209 rfl (lv_at hl 2 rfl) ?_
      obtain ⟨M3, hc2, hf1⟩ := o_b hf1
      refine q_cVv (As := [.int (M 1 3), .int (M 8 (x3 - (1 : Int32)).toNatClampNeg), .int x1, .int (((M 1 4) + (1 : Int32)) - ((M 1 4) + (1 : Int32)) / (4 : Int32) * (4 : Int32)), .int x3]) (rest := []) S hX hH (c_MM_plans l hI hZ M (M 1 3) (M 8 (x3 - (1 : Int32)).toNatClampNeg) x1 (((M 1 4) + (1 : Int32)) - ((M 1 4) + (1 : Int32)) / (4 : Int32) * (4 : Int32)) x3 hc2) (cw_MM_227 S.2.2.2.2 (Nat.le_trans (Nat.le_of_ble_eq_true rfl) hR.1) (Nat.le_trans (Nat.le_of_ble_eq_true rfl) hR.2)) (rc_MM hX hH hZ) rfl hl.1 rfl (Nat.le_of_ble_eq_true rfl) d_MM_attack_210 ⟨Nat.zero_le _, Nat.zero_le _⟩ (fun H locs hH => ?_)
      refine lv_iload_n hx hb d_MM_attack_213 rfl (lv_at hl 2 rfl) ?_
      obtain rfl := hR1 _ (o_v hf1).symm
      obtain ⟨rfl, rfl⟩ := o_p hf0
      exact hQ _ _ _ _ hH d_MM_attack_214
    · replace hf1 := o_f hc hf1
      refine lv_aload_n hx hb d_MM_attack_146 rfl (lv_at hl 0 rfl) ?_
      refine lv_iload hx hb d_MM_attack_147 (lv_at hl 3 rfl) ?_
      refine q_cVi (As := [.int x4]) (rest := []) S hX hH (c_MM_isLiar l hI hZ M x4 rfl) (cw_MM_205 S.2.2.2.2 (Nat.le_trans (Nat.le_of_ble_eq_true rfl) hR.1) (Nat.le_trans (Nat.le_of_ble_eq_true rfl) hR.2)) (rc_MM hX hH hZ) rfl hl.1 rfl (Nat.le_of_ble_eq_true rfl) d_MM_attack_149 ⟨Nat.zero_le _, Nat.zero_le _⟩ (fun H locs hH => ?_)
      refine lv_if_eq (tgt := 177) hx hb d_MM_attack_152 (by decide) (fun hc => ?_) (fun hc => ?_)
      · replace hf1 := o_t hc hf1
        refine lv_iinc (v := x4 + (1 : Int32)) (lv' := [(4, .int (x4 + (1 : Int32))), (0, .ref (Z.2.2.1 0)), (1, .int x1), (3, .int x3)]) hx hb d_MM_attack_177 hl (k := 3) rfl rfl (by decide) rfl (fun ls hl => ?_)
        refine lv_goto (tgt := 136) hx hb d_MM_attack_180 (by decide) ?_
        exact hG1 _ (o_v hf1).symm _ _ _ hH (lv_sub hl [1, 2, 3, 0] rfl)
      · replace hf1 := o_f hc hf1
        refine lv_iload hx hb d_MM_attack_155 (lv_at hl 3 rfl) ?_
        refine lv_aload_n hx hb d_MM_attack_157 rfl (lv_at hl 0 rfl) ?_
        refine g_MM_9 S hX hH hZ d_MM_attack_158 ?_
        refine lv_iconst (v := (1 : Int32)) hx hb d_MM_attack_161 (by decide) ?_
        refine q_iald (j := 1) hx hb hX hH (aa_MM_1 hZ) (vp_c (by decide)) (by decide) d_MM_attack_162 ?_
        refine lv_icmp_eq (tgt := 177) hx hb d_MM_attack_163 (by decide) (fun hc => ?_) (fun hc => ?_)
        · replace hf1 := o_t hc hf1
          refine lv_iinc (v := x4 + (1 : Int32)) (lv' := [(4, .int (x4 + (1 : Int32))), (0, .ref (Z.2.2.1 0)), (1, .int x1), (3, .int x3)]) hx hb d_MM_attack_177 hl (k := 3) rfl rfl (by decide) rfl (fun ls hl => ?_)
          refine lv_goto (tgt := 136) hx hb d_MM_attack_180 (by decide) ?_
          exact hG1 _ (o_v hf1).symm _ _ _ hH (lv_sub hl [1, 2, 3, 0] rfl)
        · replace hf1 := o_f hc hf1
          refine lv_aload_n hx hb d_MM_attack_166 rfl (lv_at hl 0 rfl) ?_
          refine g_MM_33 S hX hH hZ d_MM_attack_167 ?_
          refine lv_iload_n hx hb d_MM_attack_170 rfl (lv_at hl 2 rfl) ?_
          refine lv_iload hx hb d_MM_attack_171 (lv_at hl 3 rfl) ?_
          obtain ⟨hn4, hf1⟩ := o_in hf1
          obtain ⟨M5, hM5, hf1⟩ := o_l hf1
          refine q_iast (j := x3.toNatClampNeg) hx hb hX hI hH (aa_MM_8 hZ) hn4 rfl d_MM_attack_173 (fun H locs hH => ?_)
          rw [hM5] at hH
          refine lv_iinc (v := x3 + (1 : Int32)) (lv' := [(3, .int (x3 + (1 : Int32))), (0, .ref (Z.2.2.1 0)), (1, .int x1), (4, .int x4)]) hx hb d_MM_attack_174 hl (k := 2) rfl rfl (by decide) rfl (fun ls hl => ?_)
          refine lv_iinc (v := x4 + (1 : Int32)) (lv' := [(4, .int (x4 + (1 : Int32))), (3, .int (x3 + (1 : Int32))), (0, .ref (Z.2.2.1 0)), (1, .int x1)]) hx hb d_MM_attack_177 hl (k := 3) rfl rfl (by decide) rfl (fun ls hl => ?_)
          refine lv_goto (tgt := 136) hx hb d_MM_attack_180 (by decide) ?_
          exact hG1 _ (o_v hf1).symm _ _ _ hH (lv_sub hl [2, 3, 1, 0] rfl)
  have J24 : ∀ (M : Mem) (x1 : Int32) (x2 : Int32) (x3 : Int32) (H : Heap) (locs : List Loc) (ls : Array Slot), f_MM_attack_J24 M x1 x2 x3 = some (r, M') → HW Z M s H locs → lv_has ls 5 [(0, .ref (Z.2.2.1 0)), (1, .int x1), (2, .int x2), (3, .int x3)] → W p l e R s m args below meth c H locs 0 0 Q (F0 m 24 ls []) := by
    intro M x1 x2 x3 H locs ls hf0 hH hl
    unfold f_MM_attack_J24 at hf0
    obtain ⟨e24, he24, hf0⟩ := o_b hf0
    have KX24 : ∀ (H : Heap) (locs : List Loc) (ls : Array Slot), HW Z M s H locs → lv_has ls 5 [(0, .ref (Z.2.2.1 0)), (1, .int e24.1), (2, .int e24.2)] → W p l e R s m args below meth c H locs 0 0 Q (F0 m 67 ls []) := by
      intro H locs ls hH hl
      refine lv_aload_n hx hb d_MM_attack_67 rfl (lv_at hl 0 rfl) ?_
      refine lv_aload_n hx hb d_MM_attack_68 rfl (lv_at hl 0 rfl) ?_
      refine g_MM_9 S hX hH hZ d_MM_attack_69 ?_
      refine lv_iconst (v := (1 : Int32)) hx hb d_MM_attack_72 (by decide) ?_
      refine q_iald (j := 1) hx hb hX hH (aa_MM_1 hZ) (vp_c (by decide)) (by decide) d_MM_attack_73 ?_
      refine q_cVi (As := [.int (M 1 1)]) (rest := []) S hX hH (c_MM_isLiar l hI hZ M (M 1 1) rfl) (cw_MM_205 S.2.2.2.2 (Nat.le_trans (Nat.le_of_ble_eq_true rfl) hR.1) (Nat.le_trans (Nat.le_of_ble_eq_true rfl) hR.2)) (rc_MM hX hH hZ) rfl hl.1 rfl (Nat.le_of_ble_eq_true rfl) d_MM_attack_74 ⟨Nat.zero_le _, Nat.zero_le _⟩ (fun H locs hH => ?_)
      refine lv_if_eq (tgt := 104) hx hb d_MM_attack_77 (by decide) (fun hc => ?_) (fun hc => ?_)
      · replace hf0 := o_t hc hf0
        refine lv_bipush (v := (-2 : Int32)) hx hb d_MM_attack_104 (by decide) ?_
        obtain ⟨rfl, rfl⟩ := o_p hf0
        exact hQ _ _ _ _ hH d_MM_attack_106
      · replace hf0 := o_f hc hf0
        refine lv_aload_n hx hb d_MM_attack_80 rfl (lv_at hl 0 rfl) ?_
        refine g_MM_9 S hX hH hZ d_MM_attack_81 ?_
        refine lv_bipush (v := (6 : Int32)) hx hb d_MM_attack_84 (by decide) ?_
        refine q_iald (j := 6) hx hb hX hH (aa_MM_1 hZ) (vp_c (by decide)) (by decide) d_MM_attack_86 ?_
        refine q_cSi (As := [.int (M 1 6)]) (rest := []) S hX hH (c_Int_bitCount l hI M (M 1 6) rfl) (cw_MM_255 S.2.2.2.2 (Nat.le_trans (Nat.le_of_ble_eq_true rfl) hR.1) (Nat.le_trans (Nat.le_of_ble_eq_true rfl) hR.2)) rfl hl.1 rfl (Nat.le_of_ble_eq_true rfl) d_MM_attack_87 ⟨Nat.zero_le _, Nat.zero_le _⟩ (fun H locs hH => ?_)
        refine lv_aload_n hx hb d_MM_attack_90 rfl (lv_at hl 0 rfl) ?_
        refine g_MM_9 S hX hH hZ d_MM_attack_91 ?_
        refine lv_iconst (v := (3 : Int32)) hx hb d_MM_attack_94 (by decide) ?_
        refine q_iald (j := 3) hx hb hX hH (aa_MM_1 hZ) (vp_c (by decide)) (by decide) d_MM_attack_95 ?_
        refine lv_icmp_lt (tgt := 104) hx hb d_MM_attack_96 (by decide) (fun hc => ?_) (fun hc => ?_)
        · replace hf0 := o_t hc hf0
          refine lv_bipush (v := (-2 : Int32)) hx hb d_MM_attack_104 (by decide) ?_
          obtain ⟨rfl, rfl⟩ := o_p hf0
          exact hQ _ _ _ _ hH d_MM_attack_106
        · replace hf0 := o_f hc hf0
          refine lv_iload_n hx hb d_MM_attack_99 rfl (lv_at hl 2 rfl) ?_
          refine lv_iconst (v := (2 : Int32)) hx hb d_MM_attack_100 (by decide) ?_
          refine lv_icmp_ge (tgt := 107) hx hb d_MM_attack_101 (by decide) (fun hc => ?_) (fun hc => ?_)
          · replace hf0 := o_t hc hf0
            refine lv_aload_n hx hb d_MM_attack_107 rfl (lv_at hl 0 rfl) ?_
            obtain ⟨M7, hc6, hf0⟩ := o_b hf0
            refine q_cVv (As := []) (rest := []) S hX hH (c_MM_keepsPast l hI hZ M hc6) (cw_MM_217 S.2.2.2.2 (Nat.le_trans (Nat.le_of_ble_eq_true rfl) hR.1) (Nat.le_trans (Nat.le_of_ble_eq_true rfl) hR.2)) (rc_MM hX hH hZ) rfl hl.1 rfl (Nat.le_of_ble_eq_true rfl) d_MM_attack_108 ⟨Nat.zero_le _, Nat.zero_le _⟩ (fun H locs hH => ?_)
            refine lv_aload_n hx hb d_MM_attack_111 rfl (lv_at hl 0 rfl) ?_
            refine g_MM_9 S hX hH hZ d_MM_attack_112 ?_
            refine lv_bipush (v := (7 : Int32)) hx hb d_MM_attack_115 (by decide) ?_
            refine lv_iconst (v := (0 : Int32)) hx hb d_MM_attack_117 (by decide) ?_
            obtain ⟨M8, hM8, hf0⟩ := o_l hf0
            refine q_iast (j := 7) hx hb hX hI hH (aa_MM_1 hZ) (vp_c (by decide)) (by decide) d_MM_attack_118 (fun H locs hH => ?_)
            rw [hM8] at hH
            refine lv_aload_n hx hb d_MM_attack_119 rfl (lv_at hl 0 rfl) ?_
            refine g_MM_33 S hX hH hZ d_MM_attack_120 ?_
            refine lv_iconst (v := (0 : Int32)) hx hb d_MM_attack_123 (by decide) ?_
            refine lv_aload_n hx hb d_MM_attack_124 rfl (lv_at hl 0 rfl) ?_
            refine g_MM_9 S hX hH hZ d_MM_attack_125 ?_
            refine lv_iconst (v := (1 : Int32)) hx hb d_MM_attack_128 (by decide) ?_
            refine q_iald (j := 1) hx hb hX hH (aa_MM_1 hZ) (vp_c (by decide)) (by decide) d_MM_attack_129 ?_
            obtain ⟨M9, hM9, hf0⟩ := o_l hf0
            refine q_iast (j := 0) hx hb hX hI hH (aa_MM_8 hZ) (vp_c (by decide)) (by decide) d_MM_attack_130 (fun H locs hH => ?_)
            rw [hM9] at hH
            refine lv_iconst (v := (1 : Int32)) hx hb d_MM_attack_131 (by decide) ?_
            refine lv_istore_n (lv' := [(3, .int (1 : Int32)), (0, .ref (Z.2.2.1 0)), (1, .int e24.1), (2, .int e24.2)]) hx hb d_MM_attack_132 rfl hl (by decide) rfl (fun ls hl => ?_)
            refine lv_iconst (v := (0 : Int32)) hx hb d_MM_attack_133 (by decide) ?_
            refine lv_istore (lv' := [(4, .int (0 : Int32)), (3, .int (1 : Int32)), (0, .ref (Z.2.2.1 0)), (1, .int e24.1), (2, .int e24.2)]) hx hb d_MM_attack_134 hl (by decide) rfl (fun ls hl => ?_)
            exact J136 _ _ _ _ _ _ _ hf0 hH (lv_sub hl [2, 3, 1, 0] rfl)
          · replace hf0 := o_f hc hf0
            refine lv_bipush (v := (-2 : Int32)) hx hb d_MM_attack_104 (by decide) ?_
            obtain ⟨rfl, rfl⟩ := o_p hf0
            exact hQ _ _ _ _ hH d_MM_attack_106
    unfold f_MM_attack_W24 at he24
    refine loop_W (fun t => ∀ (H : Heap) (locs : List Loc) (ls : Array Slot), HW Z M s H locs → lv_has ls 5 [(0, .ref (Z.2.2.1 0)), (1, .int t.1), (2, .int t.2.1), (3, .int t.2.2)] → W p l e R s m args below meth c H locs 0 0 Q (F0 m 24 ls [])) ?_ he24 H locs ls hH hl
    rintro ⟨x1, x2, x3⟩ o1 hf1 hG1 hR1 H locs ls hH hl
    replace hH : HW Z M s H locs := hH
    replace hl : lv_has ls 5 [(0, .ref (Z.2.2.1 0)), (1, .int x1), (2, .int x2), (3, .int x3)] := hl
    replace hf1 : f_MM_attack_L24 M x1 x2 x3 = some o1 := hf1
    unfold f_MM_attack_L24 at hf1
    have J56 : ∀ (x1 : Int32) (x3 : Int32) (s0 : Int32) (s1 : Int32) (H : Heap) (locs : List Loc) (ls : Array Slot), f_MM_attack_J56 M x1 x3 s0 s1 = some o1 → HW Z M s H locs → lv_has ls 5 [(0, .ref (Z.2.2.1 0)), (1, .int x1), (3, .int x3)] → W p l e R s m args below meth c H locs 0 0 Q (F0 m 56 ls [.int s0, .int s1]) := by
      intro x1 x3 s0 s1 H locs ls hf1 hH hl
      unfold f_MM_attack_J56 at hf1
      refine q_cSi (As := [.int s0]) (rest := [.int s1]) S hX hH (c_MM_truth l hI M s0 rfl) (cw_MM_150 S.2.2.2.2 (Nat.le_trans (Nat.le_of_ble_eq_true rfl) hR.1) (Nat.le_trans (Nat.le_of_ble_eq_true rfl) hR.2)) rfl hl.1 rfl (Nat.le_of_ble_eq_true rfl) d_MM_attack_56 ⟨Nat.zero_le _, Nat.zero_le _⟩ (fun H locs hH => ?_)
      refine lv_iadd hx hb d_MM_attack_59 ?_
      refine lv_istore_n (lv' := [(2, .int (s1 + (f_MM_truth s0))), (0, .ref (Z.2.2.1 0)), (1, .int x1), (3, .int x3)]) hx hb d_MM_attack_60 rfl hl (by decide) rfl (fun ls hl => ?_)
      refine lv_iinc (v := x3 + (-1 : Int32)) (lv' := [(3, .int (x3 + (-1 : Int32))), (2, .int (s1 + (f_MM_truth s0))), (0, .ref (Z.2.2.1 0)), (1, .int x1)]) hx hb d_MM_attack_61 hl (k := 3) rfl rfl (by decide) rfl (fun ls hl => ?_)
      refine lv_goto (tgt := 24) hx hb d_MM_attack_64 (by decide) ?_
      exact hG1 _ (o_v hf1).symm _ _ _ hH (lv_sub hl [2, 3, 1, 0] rfl)
    have J41 : ∀ (x2 : Int32) (x3 : Int32) (s0 : Int32) (H : Heap) (locs : List Loc) (ls : Array Slot), f_MM_attack_J41 M x2 x3 s0 = some o1 → HW Z M s H locs → lv_has ls 5 [(0, .ref (Z.2.2.1 0)), (2, .int x2), (3, .int x3)] → W p l e R s m args below meth c H locs 0 0 Q (F0 m 41 ls [.int s0]) := by
      intro x2 x3 s0 H locs ls hf1 hH hl
      unfold f_MM_attack_J41 at hf1
      refine lv_istore_n (lv' := [(1, .int s0), (0, .ref (Z.2.2.1 0)), (2, .int x2), (3, .int x3)]) hx hb d_MM_attack_41 rfl hl (by decide) rfl (fun ls hl => ?_)
      refine lv_iload_n hx hb d_MM_attack_42 rfl (lv_at hl 2 rfl) ?_
      refine lv_aload_n hx hb d_MM_attack_43 rfl (lv_at hl 1 rfl) ?_
      refine lv_iload_n hx hb d_MM_attack_44 rfl (lv_at hl 3 rfl) ?_
      refine q_cVi (As := [.int x3]) (rest := [.int x2]) S hX hH (c_MM_isLiar l hI hZ M x3 rfl) (cw_MM_205 S.2.2.2.2 (Nat.le_trans (Nat.le_of_ble_eq_true rfl) hR.1) (Nat.le_trans (Nat.le_of_ble_eq_true rfl) hR.2)) (rc_MM hX hH hZ) rfl hl.1 rfl (Nat.le_of_ble_eq_true rfl) d_MM_attack_45 ⟨Nat.zero_le _, Nat.zero_le _⟩ (fun H locs hH => ?_)
      refine lv_if_ne (tgt := 55) hx hb d_MM_attack_48 (by decide) (fun hc => ?_) (fun hc => ?_)
      · replace hf1 := o_f hc hf1
        refine lv_iconst (v := (0 : Int32)) hx hb d_MM_attack_55 (by decide) ?_
        exact J56 _ _ _ _ _ _ _ hf1 hH (lv_sub hl [1, 0, 3] rfl)
      · replace hf1 := o_t hc hf1
        refine lv_iconst (v := (1 : Int32)) hx hb d_MM_attack_51 (by decide) ?_
        refine lv_goto (tgt := 56) hx hb d_MM_attack_52 (by decide) ?_
        exact J56 _ _ _ _ _ _ _ hf1 hH (lv_sub hl [1, 0, 3] rfl)
    refine lv_iload_n hx hb d_MM_attack_24 rfl (lv_at hl 3 rfl) ?_
    refine lv_if_lt (tgt := 67) hx hb d_MM_attack_25 (by decide) (fun hc => ?_) (fun hc => ?_)
    · replace hf1 := o_t hc hf1
      obtain rfl := hR1 _ (o_v hf1).symm
      exact KX24 _ _ _ hH (lv_sub hl [0, 1, 2] rfl)
    · replace hf1 := o_f hc hf1
      refine lv_aload_n hx hb d_MM_attack_28 rfl (lv_at hl 0 rfl) ?_
      refine lv_iload_n hx hb d_MM_attack_29 rfl (lv_at hl 3 rfl) ?_
      refine q_cVi (As := [.int x3]) (rest := []) S hX hH (c_MM_isLiar l hI hZ M x3 rfl) (cw_MM_205 S.2.2.2.2 (Nat.le_trans (Nat.le_of_ble_eq_true rfl) hR.1) (Nat.le_trans (Nat.le_of_ble_eq_true rfl) hR.2)) (rc_MM hX hH hZ) rfl hl.1 rfl (Nat.le_of_ble_eq_true rfl) d_MM_attack_30 ⟨Nat.zero_le _, Nat.zero_le _⟩ (fun H locs hH => ?_)
      refine lv_if_eq (tgt := 40) hx hb d_MM_attack_33 (by decide) (fun hc => ?_) (fun hc => ?_)
      · replace hf1 := o_t hc hf1
        refine lv_iload_n hx hb d_MM_attack_40 rfl (lv_at hl 3 rfl) ?_
        exact J41 _ _ _ _ _ _ hf1 hH (lv_sub hl [0, 2, 3] rfl)
      · replace hf1 := o_f hc hf1
        refine lv_iload_n hx hb d_MM_attack_36 rfl (lv_at hl 1 rfl) ?_
        refine lv_goto (tgt := 41) hx hb d_MM_attack_37 (by decide) ?_
        exact J41 _ _ _ _ _ _ hf1 hH (lv_sub hl [0, 2, 3] rfl)
  refine lv_aload_n hx hb d_MM_attack_0 rfl (lv_at hl 0 rfl) ?_
  refine g_MM_9 S hX hH hZ d_MM_attack_1 ?_
  refine lv_iconst (v := (0 : Int32)) hx hb d_MM_attack_4 (by decide) ?_
  refine q_iald (j := 0) hx hb hX hH (aa_MM_1 hZ) (vp_c (by decide)) (by decide) d_MM_attack_5 ?_
  refine lv_if_ne (tgt := 11) hx hb d_MM_attack_6 (by decide) (fun hc => ?_) (fun hc => ?_)
  · replace hf0 := o_f hc hf0
    refine lv_iconst (v := (-1 : Int32)) hx hb d_MM_attack_11 (by decide) ?_
    refine lv_istore_n (lv' := [(1, .int (-1 : Int32)), (0, .ref (Z.2.2.1 0))]) hx hb d_MM_attack_12 rfl hl (by decide) rfl (fun ls hl => ?_)
    refine lv_iconst (v := (0 : Int32)) hx hb d_MM_attack_13 (by decide) ?_
    refine lv_istore_n (lv' := [(2, .int (0 : Int32)), (1, .int (-1 : Int32)), (0, .ref (Z.2.2.1 0))]) hx hb d_MM_attack_14 rfl hl (by decide) rfl (fun ls hl => ?_)
    refine lv_aload_n hx hb d_MM_attack_15 rfl (lv_at hl 2 rfl) ?_
    refine g_MM_9 S hX hH hZ d_MM_attack_16 ?_
    refine lv_iconst (v := (0 : Int32)) hx hb d_MM_attack_19 (by decide) ?_
    refine q_iald (j := 0) hx hb hX hH (aa_MM_1 hZ) (vp_c (by decide)) (by decide) d_MM_attack_20 ?_
    refine lv_iconst (v := (1 : Int32)) hx hb d_MM_attack_21 (by decide) ?_
    refine lv_isub hx hb d_MM_attack_22 ?_
    refine lv_istore_n (lv' := [(3, .int ((M 1 0) - (1 : Int32))), (2, .int (0 : Int32)), (1, .int (-1 : Int32)), (0, .ref (Z.2.2.1 0))]) hx hb d_MM_attack_23 rfl hl (by decide) rfl (fun ls hl => ?_)
    exact J24 _ _ _ _ _ _ _ hf0 hH (lv_sub hl [3, 2, 1, 0] rfl)
  · replace hf0 := o_t hc hf0
    refine lv_iconst (v := (-1 : Int32)) hx hb d_MM_attack_9 (by decide) ?_
    obtain ⟨rfl, rfl⟩ := o_p hf0
    exact hQ _ _ _ _ hH d_MM_attack_10
theorem c_MM_attack (l : Launch) {Z : WD} (hI : wI Z) (hZ : IsM Z) (M : Mem) {r : Int32} {M' : Mem} (hf : f_MM_attack M = some (r, M')) : Ci l Z y_MM_attack b_MM_attack 5 (some .int) 2 45 [.ref (Z.2.2.1 0)] M M' r := by
  refine Met.ofW (cc := b_MM_attack) (maxL := 5) (ret := (some .int)) (by decide) rfl ?_
  intro p e s m args below meth c s₁ B hml hv
  obtain ⟨rfl, hP, hX⟩ := hv
  have S : CallFix p m c b_MM_attack 5 s ([.ref (Z.2.2.1 0)] : List Value).toArray gtb R_MM := ⟨B.exec, B.bytes, hml, findClass_of_methodNamed B.named, fun w hw => atoms_spec (ws := .code y_MM_attack b_MM_attack 5 (some .int) :: gtb) B.pre w (List.mem_cons_of_mem _ hw)⟩
  have hl := lv_entry ([.ref (Z.2.2.1 0)]) (n := 5) (Nat.le_of_ble_eq_true rfl)
  rw [lg_entry_eq]
  exact wk_MM_attack hI hZ M S hX ⟨Nat.le_refl _, Nat.le_refl _⟩ (fun pc H locs ls hH d => q_ri S.1 S.2.1 B.returns B.notSynchronized hH rfl rfl d) hf ⟨hP, va_S.rf⟩ hl
noncomputable def f_MM_traded (x0 : Int32) (x1 : Int32) (x2 : Int32) : Int32 := if x0 = x1 then x2 else if x0 = x2 then x1 else x0
set_option maxHeartbeats 4000000 in
theorem wk_MM_traded {l : Launch} {Z : WD} (hI : wI Z) (M : Mem) (x0 : Int32) (x1 : Int32) (x2 : Int32) {r : Int32} {p : Program} {e : Env} {R : Room} {s : State} {m : MethodId} {args : Array Value} {below : List Frame} {meth : Method} {c : Code} {H : Heap} {locs : List Loc} {ls : Array Slot} {Q : State → Prop} (S : CallFix p m c b_MM_traded 3 s args gtb R_MM) (hX : wX Z s) (hR : 0 ≤ R.frames ∧ 0 ≤ R.locals) (hQ : ∀ (pc : Nat) (H : Heap) (locs : List Loc) (ls : Array Slot), HW Z M s H locs → decode b_MM_traded pc = .ok (.ireturn, 1) → W p l e R s m args below meth c H locs 0 0 Q (F0 m pc ls [.int r])) (hf0 : f_MM_traded x0 x1 x2 = r) (hH : HW Z M s H locs) (hl : lv_has ls 3 [(0, .int x0), (1, .int x1), (2, .int x2)]) : W p l e R s m args below meth c H locs 0 0 Q (F0 m 0 ls []) := by
  have hx := S.1
  have hb := S.2.1
  have hown := S.2.2.2.1
  have ht := S.2.2.2.2
  unfold f_MM_traded at hf0
  refine lv_iload_n hx hb d_MM_traded_0 rfl (lv_at hl 0 rfl) ?_
  refine lv_iload_n hx hb d_MM_traded_1 rfl (lv_at hl 1 rfl) ?_
  refine lv_icmp_ne (tgt := 9) hx hb d_MM_traded_2 (by decide) (fun hc => ?_) (fun hc => ?_)
  · replace hf0 := o_f hc hf0
    refine lv_iload_n hx hb d_MM_traded_9 rfl (lv_at hl 0 rfl) ?_
    refine lv_iload_n hx hb d_MM_traded_10 rfl (lv_at hl 2 rfl) ?_
    refine lv_icmp_ne (tgt := 18) hx hb d_MM_traded_11 (by decide) (fun hc => ?_) (fun hc => ?_)
    · replace hf0 := o_f hc hf0
      refine lv_iload_n hx hb d_MM_traded_18 rfl (lv_at hl 0 rfl) ?_
      subst hf0
      exact hQ _ _ _ _ hH d_MM_traded_19
    · replace hf0 := o_t hc hf0
      refine lv_iload_n hx hb d_MM_traded_14 rfl (lv_at hl 1 rfl) ?_
      refine lv_goto (tgt := 19) hx hb d_MM_traded_15 (by decide) ?_
      subst hf0
      exact hQ _ _ _ _ hH d_MM_traded_19
  · replace hf0 := o_t hc hf0
    refine lv_iload_n hx hb d_MM_traded_5 rfl (lv_at hl 2 rfl) ?_
    refine lv_goto (tgt := 19) hx hb d_MM_traded_6 (by decide) ?_
    subst hf0
    exact hQ _ _ _ _ hH d_MM_traded_19
theorem c_MM_traded (l : Launch) {Z : WD} (hI : wI Z) (M : Mem) (x0 : Int32) (x1 : Int32) (x2 : Int32) {r : Int32} (hf : f_MM_traded x0 x1 x2 = r) : Ci l Z y_MM_traded b_MM_traded 3 (some .int) 0 0 [.int x0, .int x1, .int x2] M M r := by
  refine Met.ofW (cc := b_MM_traded) (maxL := 3) (ret := (some .int)) (by decide) rfl ?_
  intro p e s m args below meth c s₁ B hml hv
  obtain ⟨rfl, hP, hX⟩ := hv
  have S : CallFix p m c b_MM_traded 3 s ([.int x0, .int x1, .int x2] : List Value).toArray gtb R_MM := ⟨B.exec, B.bytes, hml, findClass_of_methodNamed B.named, fun w hw => atoms_spec (ws := .code y_MM_traded b_MM_traded 3 (some .int) :: gtb) B.pre w (List.mem_cons_of_mem _ hw)⟩
  have hl := lv_entry ([.int x0, .int x1, .int x2]) (n := 3) (Nat.le_of_ble_eq_true rfl)
  rw [lg_entry_eq]
  exact wk_MM_traded hI M x0 x1 x2 S hX ⟨Nat.le_refl _, Nat.le_refl _⟩ (fun pc H locs ls hH d => q_ri S.1 S.2.1 B.returns B.notSynchronized hH rfl rfl d) hf ⟨hP, va_S.rf⟩ hl
theorem cw_MM_260 {R : Room} {s : State} {args : Array Value} (ht : ∀ w ∈ gtb, w.before args s = true) (h1 : 0 + 1 ≤ R.frames) (h2 : 8 + (3 + 11) + 0 ≤ R.locals) : CallB R s args R_MM 260 y_MM_traded b_MM_traded 3 (some .int) (.code y_MM_traded b_MM_traded 3 (some .int) :: gtb) { frames := 0, cells := 0, slots := 0, locals := 0 } 0 0 3 ∧ (Cond.static y_MM_traded).before args s = true := va_cwS 3 ht (gS w6_8 w6_9 w1_10 w6_10) rfl rfl rfl ⟨by decide, by decide, by decide +kernel⟩ ⟨h1, h2⟩
noncomputable def f_MM_trade_J233 (M : Mem) (x1 : Int32) (x2 : Int32) (x4 : Int32) (x6 : Int32) (x7 : Int32) (s0 : Int32) (s1 : Int32) : Option ((Int32 × Mem) ⊕ Mem) := gIn s1 302 (lt1 (upM M 1 s1.toNatClampNeg s0) (fun M2 => some (.inl (x7 + (1 : Int32), M2))))
noncomputable def f_MM_trade_L175 (x1 : Int32) (x2 : Int32) (x4 : Int32) (x6 : Int32) (x7 : Int32) (M : Mem) : Option ((Int32 × Mem) ⊕ Mem) := if (8 : Int32) ≤ x7 then some (.inr M) else 
    if x4 = 0 then 
    gIn (x6 + (4 : Int32)) 302 (if (M 1 (x6 + (4 : Int32)).toNatClampNeg) ≤ x7 then f_MM_trade_J233 M x1 x2 x4 x6 x7 (0 : Int32) ((x6 + (5 : Int32)) + x7) else 
    gIn ((x6 + (5 : Int32)) + x7) 302 (f_MM_trade_J233 M x1 x2 x4 x6 x7 (f_MM_traded (M 1 ((x6 + (5 : Int32)) + x7).toNatClampNeg) x1 x2) ((x6 + (5 : Int32)) + x7))) else some (.inr M)
noncomputable def f_MM_trade_W175 (x1 : Int32) (x2 : Int32) (x4 : Int32) (x6 : Int32) (u : (Int32 × Mem)) : Option Mem := loop (fun t => f_MM_trade_L175 x1 x2 x4 x6 t.1 t.2) u
noncomputable def f_MM_trade_J175 (M : Mem) (x1 : Int32) (x2 : Int32) (x4 : Int32) (x5 : Int32) (x6 : Int32) (x7 : Int32) : Option ((Int32 × Mem) ⊕ Mem) := bnd (f_MM_trade_W175 x1 x2 x4 x6 (x7, M)) (fun e175 => some (.inl (x5 + (1 : Int32), e175)))
noncomputable def f_MM_trade_L95 (x1 : Int32) (x2 : Int32) (x4 : Int32) (x5 : Int32) (M : Mem) : Option ((Int32 × Mem) ⊕ Mem) := gIn ((7 : Int32) + x4) 302 (if (M 1 ((7 : Int32) + x4).toNatClampNeg) ≤ x5 then some (.inr M) else 
    gIn (((f_MM_placeOf x4) + ((f_MM_wideOf x4) * x5)) + (1 : Int32)) 302 (lt1 (upM M 1 ((((f_MM_placeOf x4) + ((f_MM_wideOf x4) * x5)) + (1 : Int32)).toNatClampNeg) (f_MM_traded (M 1 (((f_MM_placeOf x4) + ((f_MM_wideOf x4) * x5)) + (1 : Int32)).toNatClampNeg) x1 x2)) (fun M7 => 
    gIn (((f_MM_placeOf x4) + ((f_MM_wideOf x4) * x5)) + (2 : Int32)) 302 (lt1 (upM M7 1 ((((f_MM_placeOf x4) + ((f_MM_wideOf x4) * x5)) + (2 : Int32)).toNatClampNeg) (f_MM_traded (M7 1 (((f_MM_placeOf x4) + ((f_MM_wideOf x4) * x5)) + (2 : Int32)).toNatClampNeg) x1 x2)) (fun M9 => f_MM_trade_J175 M9 x1 x2 x4 x5 ((f_MM_placeOf x4) + ((f_MM_wideOf x4) * x5)) (0 : Int32))))))
noncomputable def f_MM_trade_W95 (x1 : Int32) (x2 : Int32) (x4 : Int32) (u : (Int32 × Mem)) : Option Mem := loop (fun t => f_MM_trade_L95 x1 x2 x4 t.1 t.2) u
noncomputable def f_MM_trade_J95 (M : Mem) (x1 : Int32) (x2 : Int32) (x4 : Int32) (x5 : Int32) : Option ((Int32 × Mem) ⊕ (Int32 × Mem)) := bnd (f_MM_trade_W95 x1 x2 x4 (x5, M)) (fun e95 => some (.inl (x4 + (1 : Int32), e95)))
noncomputable def f_MM_trade_L86 (x1 : Int32) (x2 : Int32) (x4 : Int32) (M : Mem) : Option ((Int32 × Mem) ⊕ (Int32 × Mem)) := if (3 : Int32) ≤ x4 then some (.inr (M 1 0, M)) else f_MM_trade_J95 M x1 x2 x4 (0 : Int32)
noncomputable def f_MM_trade_W86 (x1 : Int32) (x2 : Int32) (u : (Int32 × Mem)) : Option (Int32 × Mem) := loop (fun t => f_MM_trade_L86 x1 x2 t.1 t.2) u
noncomputable def f_MM_trade_J86 (M : Mem) (x1 : Int32) (x2 : Int32) (x4 : Int32) : Option (Int32 × Mem) := bnd (f_MM_trade_W86 x1 x2 (x4, M)) (fun e86 => some e86)
noncomputable def f_MM_trade_J67 (M : Mem) (x1 : Int32) (x2 : Int32) (x4 : Int32) (s0 : Int32) (s1 : Int32) : Option ((Int32 × Int32) ⊕ Int32) := some (.inl (s1 ||| s0, x4 + (1 : Int32)))
noncomputable def f_MM_trade_L37 (M : Mem) (x1 : Int32) (x2 : Int32) (x3 : Int32) (x4 : Int32) : Option ((Int32 × Int32) ⊕ Int32) := if (8 : Int32) ≤ x4 then some (.inr x3) else 
    if (bI (f_MM_isLiar M x4)) = 0 then f_MM_trade_J67 M x1 x2 x4 (0 : Int32) x3 else f_MM_trade_J67 M x1 x2 x4 ((1 : Int32) <<< ((f_MM_traded x4 x1 x2) &&& 31)) x3
noncomputable def f_MM_trade_W37 (M : Mem) (x1 : Int32) (x2 : Int32) (u : (Int32 × Int32)) : Option Int32 := loop (fun t => f_MM_trade_L37 M x1 x2 t.1 t.2) u
noncomputable def f_MM_trade_J37 (M : Mem) (x1 : Int32) (x2 : Int32) (x3 : Int32) (x4 : Int32) : Option (Int32 × Mem) := bnd (f_MM_trade_W37 M x1 x2 (x3, x4)) (fun e37 => lt1 (upM M 1 6 e37) (fun M10 => f_MM_trade_J86 M10 x1 x2 (0 : Int32)))
noncomputable def f_MM_trade (M : Mem) (x1 : Int32) (x2 : Int32) : Option (Int32 × Mem) := 
    if (bI (f_MM_areUnlike M x1 x2)) = 0 then some ((-1 : Int32), M) else 
    bnd (f_MM_keepsPast M) (fun M12 => 
    lt1 (upM M12 1 1 (f_MM_traded (M12 1 1) x1 x2)) (fun M13 => f_MM_trade_J37 M13 x1 x2 (0 : Int32) (0 : Int32)))
set_option maxHeartbeats 4000000 in
theorem wk_MM_trade {l : Launch} {Z : WD} (hI : wI Z) (hZ : IsM Z) (M : Mem) (x1 : Int32) (x2 : Int32) {r : Int32} {M' : Mem} {p : Program} {e : Env} {R : Room} {s : State} {m : MethodId} {args : Array Value} {below : List Frame} {meth : Method} {c : Code} {H : Heap} {locs : List Loc} {ls : Array Slot} {Q : State → Prop} (S : CallFix p m c b_MM_trade 8 s args gtb R_MM) (hX : wX Z s) (hR : 3 ≤ R.frames ∧ 68 ≤ R.locals) (hQ : ∀ (pc : Nat) (H : Heap) (locs : List Loc) (ls : Array Slot), HW Z M' s H locs → decode b_MM_trade pc = .ok (.ireturn, 1) → W p l e R s m args below meth c H locs 0 0 Q (F0 m pc ls [.int r])) (hf0 : f_MM_trade M x1 x2 = some (r, M')) (hH : HW Z M s H locs) (hl : lv_has ls 8 [(0, .ref (Z.2.2.1 0)), (1, .int x1), (2, .int x2)]) : W p l e R s m args below meth c H locs 0 0 Q (F0 m 0 ls []) := by
  have hx := S.1
  have hb := S.2.1
  have hown := S.2.2.2.1
  have ht := S.2.2.2.2
  unfold f_MM_trade at hf0
  have J86 : ∀ (M : Mem) (x1 : Int32) (x2 : Int32) (x4 : Int32) (H : Heap) (locs : List Loc) (ls : Array Slot), f_MM_trade_J86 M x1 x2 x4 = some (r, M') → HW Z M s H locs → lv_has ls 8 [(0, .ref (Z.2.2.1 0)), (1, .int x1), (2, .int x2), (4, .int x4)] → W p l e R s m args below meth c H locs 0 0 Q (F0 m 86 ls []) := by
    intro M x1 x2 x4 H locs ls hf0 hH hl
    unfold f_MM_trade_J86 at hf0
    obtain ⟨e86, he86, hf0⟩ := o_b hf0
    unfold f_MM_trade_W86 at he86
    refine loop_W (fun t => ∀ (H : Heap) (locs : List Loc) (ls : Array Slot), HW Z t.2 s H locs → lv_has ls 8 [(0, .ref (Z.2.2.1 0)), (1, .int x1), (2, .int x2), (4, .int t.1)] → W p l e R s m args below meth c H locs 0 0 Q (F0 m 86 ls [])) ?_ he86 H locs ls hH hl
    rintro ⟨x4, M⟩ o1 hf1 hG1 hR1 H locs ls hH hl
    replace hH : HW Z M s H locs := hH
    replace hl : lv_has ls 8 [(0, .ref (Z.2.2.1 0)), (1, .int x1), (2, .int x2), (4, .int x4)] := hl
    replace hf1 : f_MM_trade_L86 x1 x2 x4 M = some o1 := hf1
    unfold f_MM_trade_L86 at hf1
    have J95 : ∀ (M : Mem) (x4 : Int32) (x5 : Int32) (H : Heap) (locs : List Loc) (ls : Array Slot), f_MM_trade_J95 M x1 x2 x4 x5 = some o1 → HW Z M s H locs → lv_has ls 8 [(0, .ref (Z.2.2.1 0)), (1, .int x1), (2, .int x2), (4, .int x4), (5, .int x5)] → W p l e R s m args below meth c H locs 0 0 Q (F0 m 95 ls []) := by
      intro M x4 x5 H locs ls hf1 hH hl
      unfold f_MM_trade_J95 at hf1
      obtain ⟨e95, he95, hf1⟩ := o_b hf1
      have KX95 : ∀ (H : Heap) (locs : List Loc) (ls : Array Slot), HW Z e95 s H locs → lv_has ls 8 [(0, .ref (Z.2.2.1 0)), (1, .int x1), (2, .int x2), (4, .int x4)] → W p l e R s m args below meth c H locs 0 0 Q (F0 m 246 ls []) := by
        intro H locs ls hH hl
        refine lv_iinc (v := x4 + (1 : Int32)) (lv' := [(4, .int (x4 + (1 : Int32))), (0, .ref (Z.2.2.1 0)), (1, .int x1), (2, .int x2)]) hx hb d_MM_trade_246 hl (k := 3) rfl rfl (by decide) rfl (fun ls hl => ?_)
        refine lv_goto (tgt := 86) hx hb d_MM_trade_249 (by decide) ?_
        exact hG1 _ (o_v hf1).symm _ _ _ hH (lv_sub hl [1, 2, 3, 0] rfl)
      unfold f_MM_trade_W95 at he95
      refine loop_W (fun t => ∀ (H : Heap) (locs : List Loc) (ls : Array Slot), HW Z t.2 s H locs → lv_has ls 8 [(0, .ref (Z.2.2.1 0)), (1, .int x1), (2, .int x2), (4, .int x4), (5, .int t.1)] → W p l e R s m args below meth c H locs 0 0 Q (F0 m 95 ls [])) ?_ he95 H locs ls hH hl
      rintro ⟨x5, M⟩ o2 hf2 hG2 hR2 H locs ls hH hl
      replace hH : HW Z M s H locs := hH
      replace hl : lv_has ls 8 [(0, .ref (Z.2.2.1 0)), (1, .int x1), (2, .int x2), (4, .int x4), (5, .int x5)] := hl
      replace hf2 : f_MM_trade_L95 x1 x2 x4 x5 M = some o2 := hf2
      unfold f_MM_trade_L95 at hf2
      have J175 : ∀ (M : Mem) (x5 : Int32) (x6 : Int32) (x7 : Int32) (H : Heap) (locs : List Loc) (ls : Array Slot), f_MM_trade_J175 M x1 x2 x4 x5 x6 x7 = some o2 → HW Z M s H locs → lv_has ls 8 [(0, .ref (Z.2.2.1 0)), (1, .int x1), (2, .int x2), (4, .int x4), (5, .int x5), (6, .int x6), (7, .int x7)] → W p l e R s m args below meth c H locs 0 0 Q (F0 m 175 ls []) := by
        intro M x5 x6 x7 H locs ls hf2 hH hl
        unfold f_MM_trade_J175 at hf2
        obtain ⟨e175, he175, hf2⟩ := o_b hf2
        have KX175 : ∀ (H : Heap) (locs : List Loc) (ls : Array Slot), HW Z e175 s H locs → lv_has ls 8 [(0, .ref (Z.2.2.1 0)), (1, .int x1), (2, .int x2), (4, .int x4), (5, .int x5)] → W p l e R s m args below meth c H locs 0 0 Q (F0 m 240 ls []) := by
          intro H locs ls hH hl
          refine lv_iinc (v := x5 + (1 : Int32)) (lv' := [(5, .int (x5 + (1 : Int32))), (0, .ref (Z.2.2.1 0)), (1, .int x1), (2, .int x2), (4, .int x4)]) hx hb d_MM_trade_240 hl (k := 4) rfl rfl (by decide) rfl (fun ls hl => ?_)
          refine lv_goto (tgt := 95) hx hb d_MM_trade_243 (by decide) ?_
          exact hG2 _ (o_v hf2).symm _ _ _ hH (lv_sub hl [1, 2, 3, 4, 0] rfl)
        unfold f_MM_trade_W175 at he175
        refine loop_W (fun t => ∀ (H : Heap) (locs : List Loc) (ls : Array Slot), HW Z t.2 s H locs → lv_has ls 8 [(0, .ref (Z.2.2.1 0)), (1, .int x1), (2, .int x2), (4, .int x4), (5, .int x5), (6, .int x6), (7, .int t.1)] → W p l e R s m args below meth c H locs 0 0 Q (F0 m 175 ls [])) ?_ he175 H locs ls hH hl
        rintro ⟨x7, M⟩ o3 hf3 hG3 hR3 H locs ls hH hl
        replace hH : HW Z M s H locs := hH
        replace hl : lv_has ls 8 [(0, .ref (Z.2.2.1 0)), (1, .int x1), (2, .int x2), (4, .int x4), (5, .int x5), (6, .int x6), (7, .int x7)] := hl
        replace hf3 : f_MM_trade_L175 x1 x2 x4 x6 x7 M = some o3 := hf3
        unfold f_MM_trade_L175 at hf3
        have J233 : ∀ (M : Mem) (x7 : Int32) (s0 : Int32) (s1 : Int32) (H : Heap) (locs : List Loc) (ls : Array Slot), f_MM_trade_J233 M x1 x2 x4 x6 x7 s0 s1 = some o3 → HW Z M s H locs → lv_has ls 8 [(0, .ref (Z.2.2.1 0)), (1, .int x1), (2, .int x2), (4, .int x4), (5, .int x5), (6, .int x6), (7, .int x7)] → W p l e R s m args below meth c H locs 0 0 Q (F0 m 233 ls [.int s0, .int s1, .ref (Z.2.2.1 1)]) := by
          intro M x7 s0 s1 H locs ls hf3 hH hl
          unfold f_MM_trade_J233 at hf3
          obtain ⟨hn1, hf3⟩ := o_in hf3
          obtain ⟨M2, hM2, hf3⟩ := o_l hf3
          refine q_iast (j := s1.toNatClampNeg) hx hb hX hI hH (aa_MM_1 hZ) hn1 rfl d_MM_trade_233 (fun H locs hH => ?_)
          rw [hM2] at hH
          refine lv_iinc (v := x7 + (1 : Int32)) (lv' := [(7, .int (x7 + (1 : Int32))), (0, .ref (Z.2.2.1 0)), (1, .int x1), (2, .int x2), (4, .int x4), (5, .int x5), (6, .int x6)]) hx hb d_MM_trade_234 hl (k := 6) rfl rfl (by decide) rfl (fun ls hl => ?_)
          refine lv_goto (tgt := 175) hx hb d_MM_trade_237 (by decide) ?_
          exact hG3 _ (o_v hf3).symm _ _ _ hH (lv_sub hl [1, 2, 3, 4, 5, 6, 0] rfl)
        refine lv_iload hx hb d_MM_trade_175 (lv_at hl 6 rfl) ?_
        refine lv_bipush (v := (8 : Int32)) hx hb d_MM_trade_177 (by decide) ?_
        refine lv_icmp_ge (tgt := 240) hx hb d_MM_trade_179 (by decide) (fun hc => ?_) (fun hc => ?_)
        · replace hf3 := o_t hc hf3
          obtain rfl := hR3 _ (o_v hf3).symm
          exact KX175 _ _ _ hH (lv_sub hl [0, 1, 2, 3, 4] rfl)
        · replace hf3 := o_f hc hf3
          refine lv_iload hx hb d_MM_trade_182 (lv_at hl 3 rfl) ?_
          refine lv_if_ne (tgt := 240) hx hb d_MM_trade_184 (by decide) (fun hc => ?_) (fun hc => ?_)
          · replace hf3 := o_f hc hf3
            obtain rfl := hR3 _ (o_v hf3).symm
            exact KX175 _ _ _ hH (lv_sub hl [0, 1, 2, 3, 4] rfl)
          · replace hf3 := o_t hc hf3
            refine lv_aload_n hx hb d_MM_trade_187 rfl (lv_at hl 0 rfl) ?_
            refine g_MM_9 S hX hH hZ d_MM_trade_188 ?_
            refine lv_iload hx hb d_MM_trade_191 (lv_at hl 5 rfl) ?_
            refine lv_iconst (v := (5 : Int32)) hx hb d_MM_trade_193 (by decide) ?_
            refine lv_iadd hx hb d_MM_trade_194 ?_
            refine lv_iload hx hb d_MM_trade_195 (lv_at hl 6 rfl) ?_
            refine lv_iadd hx hb d_MM_trade_197 ?_
            refine lv_iload hx hb d_MM_trade_198 (lv_at hl 6 rfl) ?_
            refine lv_aload_n hx hb d_MM_trade_200 rfl (lv_at hl 0 rfl) ?_
            refine g_MM_9 S hX hH hZ d_MM_trade_201 ?_
            refine lv_iload hx hb d_MM_trade_204 (lv_at hl 5 rfl) ?_
            refine lv_iconst (v := (4 : Int32)) hx hb d_MM_trade_206 (by decide) ?_
            refine lv_iadd hx hb d_MM_trade_207 ?_
            obtain ⟨hn3, hf3⟩ := o_in hf3
            refine q_iald (j := (x6 + (4 : Int32)).toNatClampNeg) hx hb hX hH (aa_MM_1 hZ) hn3 rfl d_MM_trade_208 ?_
            refine lv_icmp_ge (tgt := 232) hx hb d_MM_trade_209 (by decide) (fun hc => ?_) (fun hc => ?_)
            · replace hf3 := o_t hc hf3
              refine lv_iconst (v := (0 : Int32)) hx hb d_MM_trade_232 (by decide) ?_
              exact J233 _ _ _ _ _ _ _ hf3 hH (lv_sub hl [0, 1, 2, 3, 4, 5, 6] rfl)
            · replace hf3 := o_f hc hf3
              refine lv_aload_n hx hb d_MM_trade_212 rfl (lv_at hl 0 rfl) ?_
              refine g_MM_9 S hX hH hZ d_MM_trade_213 ?_
              refine lv_iload hx hb d_MM_trade_216 (lv_at hl 5 rfl) ?_
              refine lv_iconst (v := (5 : Int32)) hx hb d_MM_trade_218 (by decide) ?_
              refine lv_iadd hx hb d_MM_trade_219 ?_
              refine lv_iload hx hb d_MM_trade_220 (lv_at hl 6 rfl) ?_
              refine lv_iadd hx hb d_MM_trade_222 ?_
              obtain ⟨hn4, hf3⟩ := o_in hf3
              refine q_iald (j := ((x6 + (5 : Int32)) + x7).toNatClampNeg) hx hb hX hH (aa_MM_1 hZ) hn4 rfl d_MM_trade_223 ?_
              refine lv_iload_n hx hb d_MM_trade_224 rfl (lv_at hl 1 rfl) ?_
              refine lv_iload_n hx hb d_MM_trade_225 rfl (lv_at hl 2 rfl) ?_
              refine q_cSi (As := [.int (M 1 ((x6 + (5 : Int32)) + x7).toNatClampNeg), .int x1, .int x2]) (rest := [.int ((x6 + (5 : Int32)) + x7), .ref (Z.2.2.1 1)]) S hX hH (c_MM_traded l hI M (M 1 ((x6 + (5 : Int32)) + x7).toNatClampNeg) x1 x2 rfl) (cw_MM_260 S.2.2.2.2 (Nat.le_trans (Nat.le_of_ble_eq_true rfl) hR.1) (Nat.le_trans (Nat.le_of_ble_eq_true rfl) hR.2)) rfl hl.1 rfl (Nat.le_of_ble_eq_true rfl) d_MM_trade_226 ⟨Nat.zero_le _, Nat.zero_le _⟩ (fun H locs hH => ?_)
              refine lv_goto (tgt := 233) hx hb d_MM_trade_229 (by decide) ?_
              exact J233 _ _ _ _ _ _ _ hf3 hH (lv_sub hl [0, 1, 2, 3, 4, 5, 6] rfl)
      refine lv_iload hx hb d_MM_trade_95 (lv_at hl 4 rfl) ?_
      refine lv_aload_n hx hb d_MM_trade_97 rfl (lv_at hl 0 rfl) ?_
      refine g_MM_9 S hX hH hZ d_MM_trade_98 ?_
      refine lv_bipush (v := (7 : Int32)) hx hb d_MM_trade_101 (by decide) ?_
      refine lv_iload hx hb d_MM_trade_103 (lv_at hl 3 rfl) ?_
      refine lv_iadd hx hb d_MM_trade_105 ?_
      obtain ⟨hn5, hf2⟩ := o_in hf2
      refine q_iald (j := ((7 : Int32) + x4).toNatClampNeg) hx hb hX hH (aa_MM_1 hZ) hn5 rfl d_MM_trade_106 ?_
      refine lv_icmp_ge (tgt := 246) hx hb d_MM_trade_107 (by decide) (fun hc => ?_) (fun hc => ?_)
      · replace hf2 := o_t hc hf2
        obtain rfl := hR2 _ (o_v hf2).symm
        exact KX95 _ _ _ hH (lv_sub hl [0, 1, 2, 3] rfl)
      · replace hf2 := o_f hc hf2
        refine lv_iload hx hb d_MM_trade_110 (lv_at hl 3 rfl) ?_
        refine q_cSi (As := [.int x4]) (rest := []) S hX hH (c_MM_placeOf l hI M x4 rfl) (cw_MM_234 S.2.2.2.2 (Nat.le_trans (Nat.le_of_ble_eq_true rfl) hR.1) (Nat.le_trans (Nat.le_of_ble_eq_true rfl) hR.2)) rfl hl.1 rfl (Nat.le_of_ble_eq_true rfl) d_MM_trade_112 ⟨Nat.zero_le _, Nat.zero_le _⟩ (fun H locs hH => ?_)
        refine lv_iload hx hb d_MM_trade_115 (lv_at hl 3 rfl) ?_
        refine q_cSi (As := [.int x4]) (rest := [.int (f_MM_placeOf x4)]) S hX hH (c_MM_wideOf l hI M x4 rfl) (cw_MM_231 S.2.2.2.2 (Nat.le_trans (Nat.le_of_ble_eq_true rfl) hR.1) (Nat.le_trans (Nat.le_of_ble_eq_true rfl) hR.2)) rfl hl.1 rfl (Nat.le_of_ble_eq_true rfl) d_MM_trade_117 ⟨Nat.zero_le _, Nat.zero_le _⟩ (fun H locs hH => ?_)
        refine lv_iload hx hb d_MM_trade_120 (lv_at hl 4 rfl) ?_
        refine lv_imul hx hb d_MM_trade_122 ?_
        refine lv_iadd hx hb d_MM_trade_123 ?_
        refine lv_istore (lv' := [(6, .int ((f_MM_placeOf x4) + ((f_MM_wideOf x4) * x5))), (0, .ref (Z.2.2.1 0)), (1, .int x1), (2, .int x2), (4, .int x4), (5, .int x5)]) hx hb d_MM_trade_124 hl (by decide) rfl (fun ls hl => ?_)
        refine lv_aload_n hx hb d_MM_trade_126 rfl (lv_at hl 1 rfl) ?_
        refine g_MM_9 S hX hH hZ d_MM_trade_127 ?_
        refine lv_iload hx hb d_MM_trade_130 (lv_at hl 0 rfl) ?_
        refine lv_iconst (v := (1 : Int32)) hx hb d_MM_trade_132 (by decide) ?_
        refine lv_iadd hx hb d_MM_trade_133 ?_
        refine lv_aload_n hx hb d_MM_trade_134 rfl (lv_at hl 1 rfl) ?_
        refine g_MM_9 S hX hH hZ d_MM_trade_135 ?_
        refine lv_iload hx hb d_MM_trade_138 (lv_at hl 0 rfl) ?_
        refine lv_iconst (v := (1 : Int32)) hx hb d_MM_trade_140 (by decide) ?_
        refine lv_iadd hx hb d_MM_trade_141 ?_
        obtain ⟨hn6, hf2⟩ := o_in hf2
        refine q_iald (j := (((f_MM_placeOf x4) + ((f_MM_wideOf x4) * x5)) + (1 : Int32)).toNatClampNeg) hx hb hX hH (aa_MM_1 hZ) hn6 rfl d_MM_trade_142 ?_
        refine lv_iload_n hx hb d_MM_trade_143 rfl (lv_at hl 2 rfl) ?_
        refine lv_iload_n hx hb d_MM_trade_144 rfl (lv_at hl 3 rfl) ?_
        refine q_cSi (As := [.int (M 1 (((f_MM_placeOf x4) + ((f_MM_wideOf x4) * x5)) + (1 : Int32)).toNatClampNeg), .int x1, .int x2]) (rest := [.int (((f_MM_placeOf x4) + ((f_MM_wideOf x4) * x5)) + (1 : Int32)), .ref (Z.2.2.1 1)]) S hX hH (c_MM_traded l hI M (M 1 (((f_MM_placeOf x4) + ((f_MM_wideOf x4) * x5)) + (1 : Int32)).toNatClampNeg) x1 x2 rfl) (cw_MM_260 S.2.2.2.2 (Nat.le_trans (Nat.le_of_ble_eq_true rfl) hR.1) (Nat.le_trans (Nat.le_of_ble_eq_true rfl) hR.2)) rfl hl.1 rfl (Nat.le_of_ble_eq_true rfl) d_MM_trade_145 ⟨Nat.zero_le _, Nat.zero_le _⟩ (fun H locs hH => ?_)
        obtain ⟨M7, hM7, hf2⟩ := o_l hf2
        refine q_iast (j := (((f_MM_placeOf x4) + ((f_MM_wideOf x4) * x5)) + (1 : Int32)).toNatClampNeg) hx hb hX hI hH (aa_MM_1 hZ) hn6 rfl d_MM_trade_148 (fun H locs hH => ?_)
        rw [hM7] at hH
        refine lv_aload_n hx hb d_MM_trade_149 rfl (lv_at hl 1 rfl) ?_
        refine g_MM_9 S hX hH hZ d_MM_trade_150 ?_
        refine lv_iload hx hb d_MM_trade_153 (lv_at hl 0 rfl) ?_
        refine lv_iconst (v := (2 : Int32)) hx hb d_MM_trade_155 (by decide) ?_
        refine lv_iadd hx hb d_MM_trade_156 ?_
        refine lv_aload_n hx hb d_MM_trade_157 rfl (lv_at hl 1 rfl) ?_
        refine g_MM_9 S hX hH hZ d_MM_trade_158 ?_
        refine lv_iload hx hb d_MM_trade_161 (lv_at hl 0 rfl) ?_
        refine lv_iconst (v := (2 : Int32)) hx hb d_MM_trade_163 (by decide) ?_
        refine lv_iadd hx hb d_MM_trade_164 ?_
        obtain ⟨hn8, hf2⟩ := o_in hf2
        refine q_iald (j := (((f_MM_placeOf x4) + ((f_MM_wideOf x4) * x5)) + (2 : Int32)).toNatClampNeg) hx hb hX hH (aa_MM_1 hZ) hn8 rfl d_MM_trade_165 ?_
        refine lv_iload_n hx hb d_MM_trade_166 rfl (lv_at hl 2 rfl) ?_
        refine lv_iload_n hx hb d_MM_trade_167 rfl (lv_at hl 3 rfl) ?_
        refine q_cSi (As := [.int (M7 1 (((f_MM_placeOf x4) + ((f_MM_wideOf x4) * x5)) + (2 : Int32)).toNatClampNeg), .int x1, .int x2]) (rest := [.int (((f_MM_placeOf x4) + ((f_MM_wideOf x4) * x5)) + (2 : Int32)), .ref (Z.2.2.1 1)]) S hX hH (c_MM_traded l hI M7 (M7 1 (((f_MM_placeOf x4) + ((f_MM_wideOf x4) * x5)) + (2 : Int32)).toNatClampNeg) x1 x2 rfl) (cw_MM_260 S.2.2.2.2 (Nat.le_trans (Nat.le_of_ble_eq_true rfl) hR.1) (Nat.le_trans (Nat.le_of_ble_eq_true rfl) hR.2)) rfl hl.1 rfl (Nat.le_of_ble_eq_true rfl) d_MM_trade_168 ⟨Nat.zero_le _, Nat.zero_le _⟩ (fun H locs hH => ?_)
        obtain ⟨M9, hM9, hf2⟩ := o_l hf2
        refine q_iast (j := (((f_MM_placeOf x4) + ((f_MM_wideOf x4) * x5)) + (2 : Int32)).toNatClampNeg) hx hb hX hI hH (aa_MM_1 hZ) hn8 rfl d_MM_trade_171 (fun H locs hH => ?_)
        rw [hM9] at hH
        refine lv_iconst (v := (0 : Int32)) hx hb d_MM_trade_172 (by decide) ?_
        refine lv_istore (lv' := [(7, .int (0 : Int32)), (6, .int ((f_MM_placeOf x4) + ((f_MM_wideOf x4) * x5))), (0, .ref (Z.2.2.1 0)), (1, .int x1), (2, .int x2), (4, .int x4), (5, .int x5)]) hx hb d_MM_trade_173 hl (by decide) rfl (fun ls hl => ?_)
        exact J175 _ _ _ _ _ _ _ hf2 hH (lv_sub hl [2, 3, 4, 5, 6, 1, 0] rfl)
    refine lv_iload hx hb d_MM_trade_86 (lv_at hl 3 rfl) ?_
    refine lv_iconst (v := (3 : Int32)) hx hb d_MM_trade_88 (by decide) ?_
    refine lv_icmp_ge (tgt := 252) hx hb d_MM_trade_89 (by decide) (fun hc => ?_) (fun hc => ?_)
    · replace hf1 := o_t hc hf1
      refine lv_aload_n hx hb d_MM_trade_252 rfl (lv_at hl 0 rfl) ?_
      refine g_MM_9 S hX hH hZ d_MM_trade_253 ?_
      refine lv_iconst (v := (0 : Int32)) hx hb d_MM_trade_256 (by decide) ?_
      refine q_iald (j := 0) hx hb hX hH (aa_MM_1 hZ) (vp_c (by decide)) (by decide) d_MM_trade_257 ?_
      obtain rfl := hR1 _ (o_v hf1).symm
      obtain ⟨rfl, rfl⟩ := o_p hf0
      exact hQ _ _ _ _ hH d_MM_trade_258
    · replace hf1 := o_f hc hf1
      refine lv_iconst (v := (0 : Int32)) hx hb d_MM_trade_92 (by decide) ?_
      refine lv_istore (lv' := [(5, .int (0 : Int32)), (0, .ref (Z.2.2.1 0)), (1, .int x1), (2, .int x2), (4, .int x4)]) hx hb d_MM_trade_93 hl (by decide) rfl (fun ls hl => ?_)
      exact J95 _ _ _ _ _ _ hf1 hH (lv_sub hl [1, 2, 3, 4, 0] rfl)
  have J37 : ∀ (M : Mem) (x1 : Int32) (x2 : Int32) (x3 : Int32) (x4 : Int32) (H : Heap) (locs : List Loc) (ls : Array Slot), f_MM_trade_J37 M x1 x2 x3 x4 = some (r, M') → HW Z M s H locs → lv_has ls 8 [(0, .ref (Z.2.2.1 0)), (1, .int x1), (2, .int x2), (3, .int x3), (4, .int x4)] → W p l e R s m args below meth c H locs 0 0 Q (F0 m 37 ls []) := by
    intro M x1 x2 x3 x4 H locs ls hf0 hH hl
    unfold f_MM_trade_J37 at hf0
    obtain ⟨e37, he37, hf0⟩ := o_b hf0
    have KX37 : ∀ (H : Heap) (locs : List Loc) (ls : Array Slot), HW Z M s H locs → lv_has ls 8 [(0, .ref (Z.2.2.1 0)), (1, .int x1), (2, .int x2), (3, .int e37)] → W p l e R s m args below meth c H locs 0 0 Q (F0 m 75 ls []) := by
      intro H locs ls hH hl
      refine lv_aload_n hx hb d_MM_trade_75 rfl (lv_at hl 0 rfl) ?_
      refine g_MM_9 S hX hH hZ d_MM_trade_76 ?_
      refine lv_bipush (v := (6 : Int32)) hx hb d_MM_trade_79 (by decide) ?_
      refine lv_iload_n hx hb d_MM_trade_81 rfl (lv_at hl 3 rfl) ?_
      obtain ⟨M10, hM10, hf0⟩ := o_l hf0
      refine q_iast (j := 6) hx hb hX hI hH (aa_MM_1 hZ) (vp_c (by decide)) (by decide) d_MM_trade_82 (fun H locs hH => ?_)
      rw [hM10] at hH
      refine lv_iconst (v := (0 : Int32)) hx hb d_MM_trade_83 (by decide) ?_
      refine lv_istore (lv' := [(4, .int (0 : Int32)), (0, .ref (Z.2.2.1 0)), (1, .int x1), (2, .int x2), (3, .int e37)]) hx hb d_MM_trade_84 hl (by decide) rfl (fun ls hl => ?_)
      exact J86 _ _ _ _ _ _ _ hf0 hH (lv_sub hl [1, 2, 3, 0] rfl)
    unfold f_MM_trade_W37 at he37
    refine loop_W (fun t => ∀ (H : Heap) (locs : List Loc) (ls : Array Slot), HW Z M s H locs → lv_has ls 8 [(0, .ref (Z.2.2.1 0)), (1, .int x1), (2, .int x2), (3, .int t.1), (4, .int t.2)] → W p l e R s m args below meth c H locs 0 0 Q (F0 m 37 ls [])) ?_ he37 H locs ls hH hl
    rintro ⟨x3, x4⟩ o1 hf1 hG1 hR1 H locs ls hH hl
    replace hH : HW Z M s H locs := hH
    replace hl : lv_has ls 8 [(0, .ref (Z.2.2.1 0)), (1, .int x1), (2, .int x2), (3, .int x3), (4, .int x4)] := hl
    replace hf1 : f_MM_trade_L37 M x1 x2 x3 x4 = some o1 := hf1
    unfold f_MM_trade_L37 at hf1
    have J67 : ∀ (x4 : Int32) (s0 : Int32) (s1 : Int32) (H : Heap) (locs : List Loc) (ls : Array Slot), f_MM_trade_J67 M x1 x2 x4 s0 s1 = some o1 → HW Z M s H locs → lv_has ls 8 [(0, .ref (Z.2.2.1 0)), (1, .int x1), (2, .int x2), (4, .int x4)] → W p l e R s m args below meth c H locs 0 0 Q (F0 m 67 ls [.int s0, .int s1]) := by
      intro x4 s0 s1 H locs ls hf1 hH hl
      unfold f_MM_trade_J67 at hf1
      refine lv_ior hx hb d_MM_trade_67 ?_
      refine lv_istore_n (lv' := [(3, .int (s1 ||| s0)), (0, .ref (Z.2.2.1 0)), (1, .int x1), (2, .int x2), (4, .int x4)]) hx hb d_MM_trade_68 rfl hl (by decide) rfl (fun ls hl => ?_)
      refine lv_iinc (v := x4 + (1 : Int32)) (lv' := [(4, .int (x4 + (1 : Int32))), (3, .int (s1 ||| s0)), (0, .ref (Z.2.2.1 0)), (1, .int x1), (2, .int x2)]) hx hb d_MM_trade_69 hl (k := 4) rfl rfl (by decide) rfl (fun ls hl => ?_)
      refine lv_goto (tgt := 37) hx hb d_MM_trade_72 (by decide) ?_
      exact hG1 _ (o_v hf1).symm _ _ _ hH (lv_sub hl [2, 3, 4, 1, 0] rfl)
    refine lv_iload hx hb d_MM_trade_37 (lv_at hl 4 rfl) ?_
    refine lv_bipush (v := (8 : Int32)) hx hb d_MM_trade_39 (by decide) ?_
    refine lv_icmp_ge (tgt := 75) hx hb d_MM_trade_41 (by decide) (fun hc => ?_) (fun hc => ?_)
    · replace hf1 := o_t hc hf1
      obtain rfl := hR1 _ (o_v hf1).symm
      exact KX37 _ _ _ hH (lv_sub hl [0, 1, 2, 3] rfl)
    · replace hf1 := o_f hc hf1
      refine lv_iload_n hx hb d_MM_trade_44 rfl (lv_at hl 3 rfl) ?_
      refine lv_aload_n hx hb d_MM_trade_45 rfl (lv_at hl 0 rfl) ?_
      refine lv_iload hx hb d_MM_trade_46 (lv_at hl 4 rfl) ?_
      refine q_cVi (As := [.int x4]) (rest := [.int x3]) S hX hH (c_MM_isLiar l hI hZ M x4 rfl) (cw_MM_205 S.2.2.2.2 (Nat.le_trans (Nat.le_of_ble_eq_true rfl) hR.1) (Nat.le_trans (Nat.le_of_ble_eq_true rfl) hR.2)) (rc_MM hX hH hZ) rfl hl.1 rfl (Nat.le_of_ble_eq_true rfl) d_MM_trade_48 ⟨Nat.zero_le _, Nat.zero_le _⟩ (fun H locs hH => ?_)
      refine lv_if_eq (tgt := 66) hx hb d_MM_trade_51 (by decide) (fun hc => ?_) (fun hc => ?_)
      · replace hf1 := o_t hc hf1
        refine lv_iconst (v := (0 : Int32)) hx hb d_MM_trade_66 (by decide) ?_
        exact J67 _ _ _ _ _ _ hf1 hH (lv_sub hl [0, 1, 2, 4] rfl)
      · replace hf1 := o_f hc hf1
        refine lv_iconst (v := (1 : Int32)) hx hb d_MM_trade_54 (by decide) ?_
        refine lv_iload hx hb d_MM_trade_55 (lv_at hl 4 rfl) ?_
        refine lv_iload_n hx hb d_MM_trade_57 rfl (lv_at hl 1 rfl) ?_
        refine lv_iload_n hx hb d_MM_trade_58 rfl (lv_at hl 2 rfl) ?_
        refine q_cSi (As := [.int x4, .int x1, .int x2]) (rest := [.int (1 : Int32), .int x3]) S hX hH (c_MM_traded l hI M x4 x1 x2 rfl) (cw_MM_260 S.2.2.2.2 (Nat.le_trans (Nat.le_of_ble_eq_true rfl) hR.1) (Nat.le_trans (Nat.le_of_ble_eq_true rfl) hR.2)) rfl hl.1 rfl (Nat.le_of_ble_eq_true rfl) d_MM_trade_59 ⟨Nat.zero_le _, Nat.zero_le _⟩ (fun H locs hH => ?_)
        refine lv_ishl hx hb d_MM_trade_62 ?_
        refine lv_goto (tgt := 67) hx hb d_MM_trade_63 (by decide) ?_
        exact J67 _ _ _ _ _ _ hf1 hH (lv_sub hl [0, 1, 2, 4] rfl)
  refine lv_aload_n hx hb d_MM_trade_0 rfl (lv_at hl 0 rfl) ?_
  refine lv_iload_n hx hb d_MM_trade_1 rfl (lv_at hl 1 rfl) ?_
  refine lv_iload_n hx hb d_MM_trade_2 rfl (lv_at hl 2 rfl) ?_
  refine q_cVi (As := [.int x1, .int x2]) (rest := []) S hX hH (c_MM_areUnlike l hI hZ M x1 x2 rfl) (cw_MM_224 S.2.2.2.2 (Nat.le_trans (Nat.le_of_ble_eq_true rfl) hR.1) (Nat.le_trans (Nat.le_of_ble_eq_true rfl) hR.2)) (rc_MM hX hH hZ) rfl hl.1 rfl (Nat.le_of_ble_eq_true rfl) d_MM_trade_3 ⟨Nat.zero_le _, Nat.zero_le _⟩ (fun H locs hH => ?_)
  refine lv_if_ne (tgt := 11) hx hb d_MM_trade_6 (by decide) (fun hc => ?_) (fun hc => ?_)
  · replace hf0 := o_f hc hf0
    refine lv_aload_n hx hb d_MM_trade_11 rfl (lv_at hl 0 rfl) ?_
    obtain ⟨M12, hc11, hf0⟩ := o_b hf0
    refine q_cVv (As := []) (rest := []) S hX hH (c_MM_keepsPast l hI hZ M hc11) (cw_MM_217 S.2.2.2.2 (Nat.le_trans (Nat.le_of_ble_eq_true rfl) hR.1) (Nat.le_trans (Nat.le_of_ble_eq_true rfl) hR.2)) (rc_MM hX hH hZ) rfl hl.1 rfl (Nat.le_of_ble_eq_true rfl) d_MM_trade_12 ⟨Nat.zero_le _, Nat.zero_le _⟩ (fun H locs hH => ?_)
    refine lv_aload_n hx hb d_MM_trade_15 rfl (lv_at hl 0 rfl) ?_
    refine g_MM_9 S hX hH hZ d_MM_trade_16 ?_
    refine lv_iconst (v := (1 : Int32)) hx hb d_MM_trade_19 (by decide) ?_
    refine lv_aload_n hx hb d_MM_trade_20 rfl (lv_at hl 0 rfl) ?_
    refine g_MM_9 S hX hH hZ d_MM_trade_21 ?_
    refine lv_iconst (v := (1 : Int32)) hx hb d_MM_trade_24 (by decide) ?_
    refine q_iald (j := 1) hx hb hX hH (aa_MM_1 hZ) (vp_c (by decide)) (by decide) d_MM_trade_25 ?_
    refine lv_iload_n hx hb d_MM_trade_26 rfl (lv_at hl 1 rfl) ?_
    refine lv_iload_n hx hb d_MM_trade_27 rfl (lv_at hl 2 rfl) ?_
    refine q_cSi (As := [.int (M12 1 1), .int x1, .int x2]) (rest := [.int (1 : Int32), .ref (Z.2.2.1 1)]) S hX hH (c_MM_traded l hI M12 (M12 1 1) x1 x2 rfl) (cw_MM_260 S.2.2.2.2 (Nat.le_trans (Nat.le_of_ble_eq_true rfl) hR.1) (Nat.le_trans (Nat.le_of_ble_eq_true rfl) hR.2)) rfl hl.1 rfl (Nat.le_of_ble_eq_true rfl) d_MM_trade_28 ⟨Nat.zero_le _, Nat.zero_le _⟩ (fun H locs hH => ?_)
    obtain ⟨M13, hM13, hf0⟩ := o_l hf0
    refine q_iast (j := 1) hx hb hX hI hH (aa_MM_1 hZ) (vp_c (by decide)) (by decide) d_MM_trade_31 (fun H locs hH => ?_)
    rw [hM13] at hH
    refine lv_iconst (v := (0 : Int32)) hx hb d_MM_trade_32 (by decide) ?_
    refine lv_istore_n (lv' := [(3, .int (0 : Int32)), (0, .ref (Z.2.2.1 0)), (1, .int x1), (2, .int x2)]) hx hb d_MM_trade_33 rfl hl (by decide) rfl (fun ls hl => ?_)
    refine lv_iconst (v := (0 : Int32)) hx hb d_MM_trade_34 (by decide) ?_
    refine lv_istore (lv' := [(4, .int (0 : Int32)), (3, .int (0 : Int32)), (0, .ref (Z.2.2.1 0)), (1, .int x1), (2, .int x2)]) hx hb d_MM_trade_35 hl (by decide) rfl (fun ls hl => ?_)
    exact J37 _ _ _ _ _ _ _ _ hf0 hH (lv_sub hl [2, 3, 4, 1, 0] rfl)
  · replace hf0 := o_t hc hf0
    refine lv_iconst (v := (-1 : Int32)) hx hb d_MM_trade_9 (by decide) ?_
    obtain ⟨rfl, rfl⟩ := o_p hf0
    exact hQ _ _ _ _ hH d_MM_trade_10
theorem c_MM_trade (l : Launch) {Z : WD} (hI : wI Z) (hZ : IsM Z) (M : Mem) (x1 : Int32) (x2 : Int32) {r : Int32} {M' : Mem} (hf : f_MM_trade M x1 x2 = some (r, M')) : Ci l Z y_MM_trade b_MM_trade 8 (some .int) 3 68 [.ref (Z.2.2.1 0), .int x1, .int x2] M M' r := by
  refine Met.ofW (cc := b_MM_trade) (maxL := 8) (ret := (some .int)) (by decide) rfl ?_
  intro p e s m args below meth c s₁ B hml hv
  obtain ⟨rfl, hP, hX⟩ := hv
  have S : CallFix p m c b_MM_trade 8 s ([.ref (Z.2.2.1 0), .int x1, .int x2] : List Value).toArray gtb R_MM := ⟨B.exec, B.bytes, hml, findClass_of_methodNamed B.named, fun w hw => atoms_spec (ws := .code y_MM_trade b_MM_trade 8 (some .int) :: gtb) B.pre w (List.mem_cons_of_mem _ hw)⟩
  have hl := lv_entry ([.ref (Z.2.2.1 0), .int x1, .int x2]) (n := 8) (Nat.le_of_ble_eq_true rfl)
  rw [lg_entry_eq]
  exact wk_MM_trade hI hZ M x1 x2 S hX ⟨Nat.le_refl _, Nat.le_refl _⟩ (fun pc H locs ls hH d => q_ri S.1 S.2.1 B.returns B.notSynchronized hH rfl rfl d) hf ⟨hP, va_S.rf⟩ hl
noncomputable def f_MM_isHonest_J20 (M : Mem) : Bool := false
noncomputable def f_MM_isHonest (M : Mem) (x1 : Int32) : Bool := 
    if (bI (f_MM_isParty M x1)) = 0 then f_MM_isHonest_J20 M else if (bI (f_MM_isLiar M x1)) = 0 then true else f_MM_isHonest_J20 M
set_option maxHeartbeats 4000000 in
theorem wk_MM_isHonest {l : Launch} {Z : WD} (hI : wI Z) (hZ : IsM Z) (M : Mem) (x1 : Int32) {r : Bool} {p : Program} {e : Env} {R : Room} {s : State} {m : MethodId} {args : Array Value} {below : List Frame} {meth : Method} {c : Code} {H : Heap} {locs : List Loc} {ls : Array Slot} {Q : State → Prop} (S : CallFix p m c b_MM_isHonest 2 s args gtb R_MM) (hX : wX Z s) (hR : 2 ≤ R.frames ∧ 46 ≤ R.locals) (hQ : ∀ (pc : Nat) (H : Heap) (locs : List Loc) (ls : Array Slot), HW Z M s H locs → decode b_MM_isHonest pc = .ok (.ireturn, 1) → W p l e R s m args below meth c H locs 0 0 Q (F0 m pc ls [.int (bI r)])) (hf0 : f_MM_isHonest M x1 = r) (hH : HW Z M s H locs) (hl : lv_has ls 2 [(0, .ref (Z.2.2.1 0)), (1, .int x1)]) : W p l e R s m args below meth c H locs 0 0 Q (F0 m 0 ls []) := by
  have hx := S.1
  have hb := S.2.1
  have hown := S.2.2.2.1
  have ht := S.2.2.2.2
  unfold f_MM_isHonest at hf0
  have J20 : ∀ (H : Heap) (locs : List Loc) (ls : Array Slot), f_MM_isHonest_J20 M = r → HW Z M s H locs → lv_has ls 2 [] → W p l e R s m args below meth c H locs 0 0 Q (F0 m 20 ls []) := by
    intro H locs ls hf0 hH hl
    unfold f_MM_isHonest_J20 at hf0
    refine lv_iconst (v := (0 : Int32)) hx hb d_MM_isHonest_20 (by decide) ?_
    subst hf0
    exact hQ _ _ _ _ hH d_MM_isHonest_21
  refine lv_aload_n hx hb d_MM_isHonest_0 rfl (lv_at hl 0 rfl) ?_
  refine lv_iload_n hx hb d_MM_isHonest_1 rfl (lv_at hl 1 rfl) ?_
  refine q_cVi (As := [.int x1]) (rest := []) S hX hH (c_MM_isParty l hI hZ M x1 rfl) (cw_MM_197 S.2.2.2.2 (Nat.le_trans (Nat.le_of_ble_eq_true rfl) hR.1) (Nat.le_trans (Nat.le_of_ble_eq_true rfl) hR.2)) (rc_MM hX hH hZ) rfl hl.1 rfl (Nat.le_of_ble_eq_true rfl) d_MM_isHonest_2 ⟨Nat.zero_le _, Nat.zero_le _⟩ (fun H locs hH => ?_)
  refine lv_if_eq (tgt := 20) hx hb d_MM_isHonest_5 (by decide) (fun hc => ?_) (fun hc => ?_)
  · replace hf0 := o_t hc hf0
    exact J20 _ _ _ hf0 hH (lv_sub hl [] rfl)
  · replace hf0 := o_f hc hf0
    refine lv_aload_n hx hb d_MM_isHonest_8 rfl (lv_at hl 0 rfl) ?_
    refine lv_iload_n hx hb d_MM_isHonest_9 rfl (lv_at hl 1 rfl) ?_
    refine q_cVi (As := [.int x1]) (rest := []) S hX hH (c_MM_isLiar l hI hZ M x1 rfl) (cw_MM_205 S.2.2.2.2 (Nat.le_trans (Nat.le_of_ble_eq_true rfl) hR.1) (Nat.le_trans (Nat.le_of_ble_eq_true rfl) hR.2)) (rc_MM hX hH hZ) rfl hl.1 rfl (Nat.le_of_ble_eq_true rfl) d_MM_isHonest_10 ⟨Nat.zero_le _, Nat.zero_le _⟩ (fun H locs hH => ?_)
    refine lv_if_ne (tgt := 20) hx hb d_MM_isHonest_13 (by decide) (fun hc => ?_) (fun hc => ?_)
    · replace hf0 := o_f hc hf0
      exact J20 _ _ _ hf0 hH (lv_sub hl [] rfl)
    · replace hf0 := o_t hc hf0
      refine lv_iconst (v := (1 : Int32)) hx hb d_MM_isHonest_16 (by decide) ?_
      refine lv_goto (tgt := 21) hx hb d_MM_isHonest_17 (by decide) ?_
      subst hf0
      exact hQ _ _ _ _ hH d_MM_isHonest_21
theorem c_MM_isHonest (l : Launch) {Z : WD} (hI : wI Z) (hZ : IsM Z) (M : Mem) (x1 : Int32) {r : Bool} (hf : f_MM_isHonest M x1 = r) : Ci l Z y_MM_isHonest b_MM_isHonest 2 (some .boolean) 2 46 [.ref (Z.2.2.1 0), .int x1] M M (bI r) := by
  refine Met.ofW (cc := b_MM_isHonest) (maxL := 2) (ret := (some .boolean)) (by decide) rfl ?_
  intro p e s m args below meth c s₁ B hml hv
  obtain ⟨rfl, hP, hX⟩ := hv
  have S : CallFix p m c b_MM_isHonest 2 s ([.ref (Z.2.2.1 0), .int x1] : List Value).toArray gtb R_MM := ⟨B.exec, B.bytes, hml, findClass_of_methodNamed B.named, fun w hw => atoms_spec (ws := .code y_MM_isHonest b_MM_isHonest 2 (some .boolean) :: gtb) B.pre w (List.mem_cons_of_mem _ hw)⟩
  have hl := lv_entry ([.ref (Z.2.2.1 0), .int x1]) (n := 2) (Nat.le_of_ble_eq_true rfl)
  rw [lg_entry_eq]
  exact wk_MM_isHonest hI hZ M x1 S hX ⟨Nat.le_refl _, Nat.le_refl _⟩ (fun pc H locs ls hH d => q_rz S.1 S.2.1 B.returns B.notSynchronized hH rfl rfl d) hf ⟨hP, va_S.rf⟩ hl
noncomputable def f_MM_cell (x0 : Int32) (x1 : Int32) : Int32 := ((4 : Int32) * x0) + x1
set_option maxHeartbeats 4000000 in
theorem wk_MM_cell {l : Launch} {Z : WD} (hI : wI Z) (M : Mem) (x0 : Int32) (x1 : Int32) {r : Int32} {p : Program} {e : Env} {R : Room} {s : State} {m : MethodId} {args : Array Value} {below : List Frame} {meth : Method} {c : Code} {H : Heap} {locs : List Loc} {ls : Array Slot} {Q : State → Prop} (S : CallFix p m c b_MM_cell 2 s args gtb R_MM) (hX : wX Z s) (hR : 0 ≤ R.frames ∧ 0 ≤ R.locals) (hQ : ∀ (pc : Nat) (H : Heap) (locs : List Loc) (ls : Array Slot), HW Z M s H locs → decode b_MM_cell pc = .ok (.ireturn, 1) → W p l e R s m args below meth c H locs 0 0 Q (F0 m pc ls [.int r])) (hf0 : f_MM_cell x0 x1 = r) (hH : HW Z M s H locs) (hl : lv_has ls 2 [(0, .int x0), (1, .int x1)]) : W p l e R s m args below meth c H locs 0 0 Q (F0 m 0 ls []) := by
  have hx := S.1
  have hb := S.2.1
  have hown := S.2.2.2.1
  have ht := S.2.2.2.2
  unfold f_MM_cell at hf0
  refine lv_iconst (v := (4 : Int32)) hx hb d_MM_cell_0 (by decide) ?_
  refine lv_iload_n hx hb d_MM_cell_1 rfl (lv_at hl 0 rfl) ?_
  refine lv_imul hx hb d_MM_cell_2 ?_
  refine lv_iload_n hx hb d_MM_cell_3 rfl (lv_at hl 1 rfl) ?_
  refine lv_iadd hx hb d_MM_cell_4 ?_
  subst hf0
  exact hQ _ _ _ _ hH d_MM_cell_5
theorem c_MM_cell (l : Launch) {Z : WD} (hI : wI Z) (M : Mem) (x0 : Int32) (x1 : Int32) {r : Int32} (hf : f_MM_cell x0 x1 = r) : Ci l Z y_MM_cell b_MM_cell 2 (some .int) 0 0 [.int x0, .int x1] M M r := by
  refine Met.ofW (cc := b_MM_cell) (maxL := 2) (ret := (some .int)) (by decide) rfl ?_
  intro p e s m args below meth c s₁ B hml hv
  obtain ⟨rfl, hP, hX⟩ := hv
  have S : CallFix p m c b_MM_cell 2 s ([.int x0, .int x1] : List Value).toArray gtb R_MM := ⟨B.exec, B.bytes, hml, findClass_of_methodNamed B.named, fun w hw => atoms_spec (ws := .code y_MM_cell b_MM_cell 2 (some .int) :: gtb) B.pre w (List.mem_cons_of_mem _ hw)⟩
  have hl := lv_entry ([.int x0, .int x1]) (n := 2) (Nat.le_of_ble_eq_true rfl)
  rw [lg_entry_eq]
  exact wk_MM_cell hI M x0 x1 S hX ⟨Nat.le_refl _, Nat.le_refl _⟩ (fun pc H locs ls hH d => q_ri S.1 S.2.1 B.returns B.notSynchronized hH rfl rfl d) hf ⟨hP, va_S.rf⟩ hl
theorem cw_MM_276 {R : Room} {s : State} {args : Array Value} (ht : ∀ w ∈ gtb, w.before args s = true) (h1 : 0 + 1 ≤ R.frames) (h2 : 8 + (2 + 11) + 0 ≤ R.locals) : CallB R s args R_MM 276 y_MM_cell b_MM_cell 2 (some .int) (.code y_MM_cell b_MM_cell 2 (some .int) :: gtb) { frames := 0, cells := 0, slots := 0, locals := 0 } 0 0 2 ∧ (Cond.static y_MM_cell).before args s = true := va_cwS 2 ht (gS w6_23 w6_24 w1_10 w6_25) rfl rfl rfl ⟨by decide, by decide, by decide +kernel⟩ ⟨h1, h2⟩
noncomputable def f_MM_sends_L235 (x3 : Int32) (x4 : Int32) (x5 : Int32) (x6 : Int32) (x10 : Int32) (M : Mem) : Option ((Int32 × Mem) ⊕ Mem) := if x5 ≤ x10 then some (.inr M) else 
    gIn x6 260 (if (M 14 x6.toNatClampNeg) = (-1 : Int32) then some (.inr M) else 
    if (bI (f_MM_isLiar M x3)) = 0 then some (.inr M) else 
    gIn x10 8 (gIn (f_MM_cell (M 8 x10.toNatClampNeg) x4) 32 (lt1 (upM M 19 ((f_MM_cell (M 8 x10.toNatClampNeg) x4).toNatClampNeg) (miI (M 19 (f_MM_cell (M 8 x10.toNatClampNeg) x4).toNatClampNeg) ((M 14 x6.toNatClampNeg) + (1 : Int32)))) (fun M4 => some (.inl (x10 + (1 : Int32), M4))))))
noncomputable def f_MM_sends_W235 (x3 : Int32) (x4 : Int32) (x5 : Int32) (x6 : Int32) (u : (Int32 × Mem)) : Option Mem := loop (fun t => f_MM_sends_L235 x3 x4 x5 x6 t.1 t.2) u
noncomputable def f_MM_sends_J235 (M : Mem) (x3 : Int32) (x4 : Int32) (x5 : Int32) (x6 : Int32) (x10 : Int32) : Option (Mem) := bnd (f_MM_sends_W235 x3 x4 x5 x6 (x10, M)) (fun e235 => some e235)
noncomputable def f_MM_sends_J221 (M : Mem) (x3 : Int32) (x4 : Int32) (x5 : Int32) (x6 : Int32) (s0 : Int32) (s1 : Int32) : Option (Mem) := gIn s1 260 (lt1 (upM M 14 s1.toNatClampNeg s0) (fun M6 => lt1 (upM M6 0 21 ((M6 0 21) + (1 : Int32))) (fun M7 => f_MM_sends_J235 M7 x3 x4 x5 x6 (0 : Int32))))
noncomputable def f_MM_sends_J215 (M : Mem) (x3 : Int32) (x4 : Int32) (x5 : Int32) (x6 : Int32) (s0 : Int32) : Option (Mem) := f_MM_sends_J221 M x3 x4 x5 x6 (-1 : Int32) s0
noncomputable def f_MM_sends_J204 (M : Mem) (x3 : Int32) (x4 : Int32) (x5 : Int32) (x6 : Int32) (x9 : Int32) (s0 : Int32) : Option (Mem) := if x9 ≤ (M 1 3) then f_MM_sends_J221 M x3 x4 x5 x6 x9 s0 else f_MM_sends_J215 M x3 x4 x5 x6 s0
noncomputable def f_MM_sends_J171 (M : Mem) (x1 : Int32) (x2 : Int32) (x3 : Int32) (x4 : Int32) (x5 : Int32) (x6 : Int32) (x8 : Int32) (s0 : Int32) (s1 : Int32) : Option (Mem) := bnd (f_MM_faultOf M (1 : Int32) x1 x2 x3) (fun y9 => 
    if y9 = (-1 : Int32) then 
    if x8 = 0 then f_MM_sends_J204 M x3 x4 x5 x6 (s1 + s0) x6 else 
    if (M 0 31) = 0 then f_MM_sends_J215 M x3 x4 x5 x6 x6 else f_MM_sends_J204 M x3 x4 x5 x6 (s1 + s0) x6 else f_MM_sends_J215 M x3 x4 x5 x6 x6)
noncomputable def f_MM_sends_J131 (M : Mem) (x1 : Int32) (x2 : Int32) (x3 : Int32) (x4 : Int32) (x5 : Int32) (x6 : Int32) (x7 : Int32) (s0 : Int32) : Option (Mem) := if s0 = 0 then 
    if x7 = (-1 : Int32) then f_MM_sends_J171 M x1 x2 x3 x4 x5 x6 s0 (0 : Int32) x1 else 
    gIn (((254 : Int32) + ((4 : Int32) * x7)) + (3 : Int32)) 302 (f_MM_sends_J171 M x1 x2 x3 x4 x5 x6 s0 (M 1 (((254 : Int32) + ((4 : Int32) * x7)) + (3 : Int32)).toNatClampNeg) x1) else f_MM_sends_J171 M x1 x2 x3 x4 x5 x6 s0 (M 0 31) x1
noncomputable def f_MM_sends_J130 (M : Mem) (x1 : Int32) (x2 : Int32) (x3 : Int32) (x4 : Int32) (x5 : Int32) (x6 : Int32) (x7 : Int32) : Option (Mem) := f_MM_sends_J131 M x1 x2 x3 x4 x5 x6 x7 (0 : Int32)
noncomputable def f_MM_sends_L59 (x5 : Int32) (x6 : Int32) (x7 : Int32) (M : Mem) : Option ((Int32 × Mem) ⊕ Mem) := if x5 ≤ x7 then some (.inr M) else 
    gIn x7 8 (gIn (((8 : Int32) * x6) + x7) 2080 (lt1 (upM M 16 ((((8 : Int32) * x6) + x7).toNatClampNeg) (M 8 x7.toNatClampNeg)) (fun M13 => some (.inl (x7 + (1 : Int32), M13)))))
noncomputable def f_MM_sends_W59 (x5 : Int32) (x6 : Int32) (u : (Int32 × Mem)) : Option Mem := loop (fun t => f_MM_sends_L59 x5 x6 t.1 t.2) u
noncomputable def f_MM_sends_J59 (M : Mem) (x1 : Int32) (x2 : Int32) (x3 : Int32) (x4 : Int32) (x5 : Int32) (x6 : Int32) (x7 : Int32) : Option (Mem) := bnd (f_MM_sends_W59 x5 x6 (x7, M)) (fun e59 => bnd (f_MM_faultOf e59 (2 : Int32) x1 x2 x3) (fun y15 => 
    if (e59 0 28) = x1 then 
    if (e59 0 29) = x2 then 
    if (e59 0 30) = x3 then f_MM_sends_J131 e59 x1 x2 x3 x4 x5 x6 y15 (1 : Int32) else f_MM_sends_J130 e59 x1 x2 x3 x4 x5 x6 y15 else f_MM_sends_J130 e59 x1 x2 x3 x4 x5 x6 y15 else f_MM_sends_J130 e59 x1 x2 x3 x4 x5 x6 y15))
noncomputable def f_MM_sends (M : Mem) (x1 : Int32) (x2 : Int32) (x3 : Int32) (x4 : Int32) (x5 : Int32) : Option Mem := 
    gIn (M 0 21) 260 (lt1 (upM M 9 ((M 0 21).toNatClampNeg) x1) (fun M17 => 
    lt1 (upM M17 10 ((M 0 21).toNatClampNeg) x2) (fun M18 => 
    lt1 (upM M18 11 ((M 0 21).toNatClampNeg) x3) (fun M19 => 
    lt1 (upM M19 12 ((M 0 21).toNatClampNeg) x4) (fun M20 => 
    lt1 (upM M20 13 ((M 0 21).toNatClampNeg) x5) (fun M21 => 
    lt1 (upM M21 15 ((M 0 21).toNatClampNeg) (0 : Int32)) (fun M22 => f_MM_sends_J59 M22 x1 x2 x3 x4 x5 (M 0 21) (0 : Int32))))))))
set_option maxHeartbeats 4000000 in
theorem wk_MM_sends {l : Launch} {Z : WD} (hI : wI Z) (hZ : IsM Z) (M : Mem) (x1 : Int32) (x2 : Int32) (x3 : Int32) (x4 : Int32) (x5 : Int32) {M' : Mem} {p : Program} {e : Env} {R : Room} {s : State} {m : MethodId} {args : Array Value} {below : List Frame} {meth : Method} {c : Code} {H : Heap} {locs : List Loc} {ls : Array Slot} {Q : State → Prop} (S : CallFix p m c b_MM_sends 11 s args gtb R_MM) (hX : wX Z s) (hR : 2 ≤ R.frames ∧ 46 ≤ R.locals) (hQ : ∀ (pc : Nat) (H : Heap) (locs : List Loc) (ls : Array Slot), HW Z M' s H locs → decode b_MM_sends pc = .ok (.return_, 1) → W p l e R s m args below meth c H locs 0 0 Q (F0 m pc ls [])) (hf0 : f_MM_sends M x1 x2 x3 x4 x5 = some M') (hH : HW Z M s H locs) (hl : lv_has ls 11 [(0, .ref (Z.2.2.1 0)), (1, .int x1), (2, .int x2), (3, .int x3), (4, .int x4), (5, .int x5)]) : W p l e R s m args below meth c H locs 0 0 Q (F0 m 0 ls []) := by
  have hx := S.1
  have hb := S.2.1
  have hown := S.2.2.2.1
  have ht := S.2.2.2.2
  unfold f_MM_sends at hf0
  have J235 : ∀ (M : Mem) (x3 : Int32) (x4 : Int32) (x5 : Int32) (x6 : Int32) (x10 : Int32) (H : Heap) (locs : List Loc) (ls : Array Slot), f_MM_sends_J235 M x3 x4 x5 x6 x10 = some M' → HW Z M s H locs → lv_has ls 11 [(0, .ref (Z.2.2.1 0)), (3, .int x3), (4, .int x4), (5, .int x5), (6, .int x6), (10, .int x10)] → W p l e R s m args below meth c H locs 0 0 Q (F0 m 235 ls []) := by
    intro M x3 x4 x5 x6 x10 H locs ls hf0 hH hl
    unfold f_MM_sends_J235 at hf0
    obtain ⟨e235, he235, hf0⟩ := o_b hf0
    unfold f_MM_sends_W235 at he235
    refine loop_W (fun t => ∀ (H : Heap) (locs : List Loc) (ls : Array Slot), HW Z t.2 s H locs → lv_has ls 11 [(0, .ref (Z.2.2.1 0)), (3, .int x3), (4, .int x4), (5, .int x5), (6, .int x6), (10, .int t.1)] → W p l e R s m args below meth c H locs 0 0 Q (F0 m 235 ls [])) ?_ he235 H locs ls hH hl
    rintro ⟨x10, M⟩ o1 hf1 hG1 hR1 H locs ls hH hl
    replace hH : HW Z M s H locs := hH
    replace hl : lv_has ls 11 [(0, .ref (Z.2.2.1 0)), (3, .int x3), (4, .int x4), (5, .int x5), (6, .int x6), (10, .int x10)] := hl
    replace hf1 : f_MM_sends_L235 x3 x4 x5 x6 x10 M = some o1 := hf1
    unfold f_MM_sends_L235 at hf1
    refine lv_iload hx hb d_MM_sends_235 (lv_at hl 5 rfl) ?_
    refine lv_iload hx hb d_MM_sends_237 (lv_at hl 3 rfl) ?_
    refine lv_icmp_ge (tgt := 313) hx hb d_MM_sends_239 (by decide) (fun hc => ?_) (fun hc => ?_)
    · replace hf1 := o_t hc hf1
      obtain rfl := hR1 _ (o_v hf1).symm
      obtain rfl := o_v hf0
      exact hQ _ _ _ _ hH d_MM_sends_313
    · replace hf1 := o_f hc hf1
      refine lv_aload_n hx hb d_MM_sends_242 rfl (lv_at hl 0 rfl) ?_
      refine g_MM_51 S hX hH hZ d_MM_sends_243 ?_
      refine lv_iload hx hb d_MM_sends_246 (lv_at hl 4 rfl) ?_
      obtain ⟨hn1, hf1⟩ := o_in hf1
      refine q_iald (j := x6.toNatClampNeg) hx hb hX hH (aa_MM_14 hZ) hn1 rfl d_MM_sends_248 ?_
      refine lv_iconst (v := (-1 : Int32)) hx hb d_MM_sends_249 (by decide) ?_
      refine lv_icmp_eq (tgt := 313) hx hb d_MM_sends_250 (by decide) (fun hc => ?_) (fun hc => ?_)
      · replace hf1 := o_t hc hf1
        obtain rfl := hR1 _ (o_v hf1).symm
        obtain rfl := o_v hf0
        exact hQ _ _ _ _ hH d_MM_sends_313
      · replace hf1 := o_f hc hf1
        refine lv_aload_n hx hb d_MM_sends_253 rfl (lv_at hl 0 rfl) ?_
        refine lv_iload_n hx hb d_MM_sends_254 rfl (lv_at hl 1 rfl) ?_
        refine q_cVi (As := [.int x3]) (rest := []) S hX hH (c_MM_isLiar l hI hZ M x3 rfl) (cw_MM_205 S.2.2.2.2 (Nat.le_trans (Nat.le_of_ble_eq_true rfl) hR.1) (Nat.le_trans (Nat.le_of_ble_eq_true rfl) hR.2)) (rc_MM hX hH hZ) rfl hl.1 rfl (Nat.le_of_ble_eq_true rfl) d_MM_sends_255 ⟨Nat.zero_le _, Nat.zero_le _⟩ (fun H locs hH => ?_)
        refine lv_if_eq (tgt := 313) hx hb d_MM_sends_258 (by decide) (fun hc => ?_) (fun hc => ?_)
        · replace hf1 := o_t hc hf1
          obtain rfl := hR1 _ (o_v hf1).symm
          obtain rfl := o_v hf0
          exact hQ _ _ _ _ hH d_MM_sends_313
        · replace hf1 := o_f hc hf1
          refine lv_aload_n hx hb d_MM_sends_261 rfl (lv_at hl 0 rfl) ?_
          refine g_MM_66 S hX hH hZ d_MM_sends_262 ?_
          refine lv_aload_n hx hb d_MM_sends_265 rfl (lv_at hl 0 rfl) ?_
          refine g_MM_33 S hX hH hZ d_MM_sends_266 ?_
          refine lv_iload hx hb d_MM_sends_269 (lv_at hl 5 rfl) ?_
          obtain ⟨hn2, hf1⟩ := o_in hf1
          refine q_iald (j := x10.toNatClampNeg) hx hb hX hH (aa_MM_8 hZ) hn2 rfl d_MM_sends_271 ?_
          refine lv_iload hx hb d_MM_sends_272 (lv_at hl 2 rfl) ?_
          refine q_cSi (As := [.int (M 8 x10.toNatClampNeg), .int x4]) (rest := [.ref (Z.2.2.1 19)]) S hX hH (c_MM_cell l hI M (M 8 x10.toNatClampNeg) x4 rfl) (cw_MM_276 S.2.2.2.2 (Nat.le_trans (Nat.le_of_ble_eq_true rfl) hR.1) (Nat.le_trans (Nat.le_of_ble_eq_true rfl) hR.2)) rfl hl.1 rfl (Nat.le_of_ble_eq_true rfl) d_MM_sends_274 ⟨Nat.zero_le _, Nat.zero_le _⟩ (fun H locs hH => ?_)
          refine lv_aload_n hx hb d_MM_sends_277 rfl (lv_at hl 0 rfl) ?_
          refine g_MM_66 S hX hH hZ d_MM_sends_278 ?_
          refine lv_aload_n hx hb d_MM_sends_281 rfl (lv_at hl 0 rfl) ?_
          refine g_MM_33 S hX hH hZ d_MM_sends_282 ?_
          refine lv_iload hx hb d_MM_sends_285 (lv_at hl 5 rfl) ?_
          refine q_iald (j := x10.toNatClampNeg) hx hb hX hH (aa_MM_8 hZ) hn2 rfl d_MM_sends_287 ?_
          refine lv_iload hx hb d_MM_sends_288 (lv_at hl 2 rfl) ?_
          refine q_cSi (As := [.int (M 8 x10.toNatClampNeg), .int x4]) (rest := [.ref (Z.2.2.1 19), .int (f_MM_cell (M 8 x10.toNatClampNeg) x4), .ref (Z.2.2.1 19)]) S hX hH (c_MM_cell l hI M (M 8 x10.toNatClampNeg) x4 rfl) (cw_MM_276 S.2.2.2.2 (Nat.le_trans (Nat.le_of_ble_eq_true rfl) hR.1) (Nat.le_trans (Nat.le_of_ble_eq_true rfl) hR.2)) rfl hl.1 rfl (Nat.le_of_ble_eq_true rfl) d_MM_sends_290 ⟨Nat.zero_le _, Nat.zero_le _⟩ (fun H locs hH => ?_)
          obtain ⟨hn3, hf1⟩ := o_in hf1
          refine q_iald (j := (f_MM_cell (M 8 x10.toNatClampNeg) x4).toNatClampNeg) hx hb hX hH (aa_MM_19 hZ) hn3 rfl d_MM_sends_293 ?_
          refine lv_aload_n hx hb d_MM_sends_294 rfl (lv_at hl 0 rfl) ?_
          refine g_MM_51 S hX hH hZ d_MM_sends_295 ?_
          refine lv_iload hx hb d_MM_sends_298 (lv_at hl 4 rfl) ?_
          refine q_iald (j := x6.toNatClampNeg) hx hb hX hH (aa_MM_14 hZ) hn1 rfl d_MM_sends_300 ?_
          refine lv_iconst (v := (1 : Int32)) hx hb d_MM_sends_301 (by decide) ?_
          refine lv_iadd hx hb d_MM_sends_302 ?_
          refine q_min S hl.1 w5_105 w2_61 w1_9 w2_62 (Nat.le_trans (Nat.le_of_ble_eq_true rfl) hR.1) (Nat.le_trans (Nat.le_of_ble_eq_true rfl) hR.2) d_MM_sends_303 ?_
          obtain ⟨M4, hM4, hf1⟩ := o_l hf1
          refine q_iast (j := (f_MM_cell (M 8 x10.toNatClampNeg) x4).toNatClampNeg) hx hb hX hI hH (aa_MM_19 hZ) hn3 rfl d_MM_sends_306 (fun H locs hH => ?_)
          rw [hM4] at hH
          refine lv_iinc (v := x10 + (1 : Int32)) (lv' := [(10, .int (x10 + (1 : Int32))), (0, .ref (Z.2.2.1 0)), (3, .int x3), (4, .int x4), (5, .int x5), (6, .int x6)]) hx hb d_MM_sends_307 hl (k := 5) rfl rfl (by decide) rfl (fun ls hl => ?_)
          refine lv_goto (tgt := 235) hx hb d_MM_sends_310 (by decide) ?_
          exact hG1 _ (o_v hf1).symm _ _ _ hH (lv_sub hl [1, 2, 3, 4, 5, 0] rfl)
  have J221 : ∀ (M : Mem) (x3 : Int32) (x4 : Int32) (x5 : Int32) (x6 : Int32) (s0 : Int32) (s1 : Int32) (H : Heap) (locs : List Loc) (ls : Array Slot), f_MM_sends_J221 M x3 x4 x5 x6 s0 s1 = some M' → HW Z M s H locs → lv_has ls 11 [(0, .ref (Z.2.2.1 0)), (3, .int x3), (4, .int x4), (5, .int x5), (6, .int x6)] → W p l e R s m args below meth c H locs 0 0 Q (F0 m 221 ls [.int s0, .int s1, .ref (Z.2.2.1 14)]) := by
    intro M x3 x4 x5 x6 s0 s1 H locs ls hf0 hH hl
    unfold f_MM_sends_J221 at hf0
    obtain ⟨hn5, hf0⟩ := o_in hf0
    obtain ⟨M6, hM6, hf0⟩ := o_l hf0
    refine q_iast (j := s1.toNatClampNeg) hx hb hX hI hH (aa_MM_14 hZ) hn5 rfl d_MM_sends_221 (fun H locs hH => ?_)
    rw [hM6] at hH
    refine lv_aload_n hx hb d_MM_sends_222 rfl (lv_at hl 0 rfl) ?_
    refine lv_dup hx hb d_MM_sends_223 rfl ?_
    refine g_MM_264 S hX hH hZ d_MM_sends_224 ?_
    refine lv_iconst (v := (1 : Int32)) hx hb d_MM_sends_227 (by decide) ?_
    refine lv_iadd hx hb d_MM_sends_228 ?_
    obtain ⟨M7, hM7, hf0⟩ := o_l hf0
    refine s_MM_264 S hX hI hH hZ d_MM_sends_229 (fun H locs hH => ?_)
    rw [hM7] at hH
    refine lv_iconst (v := (0 : Int32)) hx hb d_MM_sends_232 (by decide) ?_
    refine lv_istore (lv' := [(10, .int (0 : Int32)), (0, .ref (Z.2.2.1 0)), (3, .int x3), (4, .int x4), (5, .int x5), (6, .int x6)]) hx hb d_MM_sends_233 hl (by decide) rfl (fun ls hl => ?_)
    exact J235 _ _ _ _ _ _ _ _ _ hf0 hH (lv_sub hl [1, 2, 3, 4, 5, 0] rfl)
  have J215 : ∀ (M : Mem) (x3 : Int32) (x4 : Int32) (x5 : Int32) (x6 : Int32) (s0 : Int32) (H : Heap) (locs : List Loc) (ls : Array Slot), f_MM_sends_J215 M x3 x4 x5 x6 s0 = some M' → HW Z M s H locs → lv_has ls 11 [(0, .ref (Z.2.2.1 0)), (3, .int x3), (4, .int x4), (5, .int x5), (6, .int x6)] → W p l e R s m args below meth c H locs 0 0 Q (F0 m 215 ls [.int s0, .ref (Z.2.2.1 14)]) := by
    intro M x3 x4 x5 x6 s0 H locs ls hf0 hH hl
    unfold f_MM_sends_J215 at hf0
    refine lv_iconst (v := (-1 : Int32)) hx hb d_MM_sends_215 (by decide) ?_
    refine lv_goto (tgt := 221) hx hb d_MM_sends_216 (by decide) ?_
    exact J221 _ _ _ _ _ _ _ _ _ _ hf0 hH (lv_sub hl [0, 1, 2, 3, 4] rfl)
  have J204 : ∀ (M : Mem) (x3 : Int32) (x4 : Int32) (x5 : Int32) (x6 : Int32) (x9 : Int32) (s0 : Int32) (H : Heap) (locs : List Loc) (ls : Array Slot), f_MM_sends_J204 M x3 x4 x5 x6 x9 s0 = some M' → HW Z M s H locs → lv_has ls 11 [(0, .ref (Z.2.2.1 0)), (3, .int x3), (4, .int x4), (5, .int x5), (6, .int x6), (9, .int x9)] → W p l e R s m args below meth c H locs 0 0 Q (F0 m 204 ls [.int s0, .ref (Z.2.2.1 14)]) := by
    intro M x3 x4 x5 x6 x9 s0 H locs ls hf0 hH hl
    unfold f_MM_sends_J204 at hf0
    refine lv_iload hx hb d_MM_sends_204 (lv_at hl 5 rfl) ?_
    refine lv_aload_n hx hb d_MM_sends_206 rfl (lv_at hl 0 rfl) ?_
    refine g_MM_9 S hX hH hZ d_MM_sends_207 ?_
    refine lv_iconst (v := (3 : Int32)) hx hb d_MM_sends_210 (by decide) ?_
    refine q_iald (j := 3) hx hb hX hH (aa_MM_1 hZ) (vp_c (by decide)) (by decide) d_MM_sends_211 ?_
    refine lv_icmp_le (tgt := 219) hx hb d_MM_sends_212 (by decide) (fun hc => ?_) (fun hc => ?_)
    · replace hf0 := o_t hc hf0
      refine lv_iload hx hb d_MM_sends_219 (lv_at hl 5 rfl) ?_
      exact J221 _ _ _ _ _ _ _ _ _ _ hf0 hH (lv_sub hl [0, 1, 2, 3, 4] rfl)
    · replace hf0 := o_f hc hf0
      exact J215 _ _ _ _ _ _ _ _ _ hf0 hH (lv_sub hl [0, 1, 2, 3, 4] rfl)
  have J171 : ∀ (M : Mem) (x1 : Int32) (x2 : Int32) (x3 : Int32) (x4 : Int32) (x5 : Int32) (x6 : Int32) (x8 : Int32) (s0 : Int32) (s1 : Int32) (H : Heap) (locs : List Loc) (ls : Array Slot), f_MM_sends_J171 M x1 x2 x3 x4 x5 x6 x8 s0 s1 = some M' → HW Z M s H locs → lv_has ls 11 [(0, .ref (Z.2.2.1 0)), (1, .int x1), (2, .int x2), (3, .int x3), (4, .int x4), (5, .int x5), (6, .int x6), (8, .int x8)] → W p l e R s m args below meth c H locs 0 0 Q (F0 m 171 ls [.int s0, .int s1]) := by
    intro M x1 x2 x3 x4 x5 x6 x8 s0 s1 H locs ls hf0 hH hl
    unfold f_MM_sends_J171 at hf0
    refine lv_iadd hx hb d_MM_sends_171 ?_
    refine lv_istore (lv' := [(9, .int (s1 + s0)), (0, .ref (Z.2.2.1 0)), (1, .int x1), (2, .int x2), (3, .int x3), (4, .int x4), (5, .int x5), (6, .int x6), (8, .int x8)]) hx hb d_MM_sends_172 hl (by decide) rfl (fun ls hl => ?_)
    refine lv_aload_n hx hb d_MM_sends_174 rfl (lv_at hl 1 rfl) ?_
    refine g_MM_51 S hX hH hZ d_MM_sends_175 ?_
    refine lv_iload hx hb d_MM_sends_178 (lv_at hl 7 rfl) ?_
    refine lv_aload_n hx hb d_MM_sends_180 rfl (lv_at hl 1 rfl) ?_
    refine lv_iconst (v := (1 : Int32)) hx hb d_MM_sends_181 (by decide) ?_
    refine lv_iload_n hx hb d_MM_sends_182 rfl (lv_at hl 2 rfl) ?_
    refine lv_iload_n hx hb d_MM_sends_183 rfl (lv_at hl 3 rfl) ?_
    refine lv_iload_n hx hb d_MM_sends_184 rfl (lv_at hl 4 rfl) ?_
    obtain ⟨y9, hc8, hf0⟩ := o_b hf0
    refine q_cVi (As := [.int (1 : Int32), .int x1, .int x2, .int x3]) (rest := [.int x6, .ref (Z.2.2.1 14)]) S hX hH (c_MM_faultOf l hI hZ M (1 : Int32) x1 x2 x3 hc8) (cw_MM_244 S.2.2.2.2 (Nat.le_trans (Nat.le_of_ble_eq_true rfl) hR.1) (Nat.le_trans (Nat.le_of_ble_eq_true rfl) hR.2)) (rc_MM hX hH hZ) rfl hl.1 rfl (Nat.le_of_ble_eq_true rfl) d_MM_sends_185 ⟨Nat.zero_le _, Nat.zero_le _⟩ (fun H locs hH => ?_)
    refine lv_iconst (v := (-1 : Int32)) hx hb d_MM_sends_188 (by decide) ?_
    refine lv_icmp_ne (tgt := 215) hx hb d_MM_sends_189 (by decide) (fun hc => ?_) (fun hc => ?_)
    · replace hf0 := o_f hc hf0
      exact J215 _ _ _ _ _ _ _ _ _ hf0 hH (lv_sub hl [1, 4, 5, 6, 7] rfl)
    · replace hf0 := o_t hc hf0
      refine lv_iload hx hb d_MM_sends_192 (lv_at hl 8 rfl) ?_
      refine lv_if_eq (tgt := 204) hx hb d_MM_sends_194 (by decide) (fun hc => ?_) (fun hc => ?_)
      · replace hf0 := o_t hc hf0
        exact J204 _ _ _ _ _ _ _ _ _ _ hf0 hH (lv_sub hl [1, 4, 5, 6, 7, 0] rfl)
      · replace hf0 := o_f hc hf0
        refine lv_aload_n hx hb d_MM_sends_197 rfl (lv_at hl 1 rfl) ?_
        refine g_MM_273 S hX hH hZ d_MM_sends_198 ?_
        refine lv_if_eq (tgt := 215) hx hb d_MM_sends_201 (by decide) (fun hc => ?_) (fun hc => ?_)
        · replace hf0 := o_t hc hf0
          exact J215 _ _ _ _ _ _ _ _ _ hf0 hH (lv_sub hl [1, 4, 5, 6, 7] rfl)
        · replace hf0 := o_f hc hf0
          exact J204 _ _ _ _ _ _ _ _ _ _ hf0 hH (lv_sub hl [1, 4, 5, 6, 7, 0] rfl)
  have J131 : ∀ (M : Mem) (x1 : Int32) (x2 : Int32) (x3 : Int32) (x4 : Int32) (x5 : Int32) (x6 : Int32) (x7 : Int32) (s0 : Int32) (H : Heap) (locs : List Loc) (ls : Array Slot), f_MM_sends_J131 M x1 x2 x3 x4 x5 x6 x7 s0 = some M' → HW Z M s H locs → lv_has ls 11 [(0, .ref (Z.2.2.1 0)), (1, .int x1), (2, .int x2), (3, .int x3), (4, .int x4), (5, .int x5), (6, .int x6), (7, .int x7)] → W p l e R s m args below meth c H locs 0 0 Q (F0 m 131 ls [.int s0]) := by
    intro M x1 x2 x3 x4 x5 x6 x7 s0 H locs ls hf0 hH hl
    unfold f_MM_sends_J131 at hf0
    refine lv_istore (lv' := [(8, .int s0), (0, .ref (Z.2.2.1 0)), (1, .int x1), (2, .int x2), (3, .int x3), (4, .int x4), (5, .int x5), (6, .int x6), (7, .int x7)]) hx hb d_MM_sends_131 hl (by decide) rfl (fun ls hl => ?_)
    refine lv_iload_n hx hb d_MM_sends_133 rfl (lv_at hl 2 rfl) ?_
    refine lv_iload hx hb d_MM_sends_134 (lv_at hl 0 rfl) ?_
    refine lv_if_eq (tgt := 146) hx hb d_MM_sends_136 (by decide) (fun hc => ?_) (fun hc => ?_)
    · replace hf0 := o_t hc hf0
      refine lv_iload hx hb d_MM_sends_146 (lv_at hl 8 rfl) ?_
      refine lv_iconst (v := (-1 : Int32)) hx hb d_MM_sends_148 (by decide) ?_
      refine lv_icmp_ne (tgt := 156) hx hb d_MM_sends_149 (by decide) (fun hc => ?_) (fun hc => ?_)
      · replace hf0 := o_f hc hf0
        refine lv_aload_n hx hb d_MM_sends_156 rfl (lv_at hl 1 rfl) ?_
        refine g_MM_9 S hX hH hZ d_MM_sends_157 ?_
        refine lv_sipush (v := (254 : Int32)) hx hb d_MM_sends_160 (by decide) ?_
        refine lv_iconst (v := (4 : Int32)) hx hb d_MM_sends_163 (by decide) ?_
        refine lv_iload hx hb d_MM_sends_164 (lv_at hl 8 rfl) ?_
        refine lv_imul hx hb d_MM_sends_166 ?_
        refine lv_iadd hx hb d_MM_sends_167 ?_
        refine lv_iconst (v := (3 : Int32)) hx hb d_MM_sends_168 (by decide) ?_
        refine lv_iadd hx hb d_MM_sends_169 ?_
        obtain ⟨hn10, hf0⟩ := o_in hf0
        refine q_iald (j := (((254 : Int32) + ((4 : Int32) * x7)) + (3 : Int32)).toNatClampNeg) hx hb hX hH (aa_MM_1 hZ) hn10 rfl d_MM_sends_170 ?_
        exact J171 _ _ _ _ _ _ _ _ _ _ _ _ _ hf0 hH (lv_sub hl [1, 2, 3, 4, 5, 6, 7, 0] rfl)
      · replace hf0 := o_t hc hf0
        refine lv_iconst (v := (0 : Int32)) hx hb d_MM_sends_152 (by decide) ?_
        refine lv_goto (tgt := 171) hx hb d_MM_sends_153 (by decide) ?_
        exact J171 _ _ _ _ _ _ _ _ _ _ _ _ _ hf0 hH (lv_sub hl [1, 2, 3, 4, 5, 6, 7, 0] rfl)
    · replace hf0 := o_f hc hf0
      refine lv_aload_n hx hb d_MM_sends_139 rfl (lv_at hl 1 rfl) ?_
      refine g_MM_273 S hX hH hZ d_MM_sends_140 ?_
      refine lv_goto (tgt := 171) hx hb d_MM_sends_143 (by decide) ?_
      exact J171 _ _ _ _ _ _ _ _ _ _ _ _ _ hf0 hH (lv_sub hl [1, 2, 3, 4, 5, 6, 7, 0] rfl)
  have J130 : ∀ (M : Mem) (x1 : Int32) (x2 : Int32) (x3 : Int32) (x4 : Int32) (x5 : Int32) (x6 : Int32) (x7 : Int32) (H : Heap) (locs : List Loc) (ls : Array Slot), f_MM_sends_J130 M x1 x2 x3 x4 x5 x6 x7 = some M' → HW Z M s H locs → lv_has ls 11 [(0, .ref (Z.2.2.1 0)), (1, .int x1), (2, .int x2), (3, .int x3), (4, .int x4), (5, .int x5), (6, .int x6), (7, .int x7)] → W p l e R s m args below meth c H locs 0 0 Q (F0 m 130 ls []) := by
    intro M x1 x2 x3 x4 x5 x6 x7 H locs ls hf0 hH hl
    unfold f_MM_sends_J130 at hf0
    refine lv_iconst (v := (0 : Int32)) hx hb d_MM_sends_130 (by decide) ?_
    exact J131 _ _ _ _ _ _ _ _ _ _ _ _ hf0 hH (lv_sub hl [0, 1, 2, 3, 4, 5, 6, 7] rfl)
  have J59 : ∀ (M : Mem) (x1 : Int32) (x2 : Int32) (x3 : Int32) (x4 : Int32) (x5 : Int32) (x6 : Int32) (x7 : Int32) (H : Heap) (locs : List Loc) (ls : Array Slot), f_MM_sends_J59 M x1 x2 x3 x4 x5 x6 x7 = some M' → HW Z M s H locs → lv_has ls 11 [(0, .ref (Z.2.2.1 0)), (1, .int x1), (2, .int x2), (3, .int x3), (4, .int x4), (5, .int x5), (6, .int x6), (7, .int x7)] → W p l e R s m args below meth c H locs 0 0 Q (F0 m 59 ls []) := by
    intro M x1 x2 x3 x4 x5 x6 x7 H locs ls hf0 hH hl
    unfold f_MM_sends_J59 at hf0
    obtain ⟨e59, he59, hf0⟩ := o_b hf0
    have KX59 : ∀ (H : Heap) (locs : List Loc) (ls : Array Slot), HW Z e59 s H locs → lv_has ls 11 [(0, .ref (Z.2.2.1 0)), (1, .int x1), (2, .int x2), (3, .int x3), (4, .int x4), (5, .int x5), (6, .int x6)] → W p l e R s m args below meth c H locs 0 0 Q (F0 m 92 ls []) := by
      intro H locs ls hH hl
      refine lv_aload_n hx hb d_MM_sends_92 rfl (lv_at hl 0 rfl) ?_
      refine lv_iconst (v := (2 : Int32)) hx hb d_MM_sends_93 (by decide) ?_
      refine lv_iload_n hx hb d_MM_sends_94 rfl (lv_at hl 1 rfl) ?_
      refine lv_iload_n hx hb d_MM_sends_95 rfl (lv_at hl 2 rfl) ?_
      refine lv_iload_n hx hb d_MM_sends_96 rfl (lv_at hl 3 rfl) ?_
      obtain ⟨y15, hc14, hf0⟩ := o_b hf0
      refine q_cVi (As := [.int (2 : Int32), .int x1, .int x2, .int x3]) (rest := []) S hX hH (c_MM_faultOf l hI hZ e59 (2 : Int32) x1 x2 x3 hc14) (cw_MM_244 S.2.2.2.2 (Nat.le_trans (Nat.le_of_ble_eq_true rfl) hR.1) (Nat.le_trans (Nat.le_of_ble_eq_true rfl) hR.2)) (rc_MM hX hH hZ) rfl hl.1 rfl (Nat.le_of_ble_eq_true rfl) d_MM_sends_97 ⟨Nat.zero_le _, Nat.zero_le _⟩ (fun H locs hH => ?_)
      refine lv_istore (lv' := [(7, .int y15), (0, .ref (Z.2.2.1 0)), (1, .int x1), (2, .int x2), (3, .int x3), (4, .int x4), (5, .int x5), (6, .int x6)]) hx hb d_MM_sends_100 hl (by decide) rfl (fun ls hl => ?_)
      refine lv_aload_n hx hb d_MM_sends_102 rfl (lv_at hl 1 rfl) ?_
      refine g_MM_72 S hX hH hZ d_MM_sends_103 ?_
      refine lv_iload_n hx hb d_MM_sends_106 rfl (lv_at hl 2 rfl) ?_
      refine lv_icmp_ne (tgt := 130) hx hb d_MM_sends_107 (by decide) (fun hc => ?_) (fun hc => ?_)
      · replace hf0 := o_f hc hf0
        exact J130 _ _ _ _ _ _ _ _ _ _ _ hf0 hH (lv_sub hl [1, 2, 3, 4, 5, 6, 7, 0] rfl)
      · replace hf0 := o_t hc hf0
        refine lv_aload_n hx hb d_MM_sends_110 rfl (lv_at hl 1 rfl) ?_
        refine g_MM_267 S hX hH hZ d_MM_sends_111 ?_
        refine lv_iload_n hx hb d_MM_sends_114 rfl (lv_at hl 3 rfl) ?_
        refine lv_icmp_ne (tgt := 130) hx hb d_MM_sends_115 (by decide) (fun hc => ?_) (fun hc => ?_)
        · replace hf0 := o_f hc hf0
          exact J130 _ _ _ _ _ _ _ _ _ _ _ hf0 hH (lv_sub hl [1, 2, 3, 4, 5, 6, 7, 0] rfl)
        · replace hf0 := o_t hc hf0
          refine lv_aload_n hx hb d_MM_sends_118 rfl (lv_at hl 1 rfl) ?_
          refine g_MM_270 S hX hH hZ d_MM_sends_119 ?_
          refine lv_iload_n hx hb d_MM_sends_122 rfl (lv_at hl 4 rfl) ?_
          refine lv_icmp_ne (tgt := 130) hx hb d_MM_sends_123 (by decide) (fun hc => ?_) (fun hc => ?_)
          · replace hf0 := o_f hc hf0
            exact J130 _ _ _ _ _ _ _ _ _ _ _ hf0 hH (lv_sub hl [1, 2, 3, 4, 5, 6, 7, 0] rfl)
          · replace hf0 := o_t hc hf0
            refine lv_iconst (v := (1 : Int32)) hx hb d_MM_sends_126 (by decide) ?_
            refine lv_goto (tgt := 131) hx hb d_MM_sends_127 (by decide) ?_
            exact J131 _ _ _ _ _ _ _ _ _ _ _ _ hf0 hH (lv_sub hl [1, 2, 3, 4, 5, 6, 7, 0] rfl)
    unfold f_MM_sends_W59 at he59
    refine loop_W (fun t => ∀ (H : Heap) (locs : List Loc) (ls : Array Slot), HW Z t.2 s H locs → lv_has ls 11 [(0, .ref (Z.2.2.1 0)), (1, .int x1), (2, .int x2), (3, .int x3), (4, .int x4), (5, .int x5), (6, .int x6), (7, .int t.1)] → W p l e R s m args below meth c H locs 0 0 Q (F0 m 59 ls [])) ?_ he59 H locs ls hH hl
    rintro ⟨x7, M⟩ o1 hf1 hG1 hR1 H locs ls hH hl
    replace hH : HW Z M s H locs := hH
    replace hl : lv_has ls 11 [(0, .ref (Z.2.2.1 0)), (1, .int x1), (2, .int x2), (3, .int x3), (4, .int x4), (5, .int x5), (6, .int x6), (7, .int x7)] := hl
    replace hf1 : f_MM_sends_L59 x5 x6 x7 M = some o1 := hf1
    unfold f_MM_sends_L59 at hf1
    refine lv_iload hx hb d_MM_sends_59 (lv_at hl 7 rfl) ?_
    refine lv_iload hx hb d_MM_sends_61 (lv_at hl 5 rfl) ?_
    refine lv_icmp_ge (tgt := 92) hx hb d_MM_sends_63 (by decide) (fun hc => ?_) (fun hc => ?_)
    · replace hf1 := o_t hc hf1
      obtain rfl := hR1 _ (o_v hf1).symm
      exact KX59 _ _ _ hH (lv_sub hl [0, 1, 2, 3, 4, 5, 6] rfl)
    · replace hf1 := o_f hc hf1
      refine lv_aload_n hx hb d_MM_sends_66 rfl (lv_at hl 0 rfl) ?_
      refine g_MM_57 S hX hH hZ d_MM_sends_67 ?_
      refine lv_bipush (v := (8 : Int32)) hx hb d_MM_sends_70 (by decide) ?_
      refine lv_iload hx hb d_MM_sends_72 (lv_at hl 6 rfl) ?_
      refine lv_imul hx hb d_MM_sends_74 ?_
      refine lv_iload hx hb d_MM_sends_75 (lv_at hl 7 rfl) ?_
      refine lv_iadd hx hb d_MM_sends_77 ?_
      refine lv_aload_n hx hb d_MM_sends_78 rfl (lv_at hl 0 rfl) ?_
      refine g_MM_33 S hX hH hZ d_MM_sends_79 ?_
      refine lv_iload hx hb d_MM_sends_82 (lv_at hl 7 rfl) ?_
      obtain ⟨hn11, hf1⟩ := o_in hf1
      refine q_iald (j := x7.toNatClampNeg) hx hb hX hH (aa_MM_8 hZ) hn11 rfl d_MM_sends_84 ?_
      obtain ⟨hn12, hf1⟩ := o_in hf1
      obtain ⟨M13, hM13, hf1⟩ := o_l hf1
      refine q_iast (j := (((8 : Int32) * x6) + x7).toNatClampNeg) hx hb hX hI hH (aa_MM_16 hZ) hn12 rfl d_MM_sends_85 (fun H locs hH => ?_)
      rw [hM13] at hH
      refine lv_iinc (v := x7 + (1 : Int32)) (lv' := [(7, .int (x7 + (1 : Int32))), (0, .ref (Z.2.2.1 0)), (1, .int x1), (2, .int x2), (3, .int x3), (4, .int x4), (5, .int x5), (6, .int x6)]) hx hb d_MM_sends_86 hl (k := 7) rfl rfl (by decide) rfl (fun ls hl => ?_)
      refine lv_goto (tgt := 59) hx hb d_MM_sends_89 (by decide) ?_
      exact hG1 _ (o_v hf1).symm _ _ _ hH (lv_sub hl [1, 2, 3, 4, 5, 6, 7, 0] rfl)
  refine lv_aload_n hx hb d_MM_sends_0 rfl (lv_at hl 0 rfl) ?_
  refine g_MM_264 S hX hH hZ d_MM_sends_1 ?_
  refine lv_istore (lv' := [(6, .int (M 0 21)), (0, .ref (Z.2.2.1 0)), (1, .int x1), (2, .int x2), (3, .int x3), (4, .int x4), (5, .int x5)]) hx hb d_MM_sends_4 hl (by decide) rfl (fun ls hl => ?_)
  refine lv_aload_n hx hb d_MM_sends_6 rfl (lv_at hl 1 rfl) ?_
  refine g_MM_36 S hX hH hZ d_MM_sends_7 ?_
  refine lv_iload hx hb d_MM_sends_10 (lv_at hl 0 rfl) ?_
  refine lv_iload_n hx hb d_MM_sends_12 rfl (lv_at hl 2 rfl) ?_
  obtain ⟨hn16, hf0⟩ := o_in hf0
  obtain ⟨M17, hM17, hf0⟩ := o_l hf0
  refine q_iast (j := (M 0 21).toNatClampNeg) hx hb hX hI hH (aa_MM_9 hZ) hn16 rfl d_MM_sends_13 (fun H locs hH => ?_)
  rw [hM17] at hH
  refine lv_aload_n hx hb d_MM_sends_14 rfl (lv_at hl 1 rfl) ?_
  refine g_MM_39 S hX hH hZ d_MM_sends_15 ?_
  refine lv_iload hx hb d_MM_sends_18 (lv_at hl 0 rfl) ?_
  refine lv_iload_n hx hb d_MM_sends_20 rfl (lv_at hl 3 rfl) ?_
  obtain ⟨M18, hM18, hf0⟩ := o_l hf0
  refine q_iast (j := (M 0 21).toNatClampNeg) hx hb hX hI hH (aa_MM_10 hZ) hn16 rfl d_MM_sends_21 (fun H locs hH => ?_)
  rw [hM18] at hH
  refine lv_aload_n hx hb d_MM_sends_22 rfl (lv_at hl 1 rfl) ?_
  refine g_MM_42 S hX hH hZ d_MM_sends_23 ?_
  refine lv_iload hx hb d_MM_sends_26 (lv_at hl 0 rfl) ?_
  refine lv_iload_n hx hb d_MM_sends_28 rfl (lv_at hl 4 rfl) ?_
  obtain ⟨M19, hM19, hf0⟩ := o_l hf0
  refine q_iast (j := (M 0 21).toNatClampNeg) hx hb hX hI hH (aa_MM_11 hZ) hn16 rfl d_MM_sends_29 (fun H locs hH => ?_)
  rw [hM19] at hH
  refine lv_aload_n hx hb d_MM_sends_30 rfl (lv_at hl 1 rfl) ?_
  refine g_MM_45 S hX hH hZ d_MM_sends_31 ?_
  refine lv_iload hx hb d_MM_sends_34 (lv_at hl 0 rfl) ?_
  refine lv_iload hx hb d_MM_sends_36 (lv_at hl 5 rfl) ?_
  obtain ⟨M20, hM20, hf0⟩ := o_l hf0
  refine q_iast (j := (M 0 21).toNatClampNeg) hx hb hX hI hH (aa_MM_12 hZ) hn16 rfl d_MM_sends_38 (fun H locs hH => ?_)
  rw [hM20] at hH
  refine lv_aload_n hx hb d_MM_sends_39 rfl (lv_at hl 1 rfl) ?_
  refine g_MM_48 S hX hH hZ d_MM_sends_40 ?_
  refine lv_iload hx hb d_MM_sends_43 (lv_at hl 0 rfl) ?_
  refine lv_iload hx hb d_MM_sends_45 (lv_at hl 6 rfl) ?_
  obtain ⟨M21, hM21, hf0⟩ := o_l hf0
  refine q_iast (j := (M 0 21).toNatClampNeg) hx hb hX hI hH (aa_MM_13 hZ) hn16 rfl d_MM_sends_47 (fun H locs hH => ?_)
  rw [hM21] at hH
  refine lv_aload_n hx hb d_MM_sends_48 rfl (lv_at hl 1 rfl) ?_
  refine g_MM_54 S hX hH hZ d_MM_sends_49 ?_
  refine lv_iload hx hb d_MM_sends_52 (lv_at hl 0 rfl) ?_
  refine lv_iconst (v := (0 : Int32)) hx hb d_MM_sends_54 (by decide) ?_
  obtain ⟨M22, hM22, hf0⟩ := o_l hf0
  refine q_iast (j := (M 0 21).toNatClampNeg) hx hb hX hI hH (aa_MM_15 hZ) hn16 rfl d_MM_sends_55 (fun H locs hH => ?_)
  rw [hM22] at hH
  refine lv_iconst (v := (0 : Int32)) hx hb d_MM_sends_56 (by decide) ?_
  refine lv_istore (lv' := [(7, .int (0 : Int32)), (6, .int (M 0 21)), (0, .ref (Z.2.2.1 0)), (1, .int x1), (2, .int x2), (3, .int x3), (4, .int x4), (5, .int x5)]) hx hb d_MM_sends_57 hl (by decide) rfl (fun ls hl => ?_)
  exact J59 _ _ _ _ _ _ _ _ _ _ _ hf0 hH (lv_sub hl [2, 3, 4, 5, 6, 7, 1, 0] rfl)
theorem c_MM_sends (l : Launch) {Z : WD} (hI : wI Z) (hZ : IsM Z) (M : Mem) (x1 : Int32) (x2 : Int32) (x3 : Int32) (x4 : Int32) (x5 : Int32) {M' : Mem} (hf : f_MM_sends M x1 x2 x3 x4 x5 = some M') : Cv l Z y_MM_sends b_MM_sends 11 none 2 46 [.ref (Z.2.2.1 0), .int x1, .int x2, .int x3, .int x4, .int x5] M M' := by
  refine Met.ofW (cc := b_MM_sends) (maxL := 11) (ret := none) (by decide) rfl ?_
  intro p e s m args below meth c s₁ B hml hv
  obtain ⟨rfl, hP, hX⟩ := hv
  have S : CallFix p m c b_MM_sends 11 s ([.ref (Z.2.2.1 0), .int x1, .int x2, .int x3, .int x4, .int x5] : List Value).toArray gtb R_MM := ⟨B.exec, B.bytes, hml, findClass_of_methodNamed B.named, fun w hw => atoms_spec (ws := .code y_MM_sends b_MM_sends 11 none :: gtb) B.pre w (List.mem_cons_of_mem _ hw)⟩
  have hl := lv_entry ([.ref (Z.2.2.1 0), .int x1, .int x2, .int x3, .int x4, .int x5]) (n := 11) (Nat.le_of_ble_eq_true rfl)
  rw [lg_entry_eq]
  exact wk_MM_sends hI hZ M x1 x2 x3 x4 x5 S hX ⟨Nat.le_refl _, Nat.le_refl _⟩ (fun pc H locs ls hH d => q_rv S.1 S.2.1 B.returns B.notSynchronized hH rfl d) hf ⟨hP, va_S.rf⟩ hl
