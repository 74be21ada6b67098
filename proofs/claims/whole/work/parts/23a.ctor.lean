/-! the constructors: cells come one by one -/
theorem arr_uq {D : va_G} {cl : List vw_C} {tys : List (ClassId × FieldType)} {U : State} (hK : va_K D cl tys U) {i j : Nat} {c1 c2 : ClassId} (h1 : tys[i]? = some (c1, .int)) (h2 : tys[j]? = some (c2, .int)) : c1 = c2 := by
  have e1 : U.vm.findClass ("[" ++ FieldType.int.toString) = some c1 := (hK.2 i _ h1).2
  have e2 : U.vm.findClass ("[" ++ FieldType.int.toString) = some c2 := (hK.2 j _ h2).2
  exact Option.some.inj (e1.symm.trans e2)
def z0 : Nat → Int32 := fun _ => 0
def setRow : Nat → Int32 := upd (upd (upd (upd (upd z0 0 0) 1 0) 2 1) 3 0) 4 2
/-- a play's cells: its object, its seven rows; g: how its settings are -/
abbrev playW (a : Nat → Nat) (cI : ClassId) (h0 : Nat) (g : Nat → Int32) : va_W := [(h0, .inr (0, [.int 0, .int 0, .int 0, .int 0, .int 0, .ref (a 1), .ref (a 2), .ref (a 3), .ref (a 4), .ref (a 5), .ref (a 6), .ref (a 7)])), (a 1, .inl (cI, 5, .inl g)), (a 2, .inl (cI, 16, .inl z0)), (a 3, .inl (cI, 16, .inl z0)), (a 4, .inl (cI, 16, .inl z0)), (a 5, .inl (cI, 12, .inl z0)), (a 6, .inl (cI, 12, .inl z0)), (a 7, .inl (cI, 12, .inl z0))]
abbrev play0 : List Value := [.int 0, .int 0, .int 0, .int 0, .int 0, .null, .null, .null, .null, .null, .null, .null]
set_option maxHeartbeats 4000000 in
theorem c_Play_clear8 (l : Launch) (dC : Nat → ClassId) (dI : Nat → Nat → Nat) (a : Nat → Nat) (cI : ClassId) (h0 sz : Nat) : Met l y_Play_clear (.code y_Play_clear b_Play_clear 1 none :: gtb) { frames := 0, cells := 0, slots := 0, locals := 0 } (va_Pc [.ref h0] (fun U => U.heap.size = sz ∧ va_P (dC, dI) classes (playW a cI h0 z0) U.heap ∧ va_K (dC, dI) classes [(cI, .int)] U ∧ va_D (fun _ => True) (playW a cI h0 z0))) (va_Qv (fun _ : Unit => True) (fun _ t => va_P (dC, dI) classes (playW a cI h0 setRow) t.heap) (va_A (playW a cI h0 z0) sz)) 0 0 (va_A (playW a cI h0 z0) sz) := by
  refine Met.ofW (cc := b_Play_clear) (maxL := 1) (ret := none) (by decide) rfl ?_
  intro p e s m args below meth c s₁ B hml hv
  obtain ⟨rfl, hsz, hP, hK, hD0⟩ := hv
  have hx := B.exec
  have hb := B.bytes
  have hr := B.returns
  have hts : ∀ w ∈ gtb, w.before _ s = true := fun w hw => atoms_spec (ws := .code y_Play_clear b_Play_clear 1 none :: gtb) B.pre w (List.mem_cons_of_mem _ hw)
  have hown : s.vm.findClass R_Play = some m.cls := findClass_of_methodNamed B.named
  have hlocks := B.notSynchronized
  subst hsz
  have hD := hD0.self (sz := s.heap.size)
  generalize hAe : va_A (playW a cI h0 z0) s.heap.size = A at hD ⊢
  have hS : va_S A s.heap s.heap [] := va_S.rf
  have hl := lv_entry ([.ref h0]) (n := 1) (Nat.le_of_ble_eq_true rfl)
  rw [lg_entry_eq]
  generalize (lg_sl ([.ref h0]) ++ List.replicate (1 - (lg_sl ([.ref h0])).length) Slot.unset).toArray = ls at hl ⊢
  have hl : lv_has ls 1 [(0, .ref h0)] := hl
  refine lv_aload_n hx hb d_Play_clear_0 rfl (lv_at hl 0 rfl) ?_
  refine lv_iconst (v := (0 : Int32)) hx hb d_Play_clear_1 (by decide) ?_
  refine va_put (D := (dC, dI)) (ci := 0) (v := .int 0) (ty := .int) (C := R_Play) (T := T_Play) (N := 12) hx hb hts i_Play ty_Play t_Play_ok n_Play hown hK hP hD hS 0 rfl rfl 0 (by decide) (hts _ w1_34) (fun _ h9 => h9) rfl (by decide +kernel) rfl rfl (Nat.le_of_ble_eq_true rfl) d_Play_clear_2 (fun H locs hP hD hS => ?_)
  have hP : va_P (dC, dI) classes (playW a cI h0 (z0)) H := hP
  have hD : va_D A (playW a cI h0 (z0)) := hD
  refine lv_aload_n hx hb d_Play_clear_5 rfl (lv_at hl 0 rfl) ?_
  refine lv_iconst (v := (0 : Int32)) hx hb d_Play_clear_6 (by decide) ?_
  refine va_put (D := (dC, dI)) (ci := 0) (v := .int 0) (ty := .int) (C := R_Play) (T := T_Play) (N := 12) hx hb hts i_Play ty_Play t_Play_ok n_Play hown hK hP hD hS 0 rfl rfl 1 (by decide) (hts _ w1_38) (fun _ h9 => h9) rfl (by decide +kernel) rfl rfl (Nat.le_of_ble_eq_true rfl) d_Play_clear_7 (fun H locs hP hD hS => ?_)
  have hP : va_P (dC, dI) classes (playW a cI h0 (z0)) H := hP
  have hD : va_D A (playW a cI h0 (z0)) := hD
  refine lv_aload_n hx hb d_Play_clear_10 rfl (lv_at hl 0 rfl) ?_
  refine lv_iconst (v := (0 : Int32)) hx hb d_Play_clear_11 (by decide) ?_
  refine va_put (D := (dC, dI)) (ci := 0) (v := .int 0) (ty := .int) (C := R_Play) (T := T_Play) (N := 12) hx hb hts i_Play ty_Play t_Play_ok n_Play hown hK hP hD hS 0 rfl rfl 2 (by decide) (hts _ w1_41) (fun _ h9 => h9) rfl (by decide +kernel) rfl rfl (Nat.le_of_ble_eq_true rfl) d_Play_clear_12 (fun H locs hP hD hS => ?_)
  have hP : va_P (dC, dI) classes (playW a cI h0 (z0)) H := hP
  have hD : va_D A (playW a cI h0 (z0)) := hD
  refine lv_aload_n hx hb d_Play_clear_15 rfl (lv_at hl 0 rfl) ?_
  refine lv_iconst (v := (0 : Int32)) hx hb d_Play_clear_16 (by decide) ?_
  refine va_put (D := (dC, dI)) (ci := 0) (v := .int 0) (ty := .int) (C := R_Play) (T := T_Play) (N := 12) hx hb hts i_Play ty_Play t_Play_ok n_Play hown hK hP hD hS 0 rfl rfl 3 (by decide) (hts _ w1_45) (fun _ h9 => h9) rfl (by decide +kernel) rfl rfl (Nat.le_of_ble_eq_true rfl) d_Play_clear_17 (fun H locs hP hD hS => ?_)
  have hP : va_P (dC, dI) classes (playW a cI h0 (z0)) H := hP
  have hD : va_D A (playW a cI h0 (z0)) := hD
  refine lv_aload_n hx hb d_Play_clear_20 rfl (lv_at hl 0 rfl) ?_
  refine lv_iconst (v := (0 : Int32)) hx hb d_Play_clear_21 (by decide) ?_
  refine va_put (D := (dC, dI)) (ci := 0) (v := .int 0) (ty := .int) (C := R_Play) (T := T_Play) (N := 12) hx hb hts i_Play ty_Play t_Play_ok n_Play hown hK hP hD hS 0 rfl rfl 4 (by decide) (hts _ w1_49) (fun _ h9 => h9) rfl (by decide +kernel) rfl rfl (Nat.le_of_ble_eq_true rfl) d_Play_clear_22 (fun H locs hP hD hS => ?_)
  have hP : va_P (dC, dI) classes (playW a cI h0 (z0)) H := hP
  have hD : va_D A (playW a cI h0 (z0)) := hD
  refine lv_aload_n hx hb d_Play_clear_25 rfl (lv_at hl 0 rfl) ?_
  refine va_get (D := (dC, dI)) (ci := 0) (C := R_Play) (T := T_Play) (N := 12) hx hb hts i_Play hown hK hP 0 rfl rfl 5 (by decide) (hts _ w1_53) (fun _ h9 => h9) rfl d_Play_clear_26 ?_
  refine lv_iconst (v := (0 : Int32)) hx hb d_Play_clear_29 (by decide) ?_
  refine lv_iconst (v := (0 : Int32)) hx hb d_Play_clear_30 (by decide) ?_
  refine va_iast (D := (dC, dI)) hx hb hK hP hD hS 1 0 rfl rfl (vp_nI (j := 0) (by decide) (by decide)) d_Play_clear_31 (fun H locs hP hD hS => ?_)
  have hP : va_P (dC, dI) classes (playW a cI h0 (upd (z0) 0 0)) H := hP
  have hD : va_D A (playW a cI h0 (upd (z0) 0 0)) := hD
  refine lv_aload_n hx hb d_Play_clear_32 rfl (lv_at hl 0 rfl) ?_
  refine va_get (D := (dC, dI)) (ci := 0) (C := R_Play) (T := T_Play) (N := 12) hx hb hts i_Play hown hK hP 0 rfl rfl 5 (by decide) (hts _ w1_53) (fun _ h9 => h9) rfl d_Play_clear_33 ?_
  refine lv_iconst (v := (1 : Int32)) hx hb d_Play_clear_36 (by decide) ?_
  refine lv_iconst (v := (0 : Int32)) hx hb d_Play_clear_37 (by decide) ?_
  refine va_iast (D := (dC, dI)) hx hb hK hP hD hS 1 0 rfl rfl (vp_nI (j := 1) (by decide) (by decide)) d_Play_clear_38 (fun H locs hP hD hS => ?_)
  have hP : va_P (dC, dI) classes (playW a cI h0 (upd (upd (z0) 0 0) 1 0)) H := hP
  have hD : va_D A (playW a cI h0 (upd (upd (z0) 0 0) 1 0)) := hD
  refine lv_aload_n hx hb d_Play_clear_39 rfl (lv_at hl 0 rfl) ?_
  refine va_get (D := (dC, dI)) (ci := 0) (C := R_Play) (T := T_Play) (N := 12) hx hb hts i_Play hown hK hP 0 rfl rfl 5 (by decide) (hts _ w1_53) (fun _ h9 => h9) rfl d_Play_clear_40 ?_
  refine lv_iconst (v := (2 : Int32)) hx hb d_Play_clear_43 (by decide) ?_
  refine lv_iconst (v := (1 : Int32)) hx hb d_Play_clear_44 (by decide) ?_
  refine va_iast (D := (dC, dI)) hx hb hK hP hD hS 1 0 rfl rfl (vp_nI (j := 2) (by decide) (by decide)) d_Play_clear_45 (fun H locs hP hD hS => ?_)
  have hP : va_P (dC, dI) classes (playW a cI h0 (upd (upd (upd (z0) 0 0) 1 0) 2 1)) H := hP
  have hD : va_D A (playW a cI h0 (upd (upd (upd (z0) 0 0) 1 0) 2 1)) := hD
  refine lv_aload_n hx hb d_Play_clear_46 rfl (lv_at hl 0 rfl) ?_
  refine va_get (D := (dC, dI)) (ci := 0) (C := R_Play) (T := T_Play) (N := 12) hx hb hts i_Play hown hK hP 0 rfl rfl 5 (by decide) (hts _ w1_53) (fun _ h9 => h9) rfl d_Play_clear_47 ?_
  refine lv_iconst (v := (3 : Int32)) hx hb d_Play_clear_50 (by decide) ?_
  refine lv_iconst (v := (0 : Int32)) hx hb d_Play_clear_51 (by decide) ?_
  refine va_iast (D := (dC, dI)) hx hb hK hP hD hS 1 0 rfl rfl (vp_nI (j := 3) (by decide) (by decide)) d_Play_clear_52 (fun H locs hP hD hS => ?_)
  have hP : va_P (dC, dI) classes (playW a cI h0 (upd (upd (upd (upd (z0) 0 0) 1 0) 2 1) 3 0)) H := hP
  have hD : va_D A (playW a cI h0 (upd (upd (upd (upd (z0) 0 0) 1 0) 2 1) 3 0)) := hD
  refine lv_aload_n hx hb d_Play_clear_53 rfl (lv_at hl 0 rfl) ?_
  refine va_get (D := (dC, dI)) (ci := 0) (C := R_Play) (T := T_Play) (N := 12) hx hb hts i_Play hown hK hP 0 rfl rfl 5 (by decide) (hts _ w1_53) (fun _ h9 => h9) rfl d_Play_clear_54 ?_
  refine lv_iconst (v := (4 : Int32)) hx hb d_Play_clear_57 (by decide) ?_
  refine lv_iconst (v := (2 : Int32)) hx hb d_Play_clear_58 (by decide) ?_
  refine va_iast (D := (dC, dI)) hx hb hK hP hD hS 1 0 rfl rfl (vp_nI (j := 4) (by decide) (by decide)) d_Play_clear_59 (fun H locs hP hD hS => ?_)
  have hP : va_P (dC, dI) classes (playW a cI h0 (upd (upd (upd (upd (upd (z0) 0 0) 1 0) 2 1) 3 0) 4 2)) H := hP
  have hD : va_D A (playW a cI h0 (upd (upd (upd (upd (upd (z0) 0 0) 1 0) 2 1) 3 0) 4 2)) := hD
  exact W.vret hx hb hr (fun t ht hW => ⟨⟨(), rfl, trivial, by show va_P _ _ _ t.heap; rw [ht]; exact hP⟩, hS.F ht⟩) hS.2.2 d_Play_clear_60 hlocks
def aL (L : List Nat) (k : Nat) : Nat := L.getD k 0
set_option maxHeartbeats 4000000 in
theorem c_Play_init (l : Launch) (dC : Nat → ClassId) (dI : Nat → Nat → Nat) (h0 sz : Nat) : Met l y_Play_init (.code y_Play_init b_Play_init 1 none :: gtb) { frames := 1, cells := 7, slots := 89, locals := 20 } (va_Pc [.ref h0] (fun U => U.heap.size = sz ∧ va_P (dC, dI) classes [(h0, .inr (0, play0))] U.heap ∧ va_K (dC, dI) classes [] U ∧ va_D (fun _ => True) [(h0, .inr (0, play0))])) (va_Qv (fun _ : (Nat → Nat) × ClassId => True) (fun u t => va_P (dC, dI) classes (playW u.1 u.2 h0 setRow) t.heap ∧ va_K (dC, dI) classes [(u.2, .int)] t ∧ va_D (va_A [(h0, .inr (0, play0))] sz) (playW u.1 u.2 h0 setRow)) (va_A [(h0, .inr (0, play0))] sz)) 7 89 (va_A [(h0, .inr (0, play0))] sz) := by
  refine Met.ofW (cc := b_Play_init) (maxL := 1) (ret := none) (by decide) rfl ?_
  intro p e s m args below meth c s₁ B hml hv
  obtain ⟨rfl, hsz, hP, hK, hD0⟩ := hv
  have hx := B.exec
  have hb := B.bytes
  have hr := B.returns
  have hts : ∀ w ∈ gtb, w.before _ s = true := fun w hw => atoms_spec (ws := .code y_Play_init b_Play_init 1 none :: gtb) B.pre w (List.mem_cons_of_mem _ hw)
  have hown : s.vm.findClass R_Play = some m.cls := findClass_of_methodNamed B.named
  have hlocks := B.notSynchronized
  have hin : meth.name = "<init>" := (name_of_methodNamed B.named B.method).1
  subst hsz
  have hD := hD0.self (sz := s.heap.size)
  generalize hAe : va_A [(h0, .inr (0, play0))] s.heap.size = A at hD ⊢
  have hA : ∀ q : Nat, s.heap.size ≤ q → A q := fun q h => by rw [← hAe]; exact Or.inr h
  have hS : va_S A s.heap s.heap [] := va_S.rf
  have hl := lv_entry ([.ref h0]) (n := 1) (Nat.le_of_ble_eq_true rfl)
  rw [lg_entry_eq]
  generalize (lg_sl ([.ref h0]) ++ List.replicate (1 - (lg_sl ([.ref h0])).length) Slot.unset).toArray = ls at hl ⊢
  have hl : lv_has ls 1 [(0, .ref h0)] := hl
  refine lv_aload_n hx hb d_Play_init_0 rfl (lv_at hl 0 rfl) ?_
  refine W.objInit hx hb hown (hts _ w1_29) (hts _ w1_22) (hts _ w1_23) rfl (by rw [hml]; exact hl.1) rfl d_Play_init_1 (Nat.le_of_ble_eq_true rfl) (Nat.le_of_ble_eq_true rfl) ?_
  refine W.eq (g2 := F0 m 4 ls []) rfl ?_
  refine lv_aload_n hx hb d_Play_init_4 rfl (lv_at hl 0 rfl) ?_
  refine lv_iconst (v := (5 : Int32)) hx hb d_Play_init_5 (by decide) ?_
  refine va_newa (D := (dC, dI)) (atype := .int) (a0 := (5, .inl z0)) hx hb (hts _ w1_100) (ty := .int) rfl hK hP hD hS hA (fun _ => rfl) (by decide) (by decide) (Nat.le_of_ble_eq_true rfl) (Nat.le_of_ble_eq_true rfl) (Nat.le_of_ble_eq_true rfl) d_Play_init_6 (fun q1 cX H hK hP hD hS => ?_)
  obtain ⟨cI, rfl⟩ : ∃ c, c = cX := ⟨_, rfl⟩
  have hK : va_K (dC, dI) classes [(cI, .int)] s := hK
  have hP : va_P (dC, dI) classes [(h0, .inr (0, [.int 0, .int 0, .int 0, .int 0, .int 0, .null, .null, .null, .null, .null, .null, .null])), (q1, .inl (cI, 5, .inl z0))] H := hP
  have hD : va_D A [(h0, .inr (0, [.int 0, .int 0, .int 0, .int 0, .int 0, .null, .null, .null, .null, .null, .null, .null])), (q1, .inl (cI, 5, .inl z0))] := hD
  refine W.widen (k := 1) (n := 5) (Nat.le_of_ble_eq_true rfl) (Nat.le_of_ble_eq_true rfl) ?_
  refine va_putF (D := (dC, dI)) (ci := 0) (v := .ref q1) (ty := .array .int) (C := R_Play) (T := T_Play) (N := 12) hx hb hts i_Play ty_Play t_Play_ok n_Play hown hK hP hD hS 0 rfl rfl 5 (by decide) (hts _ w1_53) (fun _ h9 => h9) rfl hin rfl (by decide +kernel) rfl rfl (Nat.le_of_ble_eq_true rfl) d_Play_init_8 (fun H locs hP hD hS => ?_)
  have hP : va_P (dC, dI) classes [(h0, .inr (0, [.int 0, .int 0, .int 0, .int 0, .int 0, .ref q1, .null, .null, .null, .null, .null, .null])), (q1, .inl (cI, 5, .inl z0))] H := hP
  have hD : va_D A [(h0, .inr (0, [.int 0, .int 0, .int 0, .int 0, .int 0, .ref q1, .null, .null, .null, .null, .null, .null])), (q1, .inl (cI, 5, .inl z0))] := hD
  refine lv_aload_n hx hb d_Play_init_11 rfl (lv_at hl 0 rfl) ?_
  refine lv_bipush (v := (16 : Int32)) hx hb d_Play_init_12 (by decide) ?_
  refine va_newa (D := (dC, dI)) (atype := .int) (a0 := (16, .inl z0)) hx hb (hts _ w1_100) (ty := .int) rfl hK hP hD hS hA (fun _ => rfl) (by decide) (by decide) (Nat.le_of_ble_eq_true rfl) (Nat.le_of_ble_eq_true rfl) (Nat.le_of_ble_eq_true rfl) d_Play_init_14 (fun q2 cX H hK hP hD hS => ?_)
  obtain rfl : cI = cX := arr_uq hK (i := 0) (j := 1) rfl rfl
  have hK := hK.sub (tys' := [(cI, .int)]) [0] rfl
  have hK : va_K (dC, dI) classes [(cI, .int)] s := hK
  have hP : va_P (dC, dI) classes [(h0, .inr (0, [.int 0, .int 0, .int 0, .int 0, .int 0, .ref q1, .null, .null, .null, .null, .null, .null])), (q1, .inl (cI, 5, .inl z0)), (q2, .inl (cI, 16, .inl z0))] H := hP
  have hD : va_D A [(h0, .inr (0, [.int 0, .int 0, .int 0, .int 0, .int 0, .ref q1, .null, .null, .null, .null, .null, .null])), (q1, .inl (cI, 5, .inl z0)), (q2, .inl (cI, 16, .inl z0))] := hD
  refine W.widen (k := 2) (n := 21) (Nat.le_of_ble_eq_true rfl) (Nat.le_of_ble_eq_true rfl) ?_
  refine va_putF (D := (dC, dI)) (ci := 0) (v := .ref q2) (ty := .array .int) (C := R_Play) (T := T_Play) (N := 12) hx hb hts i_Play ty_Play t_Play_ok n_Play hown hK hP hD hS 0 rfl rfl 6 (by decide) (hts _ w1_57) (fun _ h9 => h9) rfl hin rfl (by decide +kernel) rfl rfl (Nat.le_of_ble_eq_true rfl) d_Play_init_16 (fun H locs hP hD hS => ?_)
  have hP : va_P (dC, dI) classes [(h0, .inr (0, [.int 0, .int 0, .int 0, .int 0, .int 0, .ref q1, .ref q2, .null, .null, .null, .null, .null])), (q1, .inl (cI, 5, .inl z0)), (q2, .inl (cI, 16, .inl z0))] H := hP
  have hD : va_D A [(h0, .inr (0, [.int 0, .int 0, .int 0, .int 0, .int 0, .ref q1, .ref q2, .null, .null, .null, .null, .null])), (q1, .inl (cI, 5, .inl z0)), (q2, .inl (cI, 16, .inl z0))] := hD
  refine lv_aload_n hx hb d_Play_init_19 rfl (lv_at hl 0 rfl) ?_
  refine lv_bipush (v := (16 : Int32)) hx hb d_Play_init_20 (by decide) ?_
  refine va_newa (D := (dC, dI)) (atype := .int) (a0 := (16, .inl z0)) hx hb (hts _ w1_100) (ty := .int) rfl hK hP hD hS hA (fun _ => rfl) (by decide) (by decide) (Nat.le_of_ble_eq_true rfl) (Nat.le_of_ble_eq_true rfl) (Nat.le_of_ble_eq_true rfl) d_Play_init_22 (fun q3 cX H hK hP hD hS => ?_)
  obtain rfl : cI = cX := arr_uq hK (i := 0) (j := 1) rfl rfl
  have hK := hK.sub (tys' := [(cI, .int)]) [0] rfl
  have hK : va_K (dC, dI) classes [(cI, .int)] s := hK
  have hP : va_P (dC, dI) classes [(h0, .inr (0, [.int 0, .int 0, .int 0, .int 0, .int 0, .ref q1, .ref q2, .null, .null, .null, .null, .null])), (q1, .inl (cI, 5, .inl z0)), (q2, .inl (cI, 16, .inl z0)), (q3, .inl (cI, 16, .inl z0))] H := hP
  have hD : va_D A [(h0, .inr (0, [.int 0, .int 0, .int 0, .int 0, .int 0, .ref q1, .ref q2, .null, .null, .null, .null, .null])), (q1, .inl (cI, 5, .inl z0)), (q2, .inl (cI, 16, .inl z0)), (q3, .inl (cI, 16, .inl z0))] := hD
  refine W.widen (k := 3) (n := 37) (Nat.le_of_ble_eq_true rfl) (Nat.le_of_ble_eq_true rfl) ?_
  refine va_putF (D := (dC, dI)) (ci := 0) (v := .ref q3) (ty := .array .int) (C := R_Play) (T := T_Play) (N := 12) hx hb hts i_Play ty_Play t_Play_ok n_Play hown hK hP hD hS 0 rfl rfl 7 (by decide) (hts _ w1_60) (fun _ h9 => h9) rfl hin rfl (by decide +kernel) rfl rfl (Nat.le_of_ble_eq_true rfl) d_Play_init_24 (fun H locs hP hD hS => ?_)
  have hP : va_P (dC, dI) classes [(h0, .inr (0, [.int 0, .int 0, .int 0, .int 0, .int 0, .ref q1, .ref q2, .ref q3, .null, .null, .null, .null])), (q1, .inl (cI, 5, .inl z0)), (q2, .inl (cI, 16, .inl z0)), (q3, .inl (cI, 16, .inl z0))] H := hP
  have hD : va_D A [(h0, .inr (0, [.int 0, .int 0, .int 0, .int 0, .int 0, .ref q1, .ref q2, .ref q3, .null, .null, .null, .null])), (q1, .inl (cI, 5, .inl z0)), (q2, .inl (cI, 16, .inl z0)), (q3, .inl (cI, 16, .inl z0))] := hD
  refine lv_aload_n hx hb d_Play_init_27 rfl (lv_at hl 0 rfl) ?_
  refine lv_bipush (v := (16 : Int32)) hx hb d_Play_init_28 (by decide) ?_
  refine va_newa (D := (dC, dI)) (atype := .int) (a0 := (16, .inl z0)) hx hb (hts _ w1_100) (ty := .int) rfl hK hP hD hS hA (fun _ => rfl) (by decide) (by decide) (Nat.le_of_ble_eq_true rfl) (Nat.le_of_ble_eq_true rfl) (Nat.le_of_ble_eq_true rfl) d_Play_init_30 (fun q4 cX H hK hP hD hS => ?_)
  obtain rfl : cI = cX := arr_uq hK (i := 0) (j := 1) rfl rfl
  have hK := hK.sub (tys' := [(cI, .int)]) [0] rfl
  have hK : va_K (dC, dI) classes [(cI, .int)] s := hK
  have hP : va_P (dC, dI) classes [(h0, .inr (0, [.int 0, .int 0, .int 0, .int 0, .int 0, .ref q1, .ref q2, .ref q3, .null, .null, .null, .null])), (q1, .inl (cI, 5, .inl z0)), (q2, .inl (cI, 16, .inl z0)), (q3, .inl (cI, 16, .inl z0)), (q4, .inl (cI, 16, .inl z0))] H := hP
  have hD : va_D A [(h0, .inr (0, [.int 0, .int 0, .int 0, .int 0, .int 0, .ref q1, .ref q2, .ref q3, .null, .null, .null, .null])), (q1, .inl (cI, 5, .inl z0)), (q2, .inl (cI, 16, .inl z0)), (q3, .inl (cI, 16, .inl z0)), (q4, .inl (cI, 16, .inl z0))] := hD
  refine W.widen (k := 4) (n := 53) (Nat.le_of_ble_eq_true rfl) (Nat.le_of_ble_eq_true rfl) ?_
  refine va_putF (D := (dC, dI)) (ci := 0) (v := .ref q4) (ty := .array .int) (C := R_Play) (T := T_Play) (N := 12) hx hb hts i_Play ty_Play t_Play_ok n_Play hown hK hP hD hS 0 rfl rfl 8 (by decide) (hts _ w1_63) (fun _ h9 => h9) rfl hin rfl (by decide +kernel) rfl rfl (Nat.le_of_ble_eq_true rfl) d_Play_init_32 (fun H locs hP hD hS => ?_)
  have hP : va_P (dC, dI) classes [(h0, .inr (0, [.int 0, .int 0, .int 0, .int 0, .int 0, .ref q1, .ref q2, .ref q3, .ref q4, .null, .null, .null])), (q1, .inl (cI, 5, .inl z0)), (q2, .inl (cI, 16, .inl z0)), (q3, .inl (cI, 16, .inl z0)), (q4, .inl (cI, 16, .inl z0))] H := hP
  have hD : va_D A [(h0, .inr (0, [.int 0, .int 0, .int 0, .int 0, .int 0, .ref q1, .ref q2, .ref q3, .ref q4, .null, .null, .null])), (q1, .inl (cI, 5, .inl z0)), (q2, .inl (cI, 16, .inl z0)), (q3, .inl (cI, 16, .inl z0)), (q4, .inl (cI, 16, .inl z0))] := hD
  refine lv_aload_n hx hb d_Play_init_35 rfl (lv_at hl 0 rfl) ?_
  refine lv_bipush (v := (12 : Int32)) hx hb d_Play_init_36 (by decide) ?_
  refine va_newa (D := (dC, dI)) (atype := .int) (a0 := (12, .inl z0)) hx hb (hts _ w1_100) (ty := .int) rfl hK hP hD hS hA (fun _ => rfl) (by decide) (by decide) (Nat.le_of_ble_eq_true rfl) (Nat.le_of_ble_eq_true rfl) (Nat.le_of_ble_eq_true rfl) d_Play_init_38 (fun q5 cX H hK hP hD hS => ?_)
  obtain rfl : cI = cX := arr_uq hK (i := 0) (j := 1) rfl rfl
  have hK := hK.sub (tys' := [(cI, .int)]) [0] rfl
  have hK : va_K (dC, dI) classes [(cI, .int)] s := hK
  have hP : va_P (dC, dI) classes [(h0, .inr (0, [.int 0, .int 0, .int 0, .int 0, .int 0, .ref q1, .ref q2, .ref q3, .ref q4, .null, .null, .null])), (q1, .inl (cI, 5, .inl z0)), (q2, .inl (cI, 16, .inl z0)), (q3, .inl (cI, 16, .inl z0)), (q4, .inl (cI, 16, .inl z0)), (q5, .inl (cI, 12, .inl z0))] H := hP
  have hD : va_D A [(h0, .inr (0, [.int 0, .int 0, .int 0, .int 0, .int 0, .ref q1, .ref q2, .ref q3, .ref q4, .null, .null, .null])), (q1, .inl (cI, 5, .inl z0)), (q2, .inl (cI, 16, .inl z0)), (q3, .inl (cI, 16, .inl z0)), (q4, .inl (cI, 16, .inl z0)), (q5, .inl (cI, 12, .inl z0))] := hD
  refine W.widen (k := 5) (n := 65) (Nat.le_of_ble_eq_true rfl) (Nat.le_of_ble_eq_true rfl) ?_
  refine va_putF (D := (dC, dI)) (ci := 0) (v := .ref q5) (ty := .array .int) (C := R_Play) (T := T_Play) (N := 12) hx hb hts i_Play ty_Play t_Play_ok n_Play hown hK hP hD hS 0 rfl rfl 9 (by decide) (hts _ w1_66) (fun _ h9 => h9) rfl hin rfl (by decide +kernel) rfl rfl (Nat.le_of_ble_eq_true rfl) d_Play_init_40 (fun H locs hP hD hS => ?_)
  have hP : va_P (dC, dI) classes [(h0, .inr (0, [.int 0, .int 0, .int 0, .int 0, .int 0, .ref q1, .ref q2, .ref q3, .ref q4, .ref q5, .null, .null])), (q1, .inl (cI, 5, .inl z0)), (q2, .inl (cI, 16, .inl z0)), (q3, .inl (cI, 16, .inl z0)), (q4, .inl (cI, 16, .inl z0)), (q5, .inl (cI, 12, .inl z0))] H := hP
  have hD : va_D A [(h0, .inr (0, [.int 0, .int 0, .int 0, .int 0, .int 0, .ref q1, .ref q2, .ref q3, .ref q4, .ref q5, .null, .null])), (q1, .inl (cI, 5, .inl z0)), (q2, .inl (cI, 16, .inl z0)), (q3, .inl (cI, 16, .inl z0)), (q4, .inl (cI, 16, .inl z0)), (q5, .inl (cI, 12, .inl z0))] := hD
  refine lv_aload_n hx hb d_Play_init_43 rfl (lv_at hl 0 rfl) ?_
  refine lv_bipush (v := (12 : Int32)) hx hb d_Play_init_44 (by decide) ?_
  refine va_newa (D := (dC, dI)) (atype := .int) (a0 := (12, .inl z0)) hx hb (hts _ w1_100) (ty := .int) rfl hK hP hD hS hA (fun _ => rfl) (by decide) (by decide) (Nat.le_of_ble_eq_true rfl) (Nat.le_of_ble_eq_true rfl) (Nat.le_of_ble_eq_true rfl) d_Play_init_46 (fun q6 cX H hK hP hD hS => ?_)
  obtain rfl : cI = cX := arr_uq hK (i := 0) (j := 1) rfl rfl
  have hK := hK.sub (tys' := [(cI, .int)]) [0] rfl
  have hK : va_K (dC, dI) classes [(cI, .int)] s := hK
  have hP : va_P (dC, dI) classes [(h0, .inr (0, [.int 0, .int 0, .int 0, .int 0, .int 0, .ref q1, .ref q2, .ref q3, .ref q4, .ref q5, .null, .null])), (q1, .inl (cI, 5, .inl z0)), (q2, .inl (cI, 16, .inl z0)), (q3, .inl (cI, 16, .inl z0)), (q4, .inl (cI, 16, .inl z0)), (q5, .inl (cI, 12, .inl z0)), (q6, .inl (cI, 12, .inl z0))] H := hP
  have hD : va_D A [(h0, .inr (0, [.int 0, .int 0, .int 0, .int 0, .int 0, .ref q1, .ref q2, .ref q3, .ref q4, .ref q5, .null, .null])), (q1, .inl (cI, 5, .inl z0)), (q2, .inl (cI, 16, .inl z0)), (q3, .inl (cI, 16, .inl z0)), (q4, .inl (cI, 16, .inl z0)), (q5, .inl (cI, 12, .inl z0)), (q6, .inl (cI, 12, .inl z0))] := hD
  refine W.widen (k := 6) (n := 77) (Nat.le_of_ble_eq_true rfl) (Nat.le_of_ble_eq_true rfl) ?_
  refine va_putF (D := (dC, dI)) (ci := 0) (v := .ref q6) (ty := .array .int) (C := R_Play) (T := T_Play) (N := 12) hx hb hts i_Play ty_Play t_Play_ok n_Play hown hK hP hD hS 0 rfl rfl 10 (by decide) (hts _ w1_69) (fun _ h9 => h9) rfl hin rfl (by decide +kernel) rfl rfl (Nat.le_of_ble_eq_true rfl) d_Play_init_48 (fun H locs hP hD hS => ?_)
  have hP : va_P (dC, dI) classes [(h0, .inr (0, [.int 0, .int 0, .int 0, .int 0, .int 0, .ref q1, .ref q2, .ref q3, .ref q4, .ref q5, .ref q6, .null])), (q1, .inl (cI, 5, .inl z0)), (q2, .inl (cI, 16, .inl z0)), (q3, .inl (cI, 16, .inl z0)), (q4, .inl (cI, 16, .inl z0)), (q5, .inl (cI, 12, .inl z0)), (q6, .inl (cI, 12, .inl z0))] H := hP
  have hD : va_D A [(h0, .inr (0, [.int 0, .int 0, .int 0, .int 0, .int 0, .ref q1, .ref q2, .ref q3, .ref q4, .ref q5, .ref q6, .null])), (q1, .inl (cI, 5, .inl z0)), (q2, .inl (cI, 16, .inl z0)), (q3, .inl (cI, 16, .inl z0)), (q4, .inl (cI, 16, .inl z0)), (q5, .inl (cI, 12, .inl z0)), (q6, .inl (cI, 12, .inl z0))] := hD
  refine lv_aload_n hx hb d_Play_init_51 rfl (lv_at hl 0 rfl) ?_
  refine lv_bipush (v := (12 : Int32)) hx hb d_Play_init_52 (by decide) ?_
  refine va_newa (D := (dC, dI)) (atype := .int) (a0 := (12, .inl z0)) hx hb (hts _ w1_100) (ty := .int) rfl hK hP hD hS hA (fun _ => rfl) (by decide) (by decide) (Nat.le_of_ble_eq_true rfl) (Nat.le_of_ble_eq_true rfl) (Nat.le_of_ble_eq_true rfl) d_Play_init_54 (fun q7 cX H hK hP hD hS => ?_)
  obtain rfl : cI = cX := arr_uq hK (i := 0) (j := 1) rfl rfl
  have hK := hK.sub (tys' := [(cI, .int)]) [0] rfl
  have hK : va_K (dC, dI) classes [(cI, .int)] s := hK
  have hP : va_P (dC, dI) classes [(h0, .inr (0, [.int 0, .int 0, .int 0, .int 0, .int 0, .ref q1, .ref q2, .ref q3, .ref q4, .ref q5, .ref q6, .null])), (q1, .inl (cI, 5, .inl z0)), (q2, .inl (cI, 16, .inl z0)), (q3, .inl (cI, 16, .inl z0)), (q4, .inl (cI, 16, .inl z0)), (q5, .inl (cI, 12, .inl z0)), (q6, .inl (cI, 12, .inl z0)), (q7, .inl (cI, 12, .inl z0))] H := hP
  have hD : va_D A [(h0, .inr (0, [.int 0, .int 0, .int 0, .int 0, .int 0, .ref q1, .ref q2, .ref q3, .ref q4, .ref q5, .ref q6, .null])), (q1, .inl (cI, 5, .inl z0)), (q2, .inl (cI, 16, .inl z0)), (q3, .inl (cI, 16, .inl z0)), (q4, .inl (cI, 16, .inl z0)), (q5, .inl (cI, 12, .inl z0)), (q6, .inl (cI, 12, .inl z0)), (q7, .inl (cI, 12, .inl z0))] := hD
  refine W.widen (k := 7) (n := 89) (Nat.le_of_ble_eq_true rfl) (Nat.le_of_ble_eq_true rfl) ?_
  refine va_putF (D := (dC, dI)) (ci := 0) (v := .ref q7) (ty := .array .int) (C := R_Play) (T := T_Play) (N := 12) hx hb hts i_Play ty_Play t_Play_ok n_Play hown hK hP hD hS 0 rfl rfl 11 (by decide) (hts _ w1_72) (fun _ h9 => h9) rfl hin rfl (by decide +kernel) rfl rfl (Nat.le_of_ble_eq_true rfl) d_Play_init_56 (fun H locs hP hD hS => ?_)
  have hP : va_P (dC, dI) classes [(h0, .inr (0, [.int 0, .int 0, .int 0, .int 0, .int 0, .ref q1, .ref q2, .ref q3, .ref q4, .ref q5, .ref q6, .ref q7])), (q1, .inl (cI, 5, .inl z0)), (q2, .inl (cI, 16, .inl z0)), (q3, .inl (cI, 16, .inl z0)), (q4, .inl (cI, 16, .inl z0)), (q5, .inl (cI, 12, .inl z0)), (q6, .inl (cI, 12, .inl z0)), (q7, .inl (cI, 12, .inl z0))] H := hP
  have hD : va_D A [(h0, .inr (0, [.int 0, .int 0, .int 0, .int 0, .int 0, .ref q1, .ref q2, .ref q3, .ref q4, .ref q5, .ref q6, .ref q7])), (q1, .inl (cI, 5, .inl z0)), (q2, .inl (cI, 16, .inl z0)), (q3, .inl (cI, 16, .inl z0)), (q4, .inl (cI, 16, .inl z0)), (q5, .inl (cI, 12, .inl z0)), (q6, .inl (cI, 12, .inl z0)), (q7, .inl (cI, 12, .inl z0))] := hD
  have hP : va_P (dC, dI) classes (playW (aL [h0, q1, q2, q3, q4, q5, q6, q7]) cI h0 z0) H := hP
  have hD : va_D A (playW (aL [h0, q1, q2, q3, q4, q5, q6, q7]) cI h0 z0) := hD
  refine lv_aload_n hx hb d_Play_init_59 rfl (lv_at hl 0 rfl) ?_
  have hF := va_free (wc := playW (aL [h0, q1, q2, q3, q4, q5, q6, q7]) cI h0 z0) hD hS hA [0, 1, 2, 3, 4, 5, 6, 7] rfl
  refine va_callv (va_runV (As := []) (rest := []) ⟨hx, hb, hml, hown, hts⟩ (c_Play_clear8 l dC dI (aL [h0, q1, q2, q3, q4, q5, q6, q7]) cI h0 H.size) (cwV 0 hts (gV w1_30 w1_31 w1_32 w1_2 w1_33) rfl rfl rfl ⟨rfl, by decide, by decide, by decide +kernel⟩ ⟨Nat.le_of_ble_eq_true rfl, Nat.le_of_ble_eq_true rfl⟩) ⟨fun a U g mk q => by obtain ⟨q0, q1, qP, qK, qD⟩ := q; exact ⟨q0, q1, qP, va_K.moved (u := U) (U := U.calling g mk a) (Vm.Alike.refl U.vm) qK, qD⟩, va_recv hK hP (ci := 0) (q0 := 0) rfl rfl, fun U hU hW => ⟨rfl, by rw [hU], by rw [hU]; exact hP, va_K.moved hW.alike hK, hD.weaken (fun _ _ _ _ => trivial)⟩⟩ rfl rfl hl.1 rfl (lv_room (Nat.le_of_ble_eq_true rfl)) d_Play_init_60 ⟨Nat.le_of_ble_eq_true rfl, Nat.le_of_ble_eq_true rfl⟩) hS (fun q _ h => hF q h) hF (fun u t H1 locs ht hvm hw hB hz1 hk1 hS => ?_)
  rw [ht] at hB
  have hD9 : va_D A (playW (aL [h0, q1, q2, q3, q4, q5, q6, q7]) cI h0 setRow) := hD.set (p := 1) (e := .inl (cI, 5, .inl setRow)) rfl
  refine W.widen (k := 7) (n := 89) (Nat.le_of_ble_eq_true rfl) (Nat.le_of_ble_eq_true rfl) ?_
  exact W.vret hx hb hr (fun t ht hW => ⟨⟨(aL [h0, q1, q2, q3, q4, q5, q6, q7], cI), rfl, trivial, by rw [ht]; exact hB, va_K.moved hW.alike hK, hD9⟩, hS.F ht⟩) hS.2.2 d_Play_init_63 hlocks
