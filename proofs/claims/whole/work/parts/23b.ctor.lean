/-! the constructors of the runs and of the reference -/
abbrev run0 : List Value := [.null, .int 0, .int 0, .int 0, .int 0, .null, .null, .null, .null, .null, .null, .null, .null, .null, .null, .null]
abbrev runW (a : Nat → Nat) (cI : ClassId) (h0 hp : Nat) : va_W := [(h0, .inr (1, [.ref hp, .int 0, .int 0, .int 0, .int 0, .ref (a 1), .ref (a 2), .ref (a 3), .ref (a 4), .ref (a 5), .ref (a 6), .ref (a 7), .ref (a 8), .ref (a 9), .ref (a 10), .ref (a 11)])), (a 1, .inl (cI, 576, .inl z0)), (a 2, .inl (cI, 212, .inl z0)), (a 3, .inl (cI, 212, .inl z0)), (a 4, .inl (cI, 212, .inl z0)), (a 5, .inl (cI, 212, .inl z0)), (a 6, .inl (cI, 212, .inl z0)), (a 7, .inl (cI, 32, .inl z0)), (a 8, .inl (cI, 32, .inl z0)), (a 9, .inl (cI, 32, .inl z0)), (a 10, .inl (cI, 32, .inl z0)), (a 11, .inl (cI, 72, .inl z0))]
set_option maxHeartbeats 4000000 in
theorem c_Run_init (l : Launch) (dC : Nat → ClassId) (dI : Nat → Nat → Nat) (h0 hp sz : Nat) : Met l y_Run_init (.code y_Run_init b_Run_init 2 none :: gtb) { frames := 1, cells := 11, slots := 1836, locals := 20 } (va_Pc [.ref h0, .ref hp] (fun U => U.heap.size = sz ∧ va_P (dC, dI) classes [(h0, .inr (1, run0))] U.heap ∧ va_K (dC, dI) classes [] U ∧ va_D (fun _ => True) [(h0, .inr (1, run0))])) (va_Qv (fun _ : (Nat → Nat) × ClassId => True) (fun u t => va_P (dC, dI) classes (runW u.1 u.2 h0 hp) t.heap ∧ va_K (dC, dI) classes [(u.2, .int)] t ∧ va_D (va_A [(h0, .inr (1, run0))] sz) (runW u.1 u.2 h0 hp)) (va_A [(h0, .inr (1, run0))] sz)) 11 1836 (va_A [(h0, .inr (1, run0))] sz) := by
  refine Met.ofW (cc := b_Run_init) (maxL := 2) (ret := none) (by decide) rfl ?_
  intro p e s m args below meth c s₁ B hml hv
  obtain ⟨rfl, hsz, hP, hK, hD0⟩ := hv
  have hx := B.exec
  have hb := B.bytes
  have hr := B.returns
  have hts : ∀ w ∈ gtb, w.before _ s = true := fun w hw => atoms_spec (ws := .code y_Run_init b_Run_init 2 none :: gtb) B.pre w (List.mem_cons_of_mem _ hw)
  have hown : s.vm.findClass R_Run = some m.cls := findClass_of_methodNamed B.named
  have hlocks := B.notSynchronized
  have hin : meth.name = "<init>" := (name_of_methodNamed B.named B.method).1
  subst hsz
  have hD := hD0.self (sz := s.heap.size)
  generalize hAe : va_A [(h0, .inr (1, run0))] s.heap.size = A at hD ⊢
  have hA : ∀ q : Nat, s.heap.size ≤ q → A q := fun q h => by rw [← hAe]; exact Or.inr h
  have hS : va_S A s.heap s.heap [] := va_S.rf
  have hl := lv_entry ([.ref h0, .ref hp]) (n := 2) (Nat.le_of_ble_eq_true rfl)
  rw [lg_entry_eq]
  generalize (lg_sl ([.ref h0, .ref hp]) ++ List.replicate (2 - (lg_sl ([.ref h0, .ref hp])).length) Slot.unset).toArray = ls at hl ⊢
  have hl : lv_has ls 2 [(0, .ref h0), (1, .ref hp)] := hl
  refine lv_aload_n hx hb d_Run_init_0 rfl (lv_at hl 0 rfl) ?_
  refine W.objInit hx hb hown (hts _ w1_137) (hts _ w1_22) (hts _ w1_23) rfl (by rw [hml]; exact hl.1) rfl d_Run_init_1 (Nat.le_of_ble_eq_true rfl) (Nat.le_of_ble_eq_true rfl) ?_
  refine W.eq (g2 := F0 m 4 ls []) rfl ?_
  refine lv_aload_n hx hb d_Run_init_4 rfl (lv_at hl 0 rfl) ?_
  refine lv_sipush (v := (576 : Int32)) hx hb d_Run_init_5 (by decide) ?_
  refine va_newa (D := (dC, dI)) (atype := .int) (a0 := (576, .inl z0)) hx hb (hts _ w1_100) (ty := .int) rfl hK hP hD hS hA (fun _ => rfl) (by decide) (by decide) (Nat.le_of_ble_eq_true rfl) (Nat.le_of_ble_eq_true rfl) (Nat.le_of_ble_eq_true rfl) d_Run_init_8 (fun q1 cX H hK hP hD hS => ?_)
  obtain ⟨cI, rfl⟩ : ∃ c, c = cX := ⟨_, rfl⟩
  have hK : va_K (dC, dI) classes [(cI, .int)] s := hK
  have hP : va_P (dC, dI) classes [(h0, .inr (1, [.null, .int 0, .int 0, .int 0, .int 0, .null, .null, .null, .null, .null, .null, .null, .null, .null, .null, .null])), (q1, .inl (cI, 576, .inl z0))] H := hP
  have hD : va_D A [(h0, .inr (1, [.null, .int 0, .int 0, .int 0, .int 0, .null, .null, .null, .null, .null, .null, .null, .null, .null, .null, .null])), (q1, .inl (cI, 576, .inl z0))] := hD
  refine W.widen (k := 1) (n := 576) (Nat.le_of_ble_eq_true rfl) (Nat.le_of_ble_eq_true rfl) ?_
  refine va_putF (D := (dC, dI)) (ci := 1) (v := .ref q1) (ty := .array .int) (C := R_Run) (T := T_Run) (N := 16) hx hb hts i_Run ty_Run t_Run_ok n_Run hown hK hP hD hS 0 rfl rfl 5 (by decide) (hts _ w1_147) (fun _ h9 => h9) rfl hin rfl (by decide +kernel) rfl rfl (Nat.le_of_ble_eq_true rfl) d_Run_init_10 (fun H locs hP hD hS => ?_)
  have hP : va_P (dC, dI) classes [(h0, .inr (1, [.null, .int 0, .int 0, .int 0, .int 0, .ref q1, .null, .null, .null, .null, .null, .null, .null, .null, .null, .null])), (q1, .inl (cI, 576, .inl z0))] H := hP
  have hD : va_D A [(h0, .inr (1, [.null, .int 0, .int 0, .int 0, .int 0, .ref q1, .null, .null, .null, .null, .null, .null, .null, .null, .null, .null])), (q1, .inl (cI, 576, .inl z0))] := hD
  refine lv_aload_n hx hb d_Run_init_13 rfl (lv_at hl 0 rfl) ?_
  refine lv_sipush (v := (212 : Int32)) hx hb d_Run_init_14 (by decide) ?_
  refine va_newa (D := (dC, dI)) (atype := .int) (a0 := (212, .inl z0)) hx hb (hts _ w1_100) (ty := .int) rfl hK hP hD hS hA (fun _ => rfl) (by decide) (by decide) (Nat.le_of_ble_eq_true rfl) (Nat.le_of_ble_eq_true rfl) (Nat.le_of_ble_eq_true rfl) d_Run_init_17 (fun q2 cX H hK hP hD hS => ?_)
  obtain rfl : cI = cX := arr_uq hK (i := 0) (j := 1) rfl rfl
  have hK := hK.sub (tys' := [(cI, .int)]) [0] rfl
  have hK : va_K (dC, dI) classes [(cI, .int)] s := hK
  have hP : va_P (dC, dI) classes [(h0, .inr (1, [.null, .int 0, .int 0, .int 0, .int 0, .ref q1, .null, .null, .null, .null, .null, .null, .null, .null, .null, .null])), (q1, .inl (cI, 576, .inl z0)), (q2, .inl (cI, 212, .inl z0))] H := hP
  have hD : va_D A [(h0, .inr (1, [.null, .int 0, .int 0, .int 0, .int 0, .ref q1, .null, .null, .null, .null, .null, .null, .null, .null, .null, .null])), (q1, .inl (cI, 576, .inl z0)), (q2, .inl (cI, 212, .inl z0))] := hD
  refine W.widen (k := 2) (n := 788) (Nat.le_of_ble_eq_true rfl) (Nat.le_of_ble_eq_true rfl) ?_
  refine va_putF (D := (dC, dI)) (ci := 1) (v := .ref q2) (ty := .array .int) (C := R_Run) (T := T_Run) (N := 16) hx hb hts i_Run ty_Run t_Run_ok n_Run hown hK hP hD hS 0 rfl rfl 6 (by decide) (hts _ w1_149) (fun _ h9 => h9) rfl hin rfl (by decide +kernel) rfl rfl (Nat.le_of_ble_eq_true rfl) d_Run_init_19 (fun H locs hP hD hS => ?_)
  have hP : va_P (dC, dI) classes [(h0, .inr (1, [.null, .int 0, .int 0, .int 0, .int 0, .ref q1, .ref q2, .null, .null, .null, .null, .null, .null, .null, .null, .null])), (q1, .inl (cI, 576, .inl z0)), (q2, .inl (cI, 212, .inl z0))] H := hP
  have hD : va_D A [(h0, .inr (1, [.null, .int 0, .int 0, .int 0, .int 0, .ref q1, .ref q2, .null, .null, .null, .null, .null, .null, .null, .null, .null])), (q1, .inl (cI, 576, .inl z0)), (q2, .inl (cI, 212, .inl z0))] := hD
  refine lv_aload_n hx hb d_Run_init_22 rfl (lv_at hl 0 rfl) ?_
  refine lv_sipush (v := (212 : Int32)) hx hb d_Run_init_23 (by decide) ?_
  refine va_newa (D := (dC, dI)) (atype := .int) (a0 := (212, .inl z0)) hx hb (hts _ w1_100) (ty := .int) rfl hK hP hD hS hA (fun _ => rfl) (by decide) (by decide) (Nat.le_of_ble_eq_true rfl) (Nat.le_of_ble_eq_true rfl) (Nat.le_of_ble_eq_true rfl) d_Run_init_26 (fun q3 cX H hK hP hD hS => ?_)
  obtain rfl : cI = cX := arr_uq hK (i := 0) (j := 1) rfl rfl
  have hK := hK.sub (tys' := [(cI, .int)]) [0] rfl
  have hK : va_K (dC, dI) classes [(cI, .int)] s := hK
  have hP : va_P (dC, dI) classes [(h0, .inr (1, [.null, .int 0, .int 0, .int 0, .int 0, .ref q1, .ref q2, .null, .null, .null, .null, .null, .null, .null, .null, .null])), (q1, .inl (cI, 576, .inl z0)), (q2, .inl (cI, 212, .inl z0)), (q3, .inl (cI, 212, .inl z0))] H := hP
  have hD : va_D A [(h0, .inr (1, [.null, .int 0, .int 0, .int 0, .int 0, .ref q1, .ref q2, .null, .null, .null, .null, .null, .null, .null, .null, .null])), (q1, .inl (cI, 576, .inl z0)), (q2, .inl (cI, 212, .inl z0)), (q3, .inl (cI, 212, .inl z0))] := hD
  refine W.widen (k := 3) (n := 1000) (Nat.le_of_ble_eq_true rfl) (Nat.le_of_ble_eq_true rfl) ?_
  refine va_putF (D := (dC, dI)) (ci := 1) (v := .ref q3) (ty := .array .int) (C := R_Run) (T := T_Run) (N := 16) hx hb hts i_Run ty_Run t_Run_ok n_Run hown hK hP hD hS 0 rfl rfl 7 (by decide) (hts _ w1_151) (fun _ h9 => h9) rfl hin rfl (by decide +kernel) rfl rfl (Nat.le_of_ble_eq_true rfl) d_Run_init_28 (fun H locs hP hD hS => ?_)
  have hP : va_P (dC, dI) classes [(h0, .inr (1, [.null, .int 0, .int 0, .int 0, .int 0, .ref q1, .ref q2, .ref q3, .null, .null, .null, .null, .null, .null, .null, .null])), (q1, .inl (cI, 576, .inl z0)), (q2, .inl (cI, 212, .inl z0)), (q3, .inl (cI, 212, .inl z0))] H := hP
  have hD : va_D A [(h0, .inr (1, [.null, .int 0, .int 0, .int 0, .int 0, .ref q1, .ref q2, .ref q3, .null, .null, .null, .null, .null, .null, .null, .null])), (q1, .inl (cI, 576, .inl z0)), (q2, .inl (cI, 212, .inl z0)), (q3, .inl (cI, 212, .inl z0))] := hD
  refine lv_aload_n hx hb d_Run_init_31 rfl (lv_at hl 0 rfl) ?_
  refine lv_sipush (v := (212 : Int32)) hx hb d_Run_init_32 (by decide) ?_
  refine va_newa (D := (dC, dI)) (atype := .int) (a0 := (212, .inl z0)) hx hb (hts _ w1_100) (ty := .int) rfl hK hP hD hS hA (fun _ => rfl) (by decide) (by decide) (Nat.le_of_ble_eq_true rfl) (Nat.le_of_ble_eq_true rfl) (Nat.le_of_ble_eq_true rfl) d_Run_init_35 (fun q4 cX H hK hP hD hS => ?_)
  obtain rfl : cI = cX := arr_uq hK (i := 0) (j := 1) rfl rfl
  have hK := hK.sub (tys' := [(cI, .int)]) [0] rfl
  have hK : va_K (dC, dI) classes [(cI, .int)] s := hK
  have hP : va_P (dC, dI) classes [(h0, .inr (1, [.null, .int 0, .int 0, .int 0, .int 0, .ref q1, .ref q2, .ref q3, .null, .null, .null, .null, .null, .null, .null, .null])), (q1, .inl (cI, 576, .inl z0)), (q2, .inl (cI, 212, .inl z0)), (q3, .inl (cI, 212, .inl z0)), (q4, .inl (cI, 212, .inl z0))] H := hP
  have hD : va_D A [(h0, .inr (1, [.null, .int 0, .int 0, .int 0, .int 0, .ref q1, .ref q2, .ref q3, .null, .null, .null, .null, .null, .null, .null, .null])), (q1, .inl (cI, 576, .inl z0)), (q2, .inl (cI, 212, .inl z0)), (q3, .inl (cI, 212, .inl z0)), (q4, .inl (cI, 212, .inl z0))] := hD
  refine W.widen (k := 4) (n := 1212) (Nat.le_of_ble_eq_true rfl) (Nat.le_of_ble_eq_true rfl) ?_
  refine va_putF (D := (dC, dI)) (ci := 1) (v := .ref q4) (ty := .array .int) (C := R_Run) (T := T_Run) (N := 16) hx hb hts i_Run ty_Run t_Run_ok n_Run hown hK hP hD hS 0 rfl rfl 8 (by decide) (hts _ w1_153) (fun _ h9 => h9) rfl hin rfl (by decide +kernel) rfl rfl (Nat.le_of_ble_eq_true rfl) d_Run_init_37 (fun H locs hP hD hS => ?_)
  have hP : va_P (dC, dI) classes [(h0, .inr (1, [.null, .int 0, .int 0, .int 0, .int 0, .ref q1, .ref q2, .ref q3, .ref q4, .null, .null, .null, .null, .null, .null, .null])), (q1, .inl (cI, 576, .inl z0)), (q2, .inl (cI, 212, .inl z0)), (q3, .inl (cI, 212, .inl z0)), (q4, .inl (cI, 212, .inl z0))] H := hP
  have hD : va_D A [(h0, .inr (1, [.null, .int 0, .int 0, .int 0, .int 0, .ref q1, .ref q2, .ref q3, .ref q4, .null, .null, .null, .null, .null, .null, .null])), (q1, .inl (cI, 576, .inl z0)), (q2, .inl (cI, 212, .inl z0)), (q3, .inl (cI, 212, .inl z0)), (q4, .inl (cI, 212, .inl z0))] := hD
  refine lv_aload_n hx hb d_Run_init_40 rfl (lv_at hl 0 rfl) ?_
  refine lv_sipush (v := (212 : Int32)) hx hb d_Run_init_41 (by decide) ?_
  refine va_newa (D := (dC, dI)) (atype := .int) (a0 := (212, .inl z0)) hx hb (hts _ w1_100) (ty := .int) rfl hK hP hD hS hA (fun _ => rfl) (by decide) (by decide) (Nat.le_of_ble_eq_true rfl) (Nat.le_of_ble_eq_true rfl) (Nat.le_of_ble_eq_true rfl) d_Run_init_44 (fun q5 cX H hK hP hD hS => ?_)
  obtain rfl : cI = cX := arr_uq hK (i := 0) (j := 1) rfl rfl
  have hK := hK.sub (tys' := [(cI, .int)]) [0] rfl
  have hK : va_K (dC, dI) classes [(cI, .int)] s := hK
  have hP : va_P (dC, dI) classes [(h0, .inr (1, [.null, .int 0, .int 0, .int 0, .int 0, .ref q1, .ref q2, .ref q3, .ref q4, .null, .null, .null, .null, .null, .null, .null])), (q1, .inl (cI, 576, .inl z0)), (q2, .inl (cI, 212, .inl z0)), (q3, .inl (cI, 212, .inl z0)), (q4, .inl (cI, 212, .inl z0)), (q5, .inl (cI, 212, .inl z0))] H := hP
  have hD : va_D A [(h0, .inr (1, [.null, .int 0, .int 0, .int 0, .int 0, .ref q1, .ref q2, .ref q3, .ref q4, .null, .null, .null, .null, .null, .null, .null])), (q1, .inl (cI, 576, .inl z0)), (q2, .inl (cI, 212, .inl z0)), (q3, .inl (cI, 212, .inl z0)), (q4, .inl (cI, 212, .inl z0)), (q5, .inl (cI, 212, .inl z0))] := hD
  refine W.widen (k := 5) (n := 1424) (Nat.le_of_ble_eq_true rfl) (Nat.le_of_ble_eq_true rfl) ?_
  refine va_putF (D := (dC, dI)) (ci := 1) (v := .ref q5) (ty := .array .int) (C := R_Run) (T := T_Run) (N := 16) hx hb hts i_Run ty_Run t_Run_ok n_Run hown hK hP hD hS 0 rfl rfl 9 (by decide) (hts _ w1_155) (fun _ h9 => h9) rfl hin rfl (by decide +kernel) rfl rfl (Nat.le_of_ble_eq_true rfl) d_Run_init_46 (fun H locs hP hD hS => ?_)
  have hP : va_P (dC, dI) classes [(h0, .inr (1, [.null, .int 0, .int 0, .int 0, .int 0, .ref q1, .ref q2, .ref q3, .ref q4, .ref q5, .null, .null, .null, .null, .null, .null])), (q1, .inl (cI, 576, .inl z0)), (q2, .inl (cI, 212, .inl z0)), (q3, .inl (cI, 212, .inl z0)), (q4, .inl (cI, 212, .inl z0)), (q5, .inl (cI, 212, .inl z0))] H := hP
  have hD : va_D A [(h0, .inr (1, [.null, .int 0, .int 0, .int 0, .int 0, .ref q1, .ref q2, .ref q3, .ref q4, .ref q5, .null, .null, .null, .null, .null, .null])), (q1, .inl (cI, 576, .inl z0)), (q2, .inl (cI, 212, .inl z0)), (q3, .inl (cI, 212, .inl z0)), (q4, .inl (cI, 212, .inl z0)), (q5, .inl (cI, 212, .inl z0))] := hD
  refine lv_aload_n hx hb d_Run_init_49 rfl (lv_at hl 0 rfl) ?_
  refine lv_sipush (v := (212 : Int32)) hx hb d_Run_init_50 (by decide) ?_
  refine va_newa (D := (dC, dI)) (atype := .int) (a0 := (212, .inl z0)) hx hb (hts _ w1_100) (ty := .int) rfl hK hP hD hS hA (fun _ => rfl) (by decide) (by decide) (Nat.le_of_ble_eq_true rfl) (Nat.le_of_ble_eq_true rfl) (Nat.le_of_ble_eq_true rfl) d_Run_init_53 (fun q6 cX H hK hP hD hS => ?_)
  obtain rfl : cI = cX := arr_uq hK (i := 0) (j := 1) rfl rfl
  have hK := hK.sub (tys' := [(cI, .int)]) [0] rfl
  have hK : va_K (dC, dI) classes [(cI, .int)] s := hK
  have hP : va_P (dC, dI) classes [(h0, .inr (1, [.null, .int 0, .int 0, .int 0, .int 0, .ref q1, .ref q2, .ref q3, .ref q4, .ref q5, .null, .null, .null, .null, .null, .null])), (q1, .inl (cI, 576, .inl z0)), (q2, .inl (cI, 212, .inl z0)), (q3, .inl (cI, 212, .inl z0)), (q4, .inl (cI, 212, .inl z0)), (q5, .inl (cI, 212, .inl z0)), (q6, .inl (cI, 212, .inl z0))] H := hP
  have hD : va_D A [(h0, .inr (1, [.null, .int 0, .int 0, .int 0, .int 0, .ref q1, .ref q2, .ref q3, .ref q4, .ref q5, .null, .null, .null, .null, .null, .null])), (q1, .inl (cI, 576, .inl z0)), (q2, .inl (cI, 212, .inl z0)), (q3, .inl (cI, 212, .inl z0)), (q4, .inl (cI, 212, .inl z0)), (q5, .inl (cI, 212, .inl z0)), (q6, .inl (cI, 212, .inl z0))] := hD
  refine W.widen (k := 6) (n := 1636) (Nat.le_of_ble_eq_true rfl) (Nat.le_of_ble_eq_true rfl) ?_
  refine va_putF (D := (dC, dI)) (ci := 1) (v := .ref q6) (ty := .array .int) (C := R_Run) (T := T_Run) (N := 16) hx hb hts i_Run ty_Run t_Run_ok n_Run hown hK hP hD hS 0 rfl rfl 10 (by decide) (hts _ w1_157) (fun _ h9 => h9) rfl hin rfl (by decide +kernel) rfl rfl (Nat.le_of_ble_eq_true rfl) d_Run_init_55 (fun H locs hP hD hS => ?_)
  have hP : va_P (dC, dI) classes [(h0, .inr (1, [.null, .int 0, .int 0, .int 0, .int 0, .ref q1, .ref q2, .ref q3, .ref q4, .ref q5, .ref q6, .null, .null, .null, .null, .null])), (q1, .inl (cI, 576, .inl z0)), (q2, .inl (cI, 212, .inl z0)), (q3, .inl (cI, 212, .inl z0)), (q4, .inl (cI, 212, .inl z0)), (q5, .inl (cI, 212, .inl z0)), (q6, .inl (cI, 212, .inl z0))] H := hP
  have hD : va_D A [(h0, .inr (1, [.null, .int 0, .int 0, .int 0, .int 0, .ref q1, .ref q2, .ref q3, .ref q4, .ref q5, .ref q6, .null, .null, .null, .null, .null])), (q1, .inl (cI, 576, .inl z0)), (q2, .inl (cI, 212, .inl z0)), (q3, .inl (cI, 212, .inl z0)), (q4, .inl (cI, 212, .inl z0)), (q5, .inl (cI, 212, .inl z0)), (q6, .inl (cI, 212, .inl z0))] := hD
  refine lv_aload_n hx hb d_Run_init_58 rfl (lv_at hl 0 rfl) ?_
  refine lv_bipush (v := (32 : Int32)) hx hb d_Run_init_59 (by decide) ?_
  refine va_newa (D := (dC, dI)) (atype := .int) (a0 := (32, .inl z0)) hx hb (hts _ w1_100) (ty := .int) rfl hK hP hD hS hA (fun _ => rfl) (by decide) (by decide) (Nat.le_of_ble_eq_true rfl) (Nat.le_of_ble_eq_true rfl) (Nat.le_of_ble_eq_true rfl) d_Run_init_61 (fun q7 cX H hK hP hD hS => ?_)
  obtain rfl : cI = cX := arr_uq hK (i := 0) (j := 1) rfl rfl
  have hK := hK.sub (tys' := [(cI, .int)]) [0] rfl
  have hK : va_K (dC, dI) classes [(cI, .int)] s := hK
  have hP : va_P (dC, dI) classes [(h0, .inr (1, [.null, .int 0, .int 0, .int 0, .int 0, .ref q1, .ref q2, .ref q3, .ref q4, .ref q5, .ref q6, .null, .null, .null, .null, .null])), (q1, .inl (cI, 576, .inl z0)), (q2, .inl (cI, 212, .inl z0)), (q3, .inl (cI, 212, .inl z0)), (q4, .inl (cI, 212, .inl z0)), (q5, .inl (cI, 212, .inl z0)), (q6, .inl (cI, 212, .inl z0)), (q7, .inl (cI, 32, .inl z0))] H := hP
  have hD : va_D A [(h0, .inr (1, [.null, .int 0, .int 0, .int 0, .int 0, .ref q1, .ref q2, .ref q3, .ref q4, .ref q5, .ref q6, .null, .null, .null, .null, .null])), (q1, .inl (cI, 576, .inl z0)), (q2, .inl (cI, 212, .inl z0)), (q3, .inl (cI, 212, .inl z0)), (q4, .inl (cI, 212, .inl z0)), (q5, .inl (cI, 212, .inl z0)), (q6, .inl (cI, 212, .inl z0)), (q7, .inl (cI, 32, .inl z0))] := hD
  refine W.widen (k := 7) (n := 1668) (Nat.le_of_ble_eq_true rfl) (Nat.le_of_ble_eq_true rfl) ?_
  refine va_putF (D := (dC, dI)) (ci := 1) (v := .ref q7) (ty := .array .int) (C := R_Run) (T := T_Run) (N := 16) hx hb hts i_Run ty_Run t_Run_ok n_Run hown hK hP hD hS 0 rfl rfl 11 (by decide) (hts _ w1_159) (fun _ h9 => h9) rfl hin rfl (by decide +kernel) rfl rfl (Nat.le_of_ble_eq_true rfl) d_Run_init_63 (fun H locs hP hD hS => ?_)
  have hP : va_P (dC, dI) classes [(h0, .inr (1, [.null, .int 0, .int 0, .int 0, .int 0, .ref q1, .ref q2, .ref q3, .ref q4, .ref q5, .ref q6, .ref q7, .null, .null, .null, .null])), (q1, .inl (cI, 576, .inl z0)), (q2, .inl (cI, 212, .inl z0)), (q3, .inl (cI, 212, .inl z0)), (q4, .inl (cI, 212, .inl z0)), (q5, .inl (cI, 212, .inl z0)), (q6, .inl (cI, 212, .inl z0)), (q7, .inl (cI, 32, .inl z0))] H := hP
  have hD : va_D A [(h0, .inr (1, [.null, .int 0, .int 0, .int 0, .int 0, .ref q1, .ref q2, .ref q3, .ref q4, .ref q5, .ref q6, .ref q7, .null, .null, .null, .null])), (q1, .inl (cI, 576, .inl z0)), (q2, .inl (cI, 212, .inl z0)), (q3, .inl (cI, 212, .inl z0)), (q4, .inl (cI, 212, .inl z0)), (q5, .inl (cI, 212, .inl z0)), (q6, .inl (cI, 212, .inl z0)), (q7, .inl (cI, 32, .inl z0))] := hD
  refine lv_aload_n hx hb d_Run_init_66 rfl (lv_at hl 0 rfl) ?_
  refine lv_bipush (v := (32 : Int32)) hx hb d_Run_init_67 (by decide) ?_
  refine va_newa (D := (dC, dI)) (atype := .int) (a0 := (32, .inl z0)) hx hb (hts _ w1_100) (ty := .int) rfl hK hP hD hS hA (fun _ => rfl) (by decide) (by decide) (Nat.le_of_ble_eq_true rfl) (Nat.le_of_ble_eq_true rfl) (Nat.le_of_ble_eq_true rfl) d_Run_init_69 (fun q8 cX H hK hP hD hS => ?_)
  obtain rfl : cI = cX := arr_uq hK (i := 0) (j := 1) rfl rfl
  have hK := hK.sub (tys' := [(cI, .int)]) [0] rfl
  have hK : va_K (dC, dI) classes [(cI, .int)] s := hK
  have hP : va_P (dC, dI) classes [(h0, .inr (1, [.null, .int 0, .int 0, .int 0, .int 0, .ref q1, .ref q2, .ref q3, .ref q4, .ref q5, .ref q6, .ref q7, .null, .null, .null, .null])), (q1, .inl (cI, 576, .inl z0)), (q2, .inl (cI, 212, .inl z0)), (q3, .inl (cI, 212, .inl z0)), (q4, .inl (cI, 212, .inl z0)), (q5, .inl (cI, 212, .inl z0)), (q6, .inl (cI, 212, .inl z0)), (q7, .inl (cI, 32, .inl z0)), (q8, .inl (cI, 32, .inl z0))] H := hP
  have hD : va_D A [(h0, .inr (1, [.null, .int 0, .int 0, .int 0, .int 0, .ref q1, .ref q2, .ref q3, .ref q4, .ref q5, .ref q6, .ref q7, .null, .null, .null, .null])), (q1, .inl (cI, 576, .inl z0)), (q2, .inl (cI, 212, .inl z0)), (q3, .inl (cI, 212, .inl z0)), (q4, .inl (cI, 212, .inl z0)), (q5, .inl (cI, 212, .inl z0)), (q6, .inl (cI, 212, .inl z0)), (q7, .inl (cI, 32, .inl z0)), (q8, .inl (cI, 32, .inl z0))] := hD
  refine W.widen (k := 8) (n := 1700) (Nat.le_of_ble_eq_true rfl) (Nat.le_of_ble_eq_true rfl) ?_
  refine va_putF (D := (dC, dI)) (ci := 1) (v := .ref q8) (ty := .array .int) (C := R_Run) (T := T_Run) (N := 16) hx hb hts i_Run ty_Run t_Run_ok n_Run hown hK hP hD hS 0 rfl rfl 12 (by decide) (hts _ w1_161) (fun _ h9 => h9) rfl hin rfl (by decide +kernel) rfl rfl (Nat.le_of_ble_eq_true rfl) d_Run_init_71 (fun H locs hP hD hS => ?_)
  have hP : va_P (dC, dI) classes [(h0, .inr (1, [.null, .int 0, .int 0, .int 0, .int 0, .ref q1, .ref q2, .ref q3, .ref q4, .ref q5, .ref q6, .ref q7, .ref q8, .null, .null, .null])), (q1, .inl (cI, 576, .inl z0)), (q2, .inl (cI, 212, .inl z0)), (q3, .inl (cI, 212, .inl z0)), (q4, .inl (cI, 212, .inl z0)), (q5, .inl (cI, 212, .inl z0)), (q6, .inl (cI, 212, .inl z0)), (q7, .inl (cI, 32, .inl z0)), (q8, .inl (cI, 32, .inl z0))] H := hP
  have hD : va_D A [(h0, .inr (1, [.null, .int 0, .int 0, .int 0, .int 0, .ref q1, .ref q2, .ref q3, .ref q4, .ref q5, .ref q6, .ref q7, .ref q8, .null, .null, .null])), (q1, .inl (cI, 576, .inl z0)), (q2, .inl (cI, 212, .inl z0)), (q3, .inl (cI, 212, .inl z0)), (q4, .inl (cI, 212, .inl z0)), (q5, .inl (cI, 212, .inl z0)), (q6, .inl (cI, 212, .inl z0)), (q7, .inl (cI, 32, .inl z0)), (q8, .inl (cI, 32, .inl z0))] := hD
  refine lv_aload_n hx hb d_Run_init_74 rfl (lv_at hl 0 rfl) ?_
  refine lv_bipush (v := (32 : Int32)) hx hb d_Run_init_75 (by decide) ?_
  refine va_newa (D := (dC, dI)) (atype := .int) (a0 := (32, .inl z0)) hx hb (hts _ w1_100) (ty := .int) rfl hK hP hD hS hA (fun _ => rfl) (by decide) (by decide) (Nat.le_of_ble_eq_true rfl) (Nat.le_of_ble_eq_true rfl) (Nat.le_of_ble_eq_true rfl) d_Run_init_77 (fun q9 cX H hK hP hD hS => ?_)
  obtain rfl : cI = cX := arr_uq hK (i := 0) (j := 1) rfl rfl
  have hK := hK.sub (tys' := [(cI, .int)]) [0] rfl
  have hK : va_K (dC, dI) classes [(cI, .int)] s := hK
  have hP : va_P (dC, dI) classes [(h0, .inr (1, [.null, .int 0, .int 0, .int 0, .int 0, .ref q1, .ref q2, .ref q3, .ref q4, .ref q5, .ref q6, .ref q7, .ref q8, .null, .null, .null])), (q1, .inl (cI, 576, .inl z0)), (q2, .inl (cI, 212, .inl z0)), (q3, .inl (cI, 212, .inl z0)), (q4, .inl (cI, 212, .inl z0)), (q5, .inl (cI, 212, .inl z0)), (q6, .inl (cI, 212, .inl z0)), (q7, .inl (cI, 32, .inl z0)), (q8, .inl (cI, 32, .inl z0)), (q9, .inl (cI, 32, .inl z0))] H := hP
  have hD : va_D A [(h0, .inr (1, [.null, .int 0, .int 0, .int 0, .int 0, .ref q1, .ref q2, .ref q3, .ref q4, .ref q5, .ref q6, .ref q7, .ref q8, .null, .null, .null])), (q1, .inl (cI, 576, .inl z0)), (q2, .inl (cI, 212, .inl z0)), (q3, .inl (cI, 212, .inl z0)), (q4, .inl (cI, 212, .inl z0)), (q5, .inl (cI, 212, .inl z0)), (q6, .inl (cI, 212, .inl z0)), (q7, .inl (cI, 32, .inl z0)), (q8, .inl (cI, 32, .inl z0)), (q9, .inl (cI, 32, .inl z0))] := hD
  refine W.widen (k := 9) (n := 1732) (Nat.le_of_ble_eq_true rfl) (Nat.le_of_ble_eq_true rfl) ?_
  refine va_putF (D := (dC, dI)) (ci := 1) (v := .ref q9) (ty := .array .int) (C := R_Run) (T := T_Run) (N := 16) hx hb hts i_Run ty_Run t_Run_ok n_Run hown hK hP hD hS 0 rfl rfl 13 (by decide) (hts _ w1_163) (fun _ h9 => h9) rfl hin rfl (by decide +kernel) rfl rfl (Nat.le_of_ble_eq_true rfl) d_Run_init_79 (fun H locs hP hD hS => ?_)
  have hP : va_P (dC, dI) classes [(h0, .inr (1, [.null, .int 0, .int 0, .int 0, .int 0, .ref q1, .ref q2, .ref q3, .ref q4, .ref q5, .ref q6, .ref q7, .ref q8, .ref q9, .null, .null])), (q1, .inl (cI, 576, .inl z0)), (q2, .inl (cI, 212, .inl z0)), (q3, .inl (cI, 212, .inl z0)), (q4, .inl (cI, 212, .inl z0)), (q5, .inl (cI, 212, .inl z0)), (q6, .inl (cI, 212, .inl z0)), (q7, .inl (cI, 32, .inl z0)), (q8, .inl (cI, 32, .inl z0)), (q9, .inl (cI, 32, .inl z0))] H := hP
  have hD : va_D A [(h0, .inr (1, [.null, .int 0, .int 0, .int 0, .int 0, .ref q1, .ref q2, .ref q3, .ref q4, .ref q5, .ref q6, .ref q7, .ref q8, .ref q9, .null, .null])), (q1, .inl (cI, 576, .inl z0)), (q2, .inl (cI, 212, .inl z0)), (q3, .inl (cI, 212, .inl z0)), (q4, .inl (cI, 212, .inl z0)), (q5, .inl (cI, 212, .inl z0)), (q6, .inl (cI, 212, .inl z0)), (q7, .inl (cI, 32, .inl z0)), (q8, .inl (cI, 32, .inl z0)), (q9, .inl (cI, 32, .inl z0))] := hD
  refine lv_aload_n hx hb d_Run_init_82 rfl (lv_at hl 0 rfl) ?_
  refine lv_bipush (v := (32 : Int32)) hx hb d_Run_init_83 (by decide) ?_
  refine va_newa (D := (dC, dI)) (atype := .int) (a0 := (32, .inl z0)) hx hb (hts _ w1_100) (ty := .int) rfl hK hP hD hS hA (fun _ => rfl) (by decide) (by decide) (Nat.le_of_ble_eq_true rfl) (Nat.le_of_ble_eq_true rfl) (Nat.le_of_ble_eq_true rfl) d_Run_init_85 (fun q10 cX H hK hP hD hS => ?_)
  obtain rfl : cI = cX := arr_uq hK (i := 0) (j := 1) rfl rfl
  have hK := hK.sub (tys' := [(cI, .int)]) [0] rfl
  have hK : va_K (dC, dI) classes [(cI, .int)] s := hK
  have hP : va_P (dC, dI) classes [(h0, .inr (1, [.null, .int 0, .int 0, .int 0, .int 0, .ref q1, .ref q2, .ref q3, .ref q4, .ref q5, .ref q6, .ref q7, .ref q8, .ref q9, .null, .null])), (q1, .inl (cI, 576, .inl z0)), (q2, .inl (cI, 212, .inl z0)), (q3, .inl (cI, 212, .inl z0)), (q4, .inl (cI, 212, .inl z0)), (q5, .inl (cI, 212, .inl z0)), (q6, .inl (cI, 212, .inl z0)), (q7, .inl (cI, 32, .inl z0)), (q8, .inl (cI, 32, .inl z0)), (q9, .inl (cI, 32, .inl z0)), (q10, .inl (cI, 32, .inl z0))] H := hP
  have hD : va_D A [(h0, .inr (1, [.null, .int 0, .int 0, .int 0, .int 0, .ref q1, .ref q2, .ref q3, .ref q4, .ref q5, .ref q6, .ref q7, .ref q8, .ref q9, .null, .null])), (q1, .inl (cI, 576, .inl z0)), (q2, .inl (cI, 212, .inl z0)), (q3, .inl (cI, 212, .inl z0)), (q4, .inl (cI, 212, .inl z0)), (q5, .inl (cI, 212, .inl z0)), (q6, .inl (cI, 212, .inl z0)), (q7, .inl (cI, 32, .inl z0)), (q8, .inl (cI, 32, .inl z0)), (q9, .inl (cI, 32, .inl z0)), (q10, .inl (cI, 32, .inl z0))] := hD
  refine W.widen (k := 10) (n := 1764) (Nat.le_of_ble_eq_true rfl) (Nat.le_of_ble_eq_true rfl) ?_
  refine va_putF (D := (dC, dI)) (ci := 1) (v := .ref q10) (ty := .array .int) (C := R_Run) (T := T_Run) (N := 16) hx hb hts i_Run ty_Run t_Run_ok n_Run hown hK hP hD hS 0 rfl rfl 14 (by decide) (hts _ w1_165) (fun _ h9 => h9) rfl hin rfl (by decide +kernel) rfl rfl (Nat.le_of_ble_eq_true rfl) d_Run_init_87 (fun H locs hP hD hS => ?_)
  have hP : va_P (dC, dI) classes [(h0, .inr (1, [.null, .int 0, .int 0, .int 0, .int 0, .ref q1, .ref q2, .ref q3, .ref q4, .ref q5, .ref q6, .ref q7, .ref q8, .ref q9, .ref q10, .null])), (q1, .inl (cI, 576, .inl z0)), (q2, .inl (cI, 212, .inl z0)), (q3, .inl (cI, 212, .inl z0)), (q4, .inl (cI, 212, .inl z0)), (q5, .inl (cI, 212, .inl z0)), (q6, .inl (cI, 212, .inl z0)), (q7, .inl (cI, 32, .inl z0)), (q8, .inl (cI, 32, .inl z0)), (q9, .inl (cI, 32, .inl z0)), (q10, .inl (cI, 32, .inl z0))] H := hP
  have hD : va_D A [(h0, .inr (1, [.null, .int 0, .int 0, .int 0, .int 0, .ref q1, .ref q2, .ref q3, .ref q4, .ref q5, .ref q6, .ref q7, .ref q8, .ref q9, .ref q10, .null])), (q1, .inl (cI, 576, .inl z0)), (q2, .inl (cI, 212, .inl z0)), (q3, .inl (cI, 212, .inl z0)), (q4, .inl (cI, 212, .inl z0)), (q5, .inl (cI, 212, .inl z0)), (q6, .inl (cI, 212, .inl z0)), (q7, .inl (cI, 32, .inl z0)), (q8, .inl (cI, 32, .inl z0)), (q9, .inl (cI, 32, .inl z0)), (q10, .inl (cI, 32, .inl z0))] := hD
  refine lv_aload_n hx hb d_Run_init_90 rfl (lv_at hl 0 rfl) ?_
  refine lv_bipush (v := (72 : Int32)) hx hb d_Run_init_91 (by decide) ?_
  refine va_newa (D := (dC, dI)) (atype := .int) (a0 := (72, .inl z0)) hx hb (hts _ w1_100) (ty := .int) rfl hK hP hD hS hA (fun _ => rfl) (by decide) (by decide) (Nat.le_of_ble_eq_true rfl) (Nat.le_of_ble_eq_true rfl) (Nat.le_of_ble_eq_true rfl) d_Run_init_93 (fun q11 cX H hK hP hD hS => ?_)
  obtain rfl : cI = cX := arr_uq hK (i := 0) (j := 1) rfl rfl
  have hK := hK.sub (tys' := [(cI, .int)]) [0] rfl
  have hK : va_K (dC, dI) classes [(cI, .int)] s := hK
  have hP : va_P (dC, dI) classes [(h0, .inr (1, [.null, .int 0, .int 0, .int 0, .int 0, .ref q1, .ref q2, .ref q3, .ref q4, .ref q5, .ref q6, .ref q7, .ref q8, .ref q9, .ref q10, .null])), (q1, .inl (cI, 576, .inl z0)), (q2, .inl (cI, 212, .inl z0)), (q3, .inl (cI, 212, .inl z0)), (q4, .inl (cI, 212, .inl z0)), (q5, .inl (cI, 212, .inl z0)), (q6, .inl (cI, 212, .inl z0)), (q7, .inl (cI, 32, .inl z0)), (q8, .inl (cI, 32, .inl z0)), (q9, .inl (cI, 32, .inl z0)), (q10, .inl (cI, 32, .inl z0)), (q11, .inl (cI, 72, .inl z0))] H := hP
  have hD : va_D A [(h0, .inr (1, [.null, .int 0, .int 0, .int 0, .int 0, .ref q1, .ref q2, .ref q3, .ref q4, .ref q5, .ref q6, .ref q7, .ref q8, .ref q9, .ref q10, .null])), (q1, .inl (cI, 576, .inl z0)), (q2, .inl (cI, 212, .inl z0)), (q3, .inl (cI, 212, .inl z0)), (q4, .inl (cI, 212, .inl z0)), (q5, .inl (cI, 212, .inl z0)), (q6, .inl (cI, 212, .inl z0)), (q7, .inl (cI, 32, .inl z0)), (q8, .inl (cI, 32, .inl z0)), (q9, .inl (cI, 32, .inl z0)), (q10, .inl (cI, 32, .inl z0)), (q11, .inl (cI, 72, .inl z0))] := hD
  refine W.widen (k := 11) (n := 1836) (Nat.le_of_ble_eq_true rfl) (Nat.le_of_ble_eq_true rfl) ?_
  refine va_putF (D := (dC, dI)) (ci := 1) (v := .ref q11) (ty := .array .int) (C := R_Run) (T := T_Run) (N := 16) hx hb hts i_Run ty_Run t_Run_ok n_Run hown hK hP hD hS 0 rfl rfl 15 (by decide) (hts _ w1_167) (fun _ h9 => h9) rfl hin rfl (by decide +kernel) rfl rfl (Nat.le_of_ble_eq_true rfl) d_Run_init_95 (fun H locs hP hD hS => ?_)
  have hP : va_P (dC, dI) classes [(h0, .inr (1, [.null, .int 0, .int 0, .int 0, .int 0, .ref q1, .ref q2, .ref q3, .ref q4, .ref q5, .ref q6, .ref q7, .ref q8, .ref q9, .ref q10, .ref q11])), (q1, .inl (cI, 576, .inl z0)), (q2, .inl (cI, 212, .inl z0)), (q3, .inl (cI, 212, .inl z0)), (q4, .inl (cI, 212, .inl z0)), (q5, .inl (cI, 212, .inl z0)), (q6, .inl (cI, 212, .inl z0)), (q7, .inl (cI, 32, .inl z0)), (q8, .inl (cI, 32, .inl z0)), (q9, .inl (cI, 32, .inl z0)), (q10, .inl (cI, 32, .inl z0)), (q11, .inl (cI, 72, .inl z0))] H := hP
  have hD : va_D A [(h0, .inr (1, [.null, .int 0, .int 0, .int 0, .int 0, .ref q1, .ref q2, .ref q3, .ref q4, .ref q5, .ref q6, .ref q7, .ref q8, .ref q9, .ref q10, .ref q11])), (q1, .inl (cI, 576, .inl z0)), (q2, .inl (cI, 212, .inl z0)), (q3, .inl (cI, 212, .inl z0)), (q4, .inl (cI, 212, .inl z0)), (q5, .inl (cI, 212, .inl z0)), (q6, .inl (cI, 212, .inl z0)), (q7, .inl (cI, 32, .inl z0)), (q8, .inl (cI, 32, .inl z0)), (q9, .inl (cI, 32, .inl z0)), (q10, .inl (cI, 32, .inl z0)), (q11, .inl (cI, 72, .inl z0))] := hD
  refine lv_aload_n hx hb d_Run_init_98 rfl (lv_at hl 0 rfl) ?_
  refine lv_aload_n hx hb d_Run_init_99 rfl (lv_at hl 1 rfl) ?_
  refine va_putF (D := (dC, dI)) (ci := 1) (v := .ref hp) (ty := .object "MarkedChains$Play") (C := R_Run) (T := T_Run) (N := 16) hx hb hts i_Run ty_Run t_Run_ok n_Run hown hK hP hD hS 0 rfl rfl 0 (by decide) (hts _ w1_138) (fun _ h9 => h9) rfl hin rfl (by decide +kernel) rfl rfl (Nat.le_of_ble_eq_true rfl) d_Run_init_100 (fun H locs hP hD hS => ?_)
  have hP : va_P (dC, dI) classes [(h0, .inr (1, [.ref hp, .int 0, .int 0, .int 0, .int 0, .ref q1, .ref q2, .ref q3, .ref q4, .ref q5, .ref q6, .ref q7, .ref q8, .ref q9, .ref q10, .ref q11])), (q1, .inl (cI, 576, .inl z0)), (q2, .inl (cI, 212, .inl z0)), (q3, .inl (cI, 212, .inl z0)), (q4, .inl (cI, 212, .inl z0)), (q5, .inl (cI, 212, .inl z0)), (q6, .inl (cI, 212, .inl z0)), (q7, .inl (cI, 32, .inl z0)), (q8, .inl (cI, 32, .inl z0)), (q9, .inl (cI, 32, .inl z0)), (q10, .inl (cI, 32, .inl z0)), (q11, .inl (cI, 72, .inl z0))] H := hP
  have hD : va_D A [(h0, .inr (1, [.ref hp, .int 0, .int 0, .int 0, .int 0, .ref q1, .ref q2, .ref q3, .ref q4, .ref q5, .ref q6, .ref q7, .ref q8, .ref q9, .ref q10, .ref q11])), (q1, .inl (cI, 576, .inl z0)), (q2, .inl (cI, 212, .inl z0)), (q3, .inl (cI, 212, .inl z0)), (q4, .inl (cI, 212, .inl z0)), (q5, .inl (cI, 212, .inl z0)), (q6, .inl (cI, 212, .inl z0)), (q7, .inl (cI, 32, .inl z0)), (q8, .inl (cI, 32, .inl z0)), (q9, .inl (cI, 32, .inl z0)), (q10, .inl (cI, 32, .inl z0)), (q11, .inl (cI, 72, .inl z0))] := hD
  exact W.vret hx hb hr (fun t ht hW => ⟨⟨(aL [h0, q1, q2, q3, q4, q5, q6, q7, q8, q9, q10, q11], cI), rfl, trivial, by rw [ht]; exact hP, va_K.moved hW.alike hK, hD⟩, hS.F ht⟩) hS.2.2 d_Run_init_103 hlocks
set_option maxHeartbeats 4000000 in
theorem c_MM_begins1 (l : Launch) (dC : Nat → ClassId) (dI : Nat → Nat → Nat) (cI : ClassId) (h sz : Nat) (f : Nat → Int32) : Met l y_MM_begins (.code y_MM_begins b_MM_begins 2 none :: gtb) { frames := 0, cells := 0, slots := 0, locals := 0 } (va_Pc [.ref h] (fun U => U.heap.size = sz ∧ va_P (dC, dI) classes [(h, .inl (cI, 302, .inl f))] U.heap ∧ va_K (dC, dI) classes [(cI, .int)] U ∧ va_D (fun _ => True) [(h, .inl (cI, 302, .inl f))])) (va_Qv (fun g : Nat → Int32 => ∀ j, j < 302 → g j = nI (R0 j)) (fun g t => va_P (dC, dI) classes [(h, .inl (cI, 302, .inl g))] t.heap) (va_A [(h, .inl (cI, 302, .inl f))] sz)) 0 0 (va_A [(h, .inl (cI, 302, .inl f))] sz) := by
  refine Met.ofW (cc := b_MM_begins) (maxL := 2) (ret := none) (by decide) rfl ?_
  intro p e s m args below meth c s₁ B hml hv
  obtain ⟨rfl, hsz, hP, hK, hD0⟩ := hv
  have hx := B.exec
  have hb := B.bytes
  have hr := B.returns
  have hts : ∀ w ∈ gtb, w.before _ s = true := fun w hw => atoms_spec (ws := .code y_MM_begins b_MM_begins 2 none :: gtb) B.pre w (List.mem_cons_of_mem _ hw)
  have hown : s.vm.findClass R_MM = some m.cls := findClass_of_methodNamed B.named
  have hlocks := B.notSynchronized
  subst hsz
  have hD := hD0.self (sz := s.heap.size)
  generalize hAe : va_A [(h, .inl (cI, 302, .inl f))] s.heap.size = A at hD ⊢
  have hS : va_S A s.heap s.heap [] := va_S.rf
  have hl := lv_entry ([.ref h]) (n := 2) (Nat.le_of_ble_eq_true rfl)
  rw [lg_entry_eq]
  generalize (lg_sl ([.ref h]) ++ List.replicate (2 - (lg_sl ([.ref h])).length) Slot.unset).toArray = ls at hl ⊢
  have hl : lv_has ls 2 [(0, .ref h)] := hl
  refine lv_iconst (v := (0 : Int32)) hx hb d_MM_begins_0 (by decide) ?_
  refine lv_istore_n (lv' := [(1, .int (nI 0)), (0, .ref h)]) hx hb d_MM_begins_1 rfl hl (by decide) rfl (fun ls hl => ?_)
  have key : ∀ (n k : Nat), k ≤ 302 → 302 - k < n → ∀ (g : Nat → Int32) (H : Heap) (locs : List Loc) (ls : Array Slot), (∀ j, j < k → g j = 0) → va_P (dC, dI) classes [(h, .inl (cI, 302, .inl g))] H → va_D A [(h, .inl (cI, 302, .inl g))] → va_S A s.heap H locs → lv_has ls 2 [(1, .int (nI k)), (0, .ref h)] → W p l e { frames := 0, cells := 0, slots := 0, locals := 0 } s m #[Value.ref h] below meth c H locs 0 0 (MQ below (va_Qv (fun g : Nat → Int32 => ∀ j, j < 302 → g j = nI (R0 j)) (fun g t => va_P (dC, dI) classes [(h, .inl (cI, 302, .inl g))] t.heap) A) #[Value.ref h] s 0 0 A) (F0 m 2 ls []) := by
    intro n
    induction n with
    | zero => intro k h1 h2; omega
    | succ n ih =>
      intro k hk hn g H locs ls hg hP hD hS hl
      refine lv_iload_n hx hb d_MM_begins_2 rfl (lv_at hl 0 rfl) ?_
      refine lv_sipush (v := (302 : Int32)) hx hb d_MM_begins_3 (by decide) ?_
      refine lv_icmp_ge (tgt := 19) hx hb d_MM_begins_6 (by decide) (fun hc => ?_) (fun hc => ?_)
      · have k302 : k = 302 := by
          refine Nat.le_antisymm hk (Nat.le_of_not_lt (fun q => ?_))
          exact nI_ge (b := 302) q (by decide) hc
        subst k302
        refine lv_aload_n hx hb d_MM_begins_19 rfl (lv_at hl 1 rfl) ?_
        refine lv_iconst (v := (3 : Int32)) hx hb d_MM_begins_20 (by decide) ?_
        refine lv_iconst (v := (1 : Int32)) hx hb d_MM_begins_21 (by decide) ?_
        refine va_iast (D := (dC, dI)) hx hb hK hP hD hS 0 0 rfl rfl (vp_nI (j := 3) (by decide) (by decide)) d_MM_begins_22 (fun H locs hP hD hS => ?_)
        have hP : va_P (dC, dI) classes [(h, .inl (cI, 302, .inl (upd g 3 1)))] H := hP
        have hD : va_D A [(h, .inl (cI, 302, .inl (upd g 3 1)))] := hD
        refine lv_aload_n hx hb d_MM_begins_23 rfl (lv_at hl 1 rfl) ?_
        refine lv_iconst (v := (5 : Int32)) hx hb d_MM_begins_24 (by decide) ?_
        refine lv_iconst (v := (2 : Int32)) hx hb d_MM_begins_25 (by decide) ?_
        refine va_iast (D := (dC, dI)) hx hb hK hP hD hS 0 0 rfl rfl (vp_nI (j := 5) (by decide) (by decide)) d_MM_begins_26 (fun H locs hP hD hS => ?_)
        have hP : va_P (dC, dI) classes [(h, .inl (cI, 302, .inl (upd (upd g 3 1) 5 2)))] H := hP
        refine W.vret hx hb hr (fun t ht hW => ⟨⟨upd (upd g 3 1) 5 2, rfl, fun j hj => ?_, by show va_P _ _ _ t.heap; rw [ht]; exact hP⟩, hS.F ht⟩) hS.2.2 d_MM_begins_27 hlocks
        unfold R0
        by_cases e5 : j = 5
        · subst e5; simp [upd]; rfl
        · by_cases e3 : j = 3
          · subst e3; simp [upd]; rfl
          · rw [if_neg e3, if_neg e5]
            show upd (upd g 3 1) 5 2 j = _
            unfold upd
            rw [if_neg e5, if_neg e3, hg j hj]
            rfl
      · have klt : k < 302 := Nat.lt_of_not_le (fun q => hc ((nI_leI (a := 302) (by decide) (by omega)).mpr q))
        refine lv_aload_n hx hb d_MM_begins_9 rfl (lv_at hl 1 rfl) ?_
        refine lv_iload_n hx hb d_MM_begins_10 rfl (lv_at hl 0 rfl) ?_
        refine lv_iconst (v := (0 : Int32)) hx hb d_MM_begins_11 (by decide) ?_
        refine va_iast (D := (dC, dI)) hx hb hK hP hD hS 0 0 rfl rfl (vp_nI klt (by decide)) d_MM_begins_12 (fun H locs hP hD hS => ?_)
        rw [nI_clamp (by omega)] at hP hD
        refine lv_iinc (v := nI (k + 1)) (lv' := [(1, .int (nI (k + 1))), (0, .ref h)]) hx hb d_MM_begins_13 hl (k := 0) rfl (by rw [nI_succ]; rfl) (by decide) rfl (fun ls hl => ?_)
        refine lv_goto (tgt := 2) hx hb d_MM_begins_16 (by decide) ?_
        refine ih (k + 1) klt (by omega) (upd g k 0) H locs ls (fun j hj => ?_) hP hD hS hl
        unfold upd
        by_cases e : j = k
        · rw [if_pos e]
        · rw [if_neg e]; exact hg j (by omega)
  exact key 303 0 (by decide) (by decide) f _ _ ls (fun j hj => absurd hj (Nat.not_lt_zero j)) hP hD hS hl
