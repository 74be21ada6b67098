/-! the class's constructor, walked -/
theorem run_fs : ∀ j, j < 16 → defaultValue (ty_Run j) = vp_V run0 j := fun j hj => by
  rcases (show j = 0 ∨ j = 1 ∨ j = 2 ∨ j = 3 ∨ j = 4 ∨ j = 5 ∨ j = 6 ∨ j = 7 ∨ j = 8 ∨ j = 9 ∨ j = 10 ∨ j = 11 ∨ j = 12 ∨ j = 13 ∨ j = 14 ∨ j = 15 by omega) with rfl | rfl | rfl | rfl | rfl | rfl | rfl | rfl | rfl | rfl | rfl | rfl | rfl | rfl | rfl | rfl <;> rfl
theorem tape_fs : ∀ j, j < 6 → defaultValue (ty_Tape j) = vp_V tape0 j := fun j hj => by
  rcases (show j = 0 ∨ j = 1 ∨ j = 2 ∨ j = 3 ∨ j = 4 ∨ j = 5 by omega) with rfl | rfl | rfl | rfl | rfl | rfl <;> rfl
def mcPre (dC : Nat → ClassId) (dI : Nat → Nat → Nat) (adK adV : Nat → Nat) (h0 sz : Nat) : State → Prop := fun U => U.heap.size = sz ∧ va_P (dC, dI) classes [(h0, .inr (3, mc0))] U.heap ∧ va_K (dC, dI) classes [] U ∧ va_D (fun _ => True) [(h0, .inr (3, mc0))] ∧ va_AO "MarkedChains$Play" U ∧ (∀ q ∈ nestRefs, va_Nw (.methodLinkNest q.1 q.2.1 q.2.2.1 q.2.2.2) U) ∧ (∀ q ∈ strRefs, vk_R q.1 q.2.1 q.2.2.1 (adK q.2.2.2) U) ∧ vk_S 10 lenS bytS adK adV (va_A [(h0, .inr (3, mc0))] sz) U U.heap ∧ va_Z "java/lang/String" "COMPACT_STRINGS" "Z" (.int 1) (va_A [(h0, .inr (3, mc0))] sz) U U.heap ∧ va_Zq "jdk/internal/util/Preconditions" "SIOOBE_FORMATTER" "Ljava/util/function/BiFunction;" (va_A [(h0, .inr (3, mc0))] sz) U U.heap
theorem mcPre.blind (dC : Nat → ClassId) (dI : Nat → Nat → Nat) (adK adV : Nat → Nat) (h0 sz : Nat) (As : List Value) : FrameBlind (va_Pc As (mcPre dC dI adK adV h0 sz)) := by
  intro a U g mk q
  obtain ⟨q0, q1, qP, qK, qD, qO, h2, h3, h4, h5, h6⟩ := q
  exact ⟨q0, q1, qP, va_K.moved (u := U) (U := U.calling g mk a) (Vm.Alike.refl U.vm) qK, qD, va_AO.moved (u := U) (U := U.calling g mk a) (Vm.Alike.refl U.vm) qO, fun q hq => va_Nw.same rfl rfl (h2 q hq), fun q hq => vk_R.same rfl (h3 q hq), vk_S.moved (u := U) (U := U.calling g mk a) (Vm.Alike.refl U.vm) h4, va_Z.moved (u := U) (U := U.calling g mk a) (Vm.Alike.refl U.vm) h5, va_Zq.moved (u := U) (U := U.calling g mk a) (Vm.Alike.refl U.vm) h6⟩
theorem iM_PC (k : Nat) (hk : k < 14) : PC (setR R0 0 0) iM (8 * k) := by
  have e0 : iM (8 * k) = z0 := by
    unfold iM
    rw [if_pos (by omega), if_neg (by omega)]
  have e1 : iM (8 * k + 1) = setRow := by
    unfold iM
    rw [if_pos (by omega), if_pos (by omega)]
  exact R0_PC (by rw [e0]; rfl) (by rw [e0]; rfl) (by rw [e0]; rfl) (by rw [e0]; rfl) (by rw [e0]; rfl) (by rw [e1]; rfl) (by rw [e1]; rfl) (by rw [e1]; rfl) (by rw [e1]; rfl) (by rw [e1]; rfl)
theorem iM_replay : ∃ M', f_MC_replay iM = some M' := by
  obtain ⟨M', h, -⟩ := C_replay (R0_PV (n := 0) (Or.inl rfl)) (iM_PC 0 (by decide))
  exact ⟨M', h⟩
set_option maxHeartbeats 16000000 in
set_option maxRecDepth 100000 in
theorem c_MC_init (l : Launch) (dC : Nat → ClassId) (dI : Nat → Nat → Nat) (adK adV : Nat → Nat) (h0 sz : Nat) : Met l y_MC_init (.code y_MC_init b_MC_init 2 none :: gtb) { frames := 6, cells := 140, slots := 5536, locals := 135 } (va_Pc [.ref h0] (mcPre dC dI adK adV h0 sz)) (va_Qv (fun u : (Nat → Nat) × (Nat → ClassId) × Mem => u.1 138 = h0 ∧ f_MC_replay iM = some u.2.2) (fun u t => wP (zC dC dI adK adV u.1 u.2.1) u.2.2 t.heap ∧ va_K (dC, dI) classes [(u.2.1 0, .int), (u.2.1 1, .char), (u.2.1 2, .object "MarkedChains$Play")] t ∧ va_D (va_A [(h0, .inr (3, mc0))] sz) (wW (zC dC dI adK adV u.1 u.2.1) u.2.2)) (va_A [(h0, .inr (3, mc0))] sz)) 140 5536 (va_A [(h0, .inr (3, mc0))] sz) := by
  refine Met.ofW (cc := b_MC_init) (maxL := 2) (ret := none) (by decide) rfl ?_
  intro p e s m args below meth c s₁ B hml hv
  obtain ⟨rfl, hsz, hP, hK, hD0, hO, hNw, hSr, hvS, hvZ, hvQ⟩ := hv
  have hx := B.exec
  have hb := B.bytes
  have hr' := B.returns
  have hts : ∀ w ∈ gtb, w.before _ s = true := fun w hw => atoms_spec (ws := .code y_MC_init b_MC_init 2 none :: gtb) B.pre w (List.mem_cons_of_mem _ hw)
  have hown : s.vm.findClass R_MC = some m.cls := findClass_of_methodNamed B.named
  have hlocks := B.notSynchronized
  have hin : meth.name = "<init>" := (name_of_methodNamed B.named B.method).1
  subst hsz
  have hD := hD0.self (sz := s.heap.size)
  have hAh : ∀ q : Nat, q < s.heap.size → va_A [(h0, .inr (3, mc0))] s.heap.size q → q = h0 := fun q h1 h2 => by
    rcases h2 with ⟨k2, e, h⟩ | h
    · have hk2 : k2 < 1 := (List.getElem?_eq_some_iff.mp h).1
      obtain rfl : k2 = 0 := by omega
      cases h
      rfl
    · omega
  generalize hAe : va_A [(h0, .inr (3, mc0))] s.heap.size = A at hD hvS hvZ hvQ hAh ⊢
  have hA : ∀ q : Nat, s.heap.size ≤ q → A q := fun q h => by rw [← hAe]; exact Or.inr h
  clear hAe
  have hS : va_S A s.heap s.heap [] := va_S.rf
  have S : CallFix p m c b_MC_init 2 s ([.ref h0] : List Value).toArray gtb R_MC := ⟨hx, hb, hml, hown, hts⟩
  have hl := lv_entry ([.ref h0]) (n := 2) (Nat.le_of_ble_eq_true rfl)
  rw [lg_entry_eq]
  generalize (lg_sl ([.ref h0]) ++ List.replicate (2 - (lg_sl ([.ref h0])).length) Slot.unset).toArray = ls at hl ⊢
  have hl : lv_has ls 2 [(0, .ref h0)] := hl
  refine lv_aload_n hx hb d_MC_init_0 rfl (lv_at hl 0 rfl) ?_
  refine W.objInit hx hb hown (hts _ w1_21) (hts _ w1_22) (hts _ w1_23) rfl (by rw [hml]; exact hl.1) rfl d_MC_init_1 (Nat.le_of_ble_eq_true rfl) (Nat.le_of_ble_eq_true rfl) ?_
  refine W.eq (g2 := F0 m 4 ls []) rfl ?_
  refine lv_aload_n hx hb d_MC_init_4 rfl (lv_at hl 0 rfl) ?_
  refine w_newPlay S (hts _ w1_24) (hts _ w1_26) hK hP hD hS hA (Nat.le_of_ble_eq_true rfl) (Nat.le_of_ble_eq_true rfl) (Nat.le_of_ble_eq_true rfl) (Nat.le_of_ble_eq_true rfl) hl.1 (Nat.le_of_ble_eq_true rfl) d_MC_init_5 d_MC_init_8 d_MC_init_9 (fun a0 cI p0 H locs hK hP hD hS => ?_)
  have hP : va_P (dC, dI) classes ([(h0, .inr (3, [.null, .null, .null, .null, .null, .null, .int 0, .int 0]))] ++ playW a0 cI p0 setRow) H := hP
  have hD : va_D A ([(h0, .inr (3, [.null, .null, .null, .null, .null, .null, .int 0, .int 0]))] ++ playW a0 cI p0 setRow) := hD
  refine va_putF (D := (dC, dI)) (ci := 3) (v := .ref p0) (ty := .object "MarkedChains$Play") (C := R_MC) (T := T_MC) (N := 8) hx hb hts i_MC ty_MC t_MC_ok n_MC hown hK hP hD hS 0 rfl rfl 0 (by decide) (hts _ w2_71) (fun _ h9 => h9) rfl hin rfl (by decide +kernel) rfl rfl (Nat.le_of_ble_eq_true rfl) d_MC_init_12 (fun H locs hP hD hS => ?_)
  have hP : va_P (dC, dI) classes ([(h0, .inr (3, [.ref p0, .null, .null, .null, .null, .null, .int 0, .int 0]))] ++ playW a0 cI p0 setRow) H := hP
  have hD : va_D A ([(h0, .inr (3, [.ref p0, .null, .null, .null, .null, .null, .int 0, .int 0]))] ++ playW a0 cI p0 setRow) := hD
  refine W.widen (k := 8) (n := 101) (Nat.le_of_ble_eq_true rfl) (Nat.le_of_ble_eq_true rfl) ?_
  refine lv_aload_n hx hb d_MC_init_15 rfl (lv_at hl 0 rfl) ?_
  refine va_new (ci := 2) (fs := tape0) (C := R_Tape) (T := T_Tape) (N := 6) hx hb hts i_Tape ty_Tape t_Tape_ok hown (hts _ w1_101) (hts _ w1_102) (hts _ w1_3) hK hP hD hS hA rfl tape_fs (Nat.le_of_ble_eq_true rfl) (Nat.le_of_ble_eq_true rfl) d_MC_init_16 (fun qt H hP hD hS => ?_)
  refine lv_dup hx hb d_MC_init_19 rfl ?_
  have hPc := P_end hP
  have hFc := free_end hD hS hA
  refine va_callv (va_runIN (As := []) (rest := [.ref qt, .ref h0]) S (c_Tape_init l dC dI qt H.size) ⟨va_cnB (host := "MarkedChains") 0 hts (gN w1_105) rfl rfl rfl (hNw ("MarkedChains", 18, ⟨"MarkedChains$Tape", "<init>", "()V"⟩, "MarkedChains") (by decide)) (hts _ w1_3) ⟨by decide, by decide, by decide +kernel⟩ ⟨(Nat.le_of_ble_eq_true rfl), (Nat.le_of_ble_eq_true rfl)⟩, rfl, hts _ w1_104⟩ ⟨fun a U g mk q => by obtain ⟨q0, q1, qP, qK, qD⟩ := q; exact ⟨q0, q1, qP, va_K.moved (u := U) (U := U.calling g mk a) (Vm.Alike.refl U.vm) qK, qD⟩, fun U hU hW => ⟨rfl, by rw [hU], by rw [hU]; exact hPc, va_K.moved hW.alike (hK.sub (tys' := []) [] rfl), D_one _⟩⟩ rfl rfl hl.1 rfl (lv_room (Nat.le_of_ble_eq_true rfl)) d_MC_init_20 ⟨(Nat.le_of_ble_eq_true rfl), (Nat.le_of_ble_eq_true rfl)⟩) hS (fun q _ h => hFc q h) hFc (fun u t H1 locs ht hvm hw hB hz1 hk1 hS => ?_)
  obtain ⟨⟨qc, cC⟩, a1, cI', p1⟩ := u
  obtain ⟨hP1, hK1, hD1⟩ := hB
  rw [ht] at hP1
  obtain ⟨hP, hD⟩ := join_end hP hD hk1 hFc hP1 hD1
  have hK := hK.app (va_K.moved hvm.symm hK1)
  obtain rfl : cI = cI' := arr_uq hK (i := 0) (j := 2) rfl rfl
  have hK : va_K (dC, dI) classes [(cI, .int), (cC, .char)] s := hK.sub [0, 1] rfl
  generalize H1 = H at hP hS ⊢
  have hP : va_P (dC, dI) classes (([(h0, .inr (3, [.ref p0, .null, .null, .null, .null, .null, .int 0, .int 0]))] ++ playW a0 cI p0 setRow) ++ tapeW qc cC a1 cI qt p1) H := hP
  have hD : va_D A (([(h0, .inr (3, [.ref p0, .null, .null, .null, .null, .null, .int 0, .int 0]))] ++ playW a0 cI p0 setRow) ++ tapeW qc cC a1 cI qt p1) := hD
  refine va_putF (D := (dC, dI)) (ci := 3) (v := .ref qt) (ty := .object "MarkedChains$Tape") (C := R_MC) (T := T_MC) (N := 8) hx hb hts i_MC ty_MC t_MC_ok n_MC hown hK hP hD hS 0 rfl rfl 1 (by decide) (hts _ w2_72) (fun _ h9 => h9) rfl hin rfl (by decide +kernel) rfl rfl (Nat.le_of_ble_eq_true rfl) d_MC_init_23 (fun H locs hP hD hS => ?_)
  have hP : va_P (dC, dI) classes (([(h0, .inr (3, [.ref p0, .ref qt, .null, .null, .null, .null, .int 0, .int 0]))] ++ playW a0 cI p0 setRow) ++ tapeW qc cC a1 cI qt p1) H := hP
  have hD : va_D A (([(h0, .inr (3, [.ref p0, .ref qt, .null, .null, .null, .null, .int 0, .int 0]))] ++ playW a0 cI p0 setRow) ++ tapeW qc cC a1 cI qt p1) := hD
  refine W.widen (k := 18) (n := 608) (Nat.le_of_ble_eq_true rfl) (Nat.le_of_ble_eq_true rfl) ?_
  refine lv_aload_n hx hb d_MC_init_26 rfl (lv_at hl 0 rfl) ?_
  refine va_new (ci := 1) (fs := run0) (C := R_Run) (T := T_Run) (N := 16) hx hb hts i_Run ty_Run t_Run_ok hown (hts _ w1_132) (hts _ w1_133) (hts _ w1_4) hK hP hD hS hA rfl run_fs (Nat.le_of_ble_eq_true rfl) (Nat.le_of_ble_eq_true rfl) d_MC_init_27 (fun n1 H hP hD hS => ?_)
  refine lv_dup hx hb d_MC_init_30 rfl ?_
  refine lv_aload_n hx hb d_MC_init_31 rfl (lv_at hl 0 rfl) ?_
  refine va_get (D := (dC, dI)) (ci := 3) (C := R_MC) (T := T_MC) (N := 8) hx hb hts i_MC hown hK hP 0 rfl rfl 0 (by decide) (hts _ w2_71) (fun _ h9 => h9) rfl d_MC_init_32 ?_
  have hPc := P_end hP
  have hFc := free_end hD hS hA
  refine va_callv (va_runI (As := [.ref p0]) (rest := [.ref n1, .ref h0]) S (c_Run_init l dC dI n1 p0 H.size) (cwI 1 hts (gN w1_136) rfl rfl rfl (hts _ w1_4) (hts _ w1_134) (hts _ w1_135) rfl (by decide +kernel) ⟨(Nat.le_of_ble_eq_true rfl), (Nat.le_of_ble_eq_true rfl)⟩) ⟨fun a U g mk q => by obtain ⟨q0, q1, qP, qK, qD⟩ := q; exact ⟨q0, q1, qP, va_K.moved (u := U) (U := U.calling g mk a) (Vm.Alike.refl U.vm) qK, qD⟩, fun U hU hW => ⟨rfl, by rw [hU], by rw [hU]; exact hPc, va_K.moved hW.alike (hK.sub (tys' := []) [] rfl), D_one _⟩⟩ rfl rfl hl.1 rfl (lv_room (Nat.le_of_ble_eq_true rfl)) d_MC_init_35 ⟨(Nat.le_of_ble_eq_true rfl), (Nat.le_of_ble_eq_true rfl)⟩) hS (fun q _ h => hFc q h) hFc (fun u t H1 locs ht hvm hw hB hz1 hk1 hS => ?_)
  obtain ⟨r1, cI'⟩ := u
  obtain ⟨hP1, hK1, hD1⟩ := hB
  rw [ht] at hP1
  obtain ⟨hP, hD⟩ := join_end hP hD hk1 hFc hP1 hD1
  have hK := hK.app (va_K.moved hvm.symm hK1)
  obtain rfl : cI = cI' := arr_uq hK (i := 0) (j := 2) rfl rfl
  have hK : va_K (dC, dI) classes [(cI, .int), (cC, .char)] s := hK.sub [0, 1] rfl
  generalize H1 = H at hP hS ⊢
  have hP : va_P (dC, dI) classes ((([(h0, .inr (3, [.ref p0, .ref qt, .null, .null, .null, .null, .int 0, .int 0]))] ++ playW a0 cI p0 setRow) ++ tapeW qc cC a1 cI qt p1) ++ runW r1 cI n1 p0) H := hP
  have hD : va_D A ((([(h0, .inr (3, [.ref p0, .ref qt, .null, .null, .null, .null, .int 0, .int 0]))] ++ playW a0 cI p0 setRow) ++ tapeW qc cC a1 cI qt p1) ++ runW r1 cI n1 p0) := hD
  refine va_putF (D := (dC, dI)) (ci := 3) (v := .ref n1) (ty := .object "MarkedChains$Run") (C := R_MC) (T := T_MC) (N := 8) hx hb hts i_MC ty_MC t_MC_ok n_MC hown hK hP hD hS 0 rfl rfl 2 (by decide) (hts _ w2_73) (fun _ h9 => h9) rfl hin rfl (by decide +kernel) rfl rfl (Nat.le_of_ble_eq_true rfl) d_MC_init_38 (fun H locs hP hD hS => ?_)
  have hP : va_P (dC, dI) classes ((([(h0, .inr (3, [.ref p0, .ref qt, .ref n1, .null, .null, .null, .int 0, .int 0]))] ++ playW a0 cI p0 setRow) ++ tapeW qc cC a1 cI qt p1) ++ runW r1 cI n1 p0) H := hP
  have hD : va_D A ((([(h0, .inr (3, [.ref p0, .ref qt, .ref n1, .null, .null, .null, .int 0, .int 0]))] ++ playW a0 cI p0 setRow) ++ tapeW qc cC a1 cI qt p1) ++ runW r1 cI n1 p0) := hD
  refine W.widen (k := 30) (n := 2460) (Nat.le_of_ble_eq_true rfl) (Nat.le_of_ble_eq_true rfl) ?_
  refine lv_aload_n hx hb d_MC_init_41 rfl (lv_at hl 0 rfl) ?_
  refine va_new (ci := 1) (fs := run0) (C := R_Run) (T := T_Run) (N := 16) hx hb hts i_Run ty_Run t_Run_ok hown (hts _ w1_132) (hts _ w1_133) (hts _ w1_4) hK hP hD hS hA rfl run_fs (Nat.le_of_ble_eq_true rfl) (Nat.le_of_ble_eq_true rfl) d_MC_init_42 (fun n2 H hP hD hS => ?_)
  refine lv_dup hx hb d_MC_init_45 rfl ?_
  refine lv_aload_n hx hb d_MC_init_46 rfl (lv_at hl 0 rfl) ?_
  refine va_get (D := (dC, dI)) (ci := 3) (C := R_MC) (T := T_MC) (N := 8) hx hb hts i_MC hown hK hP 0 rfl rfl 0 (by decide) (hts _ w2_71) (fun _ h9 => h9) rfl d_MC_init_47 ?_
  have hPc := P_end hP
  have hFc := free_end hD hS hA
  refine va_callv (va_runI (As := [.ref p0]) (rest := [.ref n2, .ref h0]) S (c_Run_init l dC dI n2 p0 H.size) (cwI 1 hts (gN w1_136) rfl rfl rfl (hts _ w1_4) (hts _ w1_134) (hts _ w1_135) rfl (by decide +kernel) ⟨(Nat.le_of_ble_eq_true rfl), (Nat.le_of_ble_eq_true rfl)⟩) ⟨fun a U g mk q => by obtain ⟨q0, q1, qP, qK, qD⟩ := q; exact ⟨q0, q1, qP, va_K.moved (u := U) (U := U.calling g mk a) (Vm.Alike.refl U.vm) qK, qD⟩, fun U hU hW => ⟨rfl, by rw [hU], by rw [hU]; exact hPc, va_K.moved hW.alike (hK.sub (tys' := []) [] rfl), D_one _⟩⟩ rfl rfl hl.1 rfl (lv_room (Nat.le_of_ble_eq_true rfl)) d_MC_init_50 ⟨(Nat.le_of_ble_eq_true rfl), (Nat.le_of_ble_eq_true rfl)⟩) hS (fun q _ h => hFc q h) hFc (fun u t H1 locs ht hvm hw hB hz1 hk1 hS => ?_)
  obtain ⟨r2, cI'⟩ := u
  obtain ⟨hP1, hK1, hD1⟩ := hB
  rw [ht] at hP1
  obtain ⟨hP, hD⟩ := join_end hP hD hk1 hFc hP1 hD1
  have hK := hK.app (va_K.moved hvm.symm hK1)
  obtain rfl : cI = cI' := arr_uq hK (i := 0) (j := 2) rfl rfl
  have hK : va_K (dC, dI) classes [(cI, .int), (cC, .char)] s := hK.sub [0, 1] rfl
  generalize H1 = H at hP hS ⊢
  have hP : va_P (dC, dI) classes (((([(h0, .inr (3, [.ref p0, .ref qt, .ref n1, .null, .null, .null, .int 0, .int 0]))] ++ playW a0 cI p0 setRow) ++ tapeW qc cC a1 cI qt p1) ++ runW r1 cI n1 p0) ++ runW r2 cI n2 p0) H := hP
  have hD : va_D A (((([(h0, .inr (3, [.ref p0, .ref qt, .ref n1, .null, .null, .null, .int 0, .int 0]))] ++ playW a0 cI p0 setRow) ++ tapeW qc cC a1 cI qt p1) ++ runW r1 cI n1 p0) ++ runW r2 cI n2 p0) := hD
  refine va_putF (D := (dC, dI)) (ci := 3) (v := .ref n2) (ty := .object "MarkedChains$Run") (C := R_MC) (T := T_MC) (N := 8) hx hb hts i_MC ty_MC t_MC_ok n_MC hown hK hP hD hS 0 rfl rfl 3 (by decide) (hts _ w2_74) (fun _ h9 => h9) rfl hin rfl (by decide +kernel) rfl rfl (Nat.le_of_ble_eq_true rfl) d_MC_init_53 (fun H locs hP hD hS => ?_)
  have hP : va_P (dC, dI) classes (((([(h0, .inr (3, [.ref p0, .ref qt, .ref n1, .ref n2, .null, .null, .int 0, .int 0]))] ++ playW a0 cI p0 setRow) ++ tapeW qc cC a1 cI qt p1) ++ runW r1 cI n1 p0) ++ runW r2 cI n2 p0) H := hP
  have hD : va_D A (((([(h0, .inr (3, [.ref p0, .ref qt, .ref n1, .ref n2, .null, .null, .int 0, .int 0]))] ++ playW a0 cI p0 setRow) ++ tapeW qc cC a1 cI qt p1) ++ runW r1 cI n1 p0) ++ runW r2 cI n2 p0) := hD
  refine W.widen (k := 42) (n := 4312) (Nat.le_of_ble_eq_true rfl) (Nat.le_of_ble_eq_true rfl) ?_
  refine lv_aload_n hx hb d_MC_init_56 rfl (lv_at hl 0 rfl) ?_
  refine lv_bipush (v := (10 : Int32)) hx hb d_MC_init_57 (by decide) ?_
  refine va_newq (D := (dC, dI)) (C := "MarkedChains$Play") hx hb hown (hts _ w1_24) hO hK hP hD hS hA (N' := 10) (by decide) (by decide) (Nat.le_of_ble_eq_true rfl) (Nat.le_of_ble_eq_true rfl) (Nat.le_of_ble_eq_true rfl) d_MC_init_59 (fun qp cX H hK hP hD hS => ?_)
  obtain ⟨cP, rfl⟩ : ∃ c, c = cX := ⟨_, rfl⟩
  have hK : va_K (dC, dI) classes [(cI, .int), (cC, .char), (cP, .object "MarkedChains$Play")] s := hK
  have hP : va_P (dC, dI) classes ((((([(h0, .inr (3, [.ref p0, .ref qt, .ref n1, .ref n2, .null, .null, .int 0, .int 0]))] ++ playW a0 cI p0 setRow) ++ tapeW qc cC a1 cI qt p1) ++ runW r1 cI n1 p0) ++ runW r2 cI n2 p0) ++ [(qp, rowE cP 10 (fun _ => none))]) H := hP
  have hD : va_D A ((((([(h0, .inr (3, [.ref p0, .ref qt, .ref n1, .ref n2, .null, .null, .int 0, .int 0]))] ++ playW a0 cI p0 setRow) ++ tapeW qc cC a1 cI qt p1) ++ runW r1 cI n1 p0) ++ runW r2 cI n2 p0) ++ [(qp, rowE cP 10 (fun _ => none))]) := hD
  refine va_putF (D := (dC, dI)) (ci := 3) (v := .ref qp) (ty := .array (.object "MarkedChains$Play")) (C := R_MC) (T := T_MC) (N := 8) hx hb hts i_MC ty_MC t_MC_ok n_MC hown hK hP hD hS 0 rfl rfl 4 (by decide) (hts _ w2_75) (fun _ h9 => h9) rfl hin rfl (by decide +kernel) rfl rfl (Nat.le_of_ble_eq_true rfl) d_MC_init_62 (fun H locs hP hD hS => ?_)
  have hP : va_P (dC, dI) classes ((((([(h0, .inr (3, [.ref p0, .ref qt, .ref n1, .ref n2, .ref qp, .null, .int 0, .int 0]))] ++ playW a0 cI p0 setRow) ++ tapeW qc cC a1 cI qt p1) ++ runW r1 cI n1 p0) ++ runW r2 cI n2 p0) ++ [(qp, rowE cP 10 (fun _ => none))]) H := hP
  have hD : va_D A ((((([(h0, .inr (3, [.ref p0, .ref qt, .ref n1, .ref n2, .ref qp, .null, .int 0, .int 0]))] ++ playW a0 cI p0 setRow) ++ tapeW qc cC a1 cI qt p1) ++ runW r1 cI n1 p0) ++ runW r2 cI n2 p0) ++ [(qp, rowE cP 10 (fun _ => none))]) := hD
  refine W.widen (k := 43) (n := 4322) (Nat.le_of_ble_eq_true rfl) (Nat.le_of_ble_eq_true rfl) ?_
  refine lv_aload_n hx hb d_MC_init_65 rfl (lv_at hl 0 rfl) ?_
  refine lv_iconst (v := (2 : Int32)) hx hb d_MC_init_66 (by decide) ?_
  refine va_newq (D := (dC, dI)) (C := "MarkedChains$Play") hx hb hown (hts _ w1_24) hO hK hP hD hS hA (N' := 2) (by decide) (by decide) (Nat.le_of_ble_eq_true rfl) (Nat.le_of_ble_eq_true rfl) (Nat.le_of_ble_eq_true rfl) d_MC_init_67 (fun qs cX H hK hP hD hS => ?_)
  obtain rfl : cP = cX := arr_uqO hK (i := 2) (j := 3) rfl rfl
  have hK : va_K (dC, dI) classes [(cI, .int), (cC, .char), (cP, .object "MarkedChains$Play")] s := hK.sub [0, 1, 2] rfl
  have hP : va_P (dC, dI) classes (((((([(h0, .inr (3, [.ref p0, .ref qt, .ref n1, .ref n2, .ref qp, .null, .int 0, .int 0]))] ++ playW a0 cI p0 setRow) ++ tapeW qc cC a1 cI qt p1) ++ runW r1 cI n1 p0) ++ runW r2 cI n2 p0) ++ [(qp, rowE cP 10 (fun _ => none))]) ++ [(qs, rowE cP 2 (fun _ => none))]) H := hP
  have hD : va_D A (((((([(h0, .inr (3, [.ref p0, .ref qt, .ref n1, .ref n2, .ref qp, .null, .int 0, .int 0]))] ++ playW a0 cI p0 setRow) ++ tapeW qc cC a1 cI qt p1) ++ runW r1 cI n1 p0) ++ runW r2 cI n2 p0) ++ [(qp, rowE cP 10 (fun _ => none))]) ++ [(qs, rowE cP 2 (fun _ => none))]) := hD
  refine va_putF (D := (dC, dI)) (ci := 3) (v := .ref qs) (ty := .array (.object "MarkedChains$Play")) (C := R_MC) (T := T_MC) (N := 8) hx hb hts i_MC ty_MC t_MC_ok n_MC hown hK hP hD hS 0 rfl rfl 5 (by decide) (hts _ w2_76) (fun _ h9 => h9) rfl hin rfl (by decide +kernel) rfl rfl (Nat.le_of_ble_eq_true rfl) d_MC_init_70 (fun H locs hP hD hS => ?_)
  have hP : va_P (dC, dI) classes (((((([(h0, .inr (3, [.ref p0, .ref qt, .ref n1, .ref n2, .ref qp, .ref qs, .int 0, .int 0]))] ++ playW a0 cI p0 setRow) ++ tapeW qc cC a1 cI qt p1) ++ runW r1 cI n1 p0) ++ runW r2 cI n2 p0) ++ [(qp, rowE cP 10 (fun _ => none))]) ++ [(qs, rowE cP 2 (fun _ => none))]) H := hP
  have hD : va_D A (((((([(h0, .inr (3, [.ref p0, .ref qt, .ref n1, .ref n2, .ref qp, .ref qs, .int 0, .int 0]))] ++ playW a0 cI p0 setRow) ++ tapeW qc cC a1 cI qt p1) ++ runW r1 cI n1 p0) ++ runW r2 cI n2 p0) ++ [(qp, rowE cP 10 (fun _ => none))]) ++ [(qs, rowE cP 2 (fun _ => none))]) := hD
  refine W.widen (k := 44) (n := 4324) (Nat.le_of_ble_eq_true rfl) (Nat.le_of_ble_eq_true rfl) ?_
  refine lv_aload_n hx hb d_MC_init_73 rfl (lv_at hl 0 rfl) ?_
  refine lv_iconst (v := (0 : Int32)) hx hb d_MC_init_74 (by decide) ?_
  refine va_put (D := (dC, dI)) (ci := 3) (v := .int 0) (ty := .int) (C := R_MC) (T := T_MC) (N := 8) hx hb hts i_MC ty_MC t_MC_ok n_MC hown hK hP hD hS 0 rfl rfl 6 (by decide) (hts _ w2_77) (fun _ h9 => h9) rfl (by decide +kernel) rfl rfl (Nat.le_of_ble_eq_true rfl) d_MC_init_75 (fun H locs hP hD hS => ?_)
  have hP : va_P (dC, dI) classes (((((([(h0, .inr (3, [.ref p0, .ref qt, .ref n1, .ref n2, .ref qp, .ref qs, .int 0, .int 0]))] ++ playW a0 cI p0 setRow) ++ tapeW qc cC a1 cI qt p1) ++ runW r1 cI n1 p0) ++ runW r2 cI n2 p0) ++ [(qp, rowE cP 10 (fun _ => none))]) ++ [(qs, rowE cP 2 (fun _ => none))]) H := hP
  have hD : va_D A (((((([(h0, .inr (3, [.ref p0, .ref qt, .ref n1, .ref n2, .ref qp, .ref qs, .int 0, .int 0]))] ++ playW a0 cI p0 setRow) ++ tapeW qc cC a1 cI qt p1) ++ runW r1 cI n1 p0) ++ runW r2 cI n2 p0) ++ [(qp, rowE cP 10 (fun _ => none))]) ++ [(qs, rowE cP 2 (fun _ => none))]) := hD
  refine lv_aload_n hx hb d_MC_init_78 rfl (lv_at hl 0 rfl) ?_
  refine lv_iconst (v := (0 : Int32)) hx hb d_MC_init_79 (by decide) ?_
  refine va_put (D := (dC, dI)) (ci := 3) (v := .int 0) (ty := .int) (C := R_MC) (T := T_MC) (N := 8) hx hb hts i_MC ty_MC t_MC_ok n_MC hown hK hP hD hS 0 rfl rfl 7 (by decide) (hts _ w2_78) (fun _ h9 => h9) rfl (by decide +kernel) rfl rfl (Nat.le_of_ble_eq_true rfl) d_MC_init_80 (fun H locs hP hD hS => ?_)
  have hP : va_P (dC, dI) classes (((((([(h0, .inr (3, [.ref p0, .ref qt, .ref n1, .ref n2, .ref qp, .ref qs, .int 0, .int 0]))] ++ playW a0 cI p0 setRow) ++ tapeW qc cC a1 cI qt p1) ++ runW r1 cI n1 p0) ++ runW r2 cI n2 p0) ++ [(qp, rowE cP 10 (fun _ => none))]) ++ [(qs, rowE cP 2 (fun _ => none))]) H := hP
  have hD : va_D A (((((([(h0, .inr (3, [.ref p0, .ref qt, .ref n1, .ref n2, .ref qp, .ref qs, .int 0, .int 0]))] ++ playW a0 cI p0 setRow) ++ tapeW qc cC a1 cI qt p1) ++ runW r1 cI n1 p0) ++ runW r2 cI n2 p0) ++ [(qp, rowE cP 10 (fun _ => none))]) ++ [(qs, rowE cP 2 (fun _ => none))]) := hD
  have hP : va_P (dC, dI) classes (baseW h0 p0 a0 qt qc p1 a1 n1 r1 n2 r2 qp qs cI cC cP (fun _ => none) (fun _ => none)) H := hP
  have hD : va_D A (baseW h0 p0 a0 qt qc p1 a1 n1 r1 n2 r2 qp qs cI cC cP (fun _ => none) (fun _ => none)) := hD
  refine lv_iconst (v := (0 : Int32)) hx hb d_MC_init_83 (by decide) ?_
  refine lv_istore_n (lv' := [(1, .int (nI 0)), (0, .ref h0)]) hx hb d_MC_init_84 rfl hl (by decide) rfl (fun ls hl => ?_)
  refine mc_loop1 (c0 := 44) (s0 := 4324) (B := fun f => baseW h0 p0 a0 qt qc p1 a1 n1 r1 n2 r2 qp qs cI cC cP f (fun _ => none)) (h0 := h0) (r := 43) (qr := qp) (fs := mcFs p0 qt n1 n2 qp qs) S hK hA (Nat.le_of_ble_eq_true rfl) (Nat.le_of_ble_eq_true rfl) (Nat.le_of_ble_eq_true rfl) (Nat.le_of_ble_eq_true rfl) ⟨fun _ _ => rfl, fun _ _ => rfl, fun _ _ _ => rfl⟩ rfl (fun _ => 0) (fun f b H locs ls hf _ hP hD hS hl => ?_) 11 0 (by decide) (by decide) (fun _ => none) (fun _ => 0) H locs ls (fun i hi => absurd hi (Nat.not_lt_zero i)) (fun _ _ => rfl) (by rw [show plW (fun _ => 0) cI (8 * (0 + 0)) = [] from rfl, List.append_nil]; exact hP) (by rw [show plW (fun _ => 0) cI (8 * (0 + 0)) = [] from rfl, List.append_nil]; exact hD) hS hl
  refine lv_iconst (v := (0 : Int32)) hx hb d_MC_init_110 (by decide) ?_
  refine lv_istore_n (lv' := [(1, .int (nI 0)), (0, .ref h0)]) hx hb d_MC_init_111 rfl hl (by decide) rfl (fun ls hl => ?_)
  refine mc_loop2 (c0 := 124) (s0 := 5334) (B := fun g => baseW h0 p0 a0 qt qc p1 a1 n1 r1 n2 r2 qp qs cI cC cP f g) (h0 := h0) (r := 44) (qr := qs) (fs := mcFs p0 qt n1 n2 qp qs) S hK hA (Nat.le_of_ble_eq_true rfl) (Nat.le_of_ble_eq_true rfl) (Nat.le_of_ble_eq_true rfl) (Nat.le_of_ble_eq_true rfl) ⟨fun _ _ => rfl, fun _ _ => rfl, fun _ _ _ => rfl⟩ rfl b (fun g b' H locs ls hg hbb hP hD hS hl => ?_) 3 0 (by decide) (by decide) (fun _ => none) b H locs ls (fun i hi => absurd hi (Nat.not_lt_zero i)) (fun _ _ => rfl) hP hD hS hl
  have hf : ∀ i, i < 10 → f i = some (b' (8 * (0 + i))) := fun i hi => by rw [hbb _ (by omega)]; exact hf i hi
  obtain ⟨hP, hD⟩ := asm adK adV h0 p0 a0 qt qc p1 a1 n1 r1 n2 r2 qp qs hP hD hf hg
  clear hbb hf hg
  obtain ⟨M', hM'⟩ := iM_replay
  have h138 : adW h0 p0 a0 qt qc p1 a1 n1 r1 n2 r2 qp qs b' 138 = h0 := rfl
  generalize hade : adW h0 p0 a0 qt qc p1 a1 n1 r1 n2 r2 qp qs b' = ad at hP hD h138
  generalize hcae : caW cI cC cP = ca at hP hD
  have hK : va_K (dC, dI) classes [(ca 0, .int), (ca 1, .char), (ca 2, .object "MarkedChains$Play")] s := by rw [← hcae]; exact hK
  clear hade hcae
  have hIC : IsC (zC dC dI adK adV ad ca) := ⟨ca, rfl, fun _ _ => rfl, rfl⟩
  have hI : wI (zC dC dI adK adV ad ca) := fun i j hi hj he => hD.1 i j _ _ (wW_get _ _ hi) (wW_get _ _ hj) he
  have hfr : ∀ q, wA (zC dC dI adK adV ad ca) q → A q := fun q hq => by
    obtain ⟨k, hk, rfl⟩ := hq
    exact hD.2 k _ (wW_get _ _ hk)
  have hk0 : ∀ q : Nat, q < s.heap.size → ¬ A q → H[q]? = s.heap[q]? := hS.2.1
  have hr : ∃ cell : Cell, H[h0]? = some cell ∧ cell.vm.isStatics = false ∧ s.vm.findClass R_MC = some cell.cls := by
    rw [← h138]
    exact va_recv hK hP (q := (R_MC, T_MC, 8)) rfl ((wW_get (zC dC dI adK adV ad ca) iM (k := 138) (show 138 < 141 by decide)).trans (by rw [cg_MC hIC _]))
  refine lv_aload_n hx hb d_MC_init_136 rfl (lv_at hl 1 rfl) ?_
  have hC : Cv l (zC dC dI adK adV ad ca) y_MC_replay b_MC_replay 1 none 5 115 [.ref h0] iM M' := by
    rw [← h138]
    exact c_MC_replay l hI hIC iM hM'
  refine va_callv (va_runV (As := []) (rest := []) S hC (cw_MC_49 hts (Nat.le_of_ble_eq_true rfl) (Nat.le_of_ble_eq_true rfl)) ⟨wPre.blind _, hr, fun U hU hW => ⟨rfl, by rw [hU]; exact hP, va_K.moved hW.alike hK, fun q hq => va_Nw.warmM hW (hNw q hq), fun q hq => vk_R.warm hW (hSr q hq), by rw [hU]; exact ((hvS.kept hk0).narrow hfr).moved hW.alike, by rw [hU]; exact ((hvZ.kept hk0).narrow hfr).moved hW.alike, by rw [hU]; exact ((hvQ.kept hk0).narrow hfr).moved hW.alike⟩⟩ rfl rfl hl.1 rfl (lv_room (Nat.le_of_ble_eq_true rfl)) d_MC_init_137 ⟨(Nat.le_of_ble_eq_true rfl), (Nat.le_of_ble_eq_true rfl)⟩) hS (fun q _ h => hfr q h) hfr (fun u t H1 locs ht hvm hw hB hz1 hk1 hS => ?_)
  have hB : wP (zC dC dI adK adV ad ca) M' H1 := by rw [← ht]; exact hB
  have hD9 : va_D A (wW (zC dC dI adK adV ad ca) M') := (wW_D hI M').weaken (fun _ _ _ h => hfr _ h)
  refine W.widen (k := 140) (n := 5536) (Nat.le_of_ble_eq_true rfl) (Nat.le_of_ble_eq_true rfl) ?_
  exact W.vret hx hb hr' (fun t ht hW => ⟨⟨(ad, ca, M'), rfl, ⟨h138, hM'⟩, by rw [ht]; exact hB, va_K.moved hW.alike hK, hD9⟩, hS.F ht⟩) hS.2.2 d_MC_init_140 hlocks
