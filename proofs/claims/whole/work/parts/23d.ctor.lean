/-! a new play, behind any world; the tape -/
theorem join_end {A : Nat → Prop} {D : va_G} {cl : List vw_C} {ws w1 : va_W} {x : Nat × va_E} {H H1 : Heap} (hP : va_P D cl (ws ++ [x]) H) (hD : va_D A (ws ++ [x])) (hk : ∀ q : Nat, q < H.size → ¬ va_A [x] H.size q → H1[q]? = H[q]?) (hF : ∀ q, va_A [x] H.size q → A q) (hP1 : va_P D cl w1 H1) (hD1 : va_D (va_A [x] H.size) w1) : va_P D cl (ws ++ w1) H1 ∧ va_D A (ws ++ w1) := by
  have inl : ∀ (k : Nat) (q : Nat × va_E), ws[k]? = some q → k < ws.length ∧ (ws ++ [x])[k]? = some q := by
    intro k q hq
    have hl : k < ws.length := (List.getElem?_eq_some_iff.mp hq).1
    exact ⟨hl, by rw [List.getElem?_append_left hl]; exact hq⟩
  have apart : ∀ (k : Nat) (q : Nat × va_E), ws[k]? = some q → q.1 < H.size ∧ ¬ va_A [x] H.size q.1 := by
    intro k q hq
    obtain ⟨hl, h2⟩ := inl k q hq
    have hlt := (hP k q h2).lt
    refine ⟨hlt, fun h => ?_⟩
    rcases h with ⟨k2, e, h⟩ | h
    · have hk2 : k2 < 1 := (List.getElem?_eq_some_iff.mp h).1
      obtain rfl : k2 = 0 := by omega
      have hx : (ws ++ [x])[ws.length]? = some (q.1, e) := by
        rw [List.getElem?_append_right (Nat.le_refl _), Nat.sub_self]
        exact h
      have := hD.1 k ws.length q (q.1, e) h2 hx rfl
      omega
    · omega
  refine ⟨va_P.app (fun k q hq => ?_) hP1, va_D.app ⟨fun i j u v hu hv => hD.1 i j u v (inl i u hu).2 (inl j v hv).2, fun k q hq => hD.2 k q (inl k q hq).2⟩ (hD1.weaken (fun k q _ h => hF q.1 h)) (fun i j u v hu hv huv => ?_)⟩
  · obtain ⟨g1, g2⟩ := apart k q hq
    exact (hP k q (inl k q hq).2).kept (hk q.1 g1 g2)
  · exact (apart i u hu).2 (by rw [huv]; exact hD1.2 j v hv)
theorem free_end {A : Nat → Prop} {ws : va_W} {x : Nat × va_E} {H0 H : Heap} {locs : List Loc} (hD : va_D A (ws ++ [x])) (hS : va_S A H0 H locs) (hA : ∀ q, H0.size ≤ q → A q) : ∀ q, va_A [x] H.size q → A q := by
  intro q h
  rcases h with ⟨k2, e, h⟩ | h
  · have hk2 : k2 < 1 := (List.getElem?_eq_some_iff.mp h).1
    obtain rfl : k2 = 0 := by omega
    refine hD.2 ws.length (q, e) ?_
    rw [List.getElem?_append_right (Nat.le_refl _), Nat.sub_self]
    exact h
  · exact hA q (Nat.le_trans hS.1 h)
theorem P_end {D : va_G} {cl : List vw_C} {ws : va_W} {x : Nat × va_E} {H : Heap} (hP : va_P D cl (ws ++ [x]) H) : va_P D cl [x] H := by
  intro k q hq
  have hk : k < 1 := (List.getElem?_eq_some_iff.mp hq).1
  obtain rfl : k = 0 := by omega
  refine hP ws.length q ?_
  rw [List.getElem?_append_right (Nat.le_refl _), Nat.sub_self]
  exact hq
theorem D_one (x : Nat × va_E) : va_D (fun _ => True) [x] := by
  refine ⟨fun i j u v hu hv _ => ?_, fun _ _ _ => trivial⟩
  have h1 : i < 1 := (List.getElem?_eq_some_iff.mp hu).1
  have h2 : j < 1 := (List.getElem?_eq_some_iff.mp hv).1
  omega
theorem play_fs : ∀ j, j < 12 → defaultValue (ty_Play j) = vp_V play0 j := fun j hj => by
  rcases (show j = 0 ∨ j = 1 ∨ j = 2 ∨ j = 3 ∨ j = 4 ∨ j = 5 ∨ j = 6 ∨ j = 7 ∨ j = 8 ∨ j = 9 ∨ j = 10 ∨ j = 11 by omega) with rfl | rfl | rfl | rfl | rfl | rfl | rfl | rfl | rfl | rfl | rfl | rfl <;> rfl
section NewPlay
variable {p : Program} {l : Launch} {e : Env} {R : Room} {s : State} {m : MethodId} {args : Array Value} {below : List Frame} {meth : Method} {c : Code} {H H0 : Heap} {locs : List Loc} {cells slots : Nat} {Q : State → Prop}
variable {cc : ByteArray} {pc : Nat} {ls : Array Slot} {rest : List Value} {nL : Nat} {own : String} {dC : Nat → ClassId} {dI : Nat → Nat → Nat} {A : Nat → Prop} {ws : va_W} {tys : List (ClassId × FieldType)}
set_option maxHeartbeats 4000000 in
theorem w_newPlay (S : CallFix p m c cc nL s args gtb own) {ic im : Nat} (hcl : (Cond.classLink own ic R_Play).before args s = true) (hlk : (Cond.methodLink own im y_Play_init).before args s = true) (hK : va_K (dC, dI) classes tys s) (hP : va_P (dC, dI) classes ws H) (hD : va_D A ws) (hS : va_S A H0 H locs) (hA : ∀ q, H0.size ≤ q → A q) (hcells : cells + 8 ≤ R.cells) (hslots : slots + 101 ≤ R.slots) (hfr : 2 ≤ R.frames) (hlo : 40 ≤ R.locals) (hsz : ls.size = nL) (hrest : (rest.map fun v => v.category).sum ≤ 7) (d0 : decode cc pc = .ok (.new ic, 3)) (d1 : decode cc (pc + 3) = .ok (.dup, 1)) (d2 : decode cc (pc + 4) = .ok (.invokespecial im, 3))
    (kk : ∀ (a : Nat → Nat) (cI : ClassId) (h : Nat) (H1 : Heap) (locs1 : List Loc), va_K (dC, dI) classes [(cI, .int)] s → va_P (dC, dI) classes (ws ++ playW a cI h setRow) H1 → va_D A (ws ++ playW a cI h setRow) → va_S A H0 H1 locs1 → W p l e R s m args below meth c H1 locs1 (cells + 8) (slots + 101) Q (F0 m (pc + 7) ls (.ref h :: rest))) : W p l e R s m args below meth c H locs cells slots Q (F0 m pc ls rest) := by
  obtain ⟨hx, hb, hml, hown, hts⟩ := id S
  refine va_new (ci := 0) (fs := play0) (C := R_Play) (T := T_Play) (N := 12) hx hb hts i_Play ty_Play t_Play_ok hown hcl (hts _ w1_25) (hts _ w1_2) hK hP hD hS hA rfl play_fs (by omega) (by omega) d0 (fun q H hP hD hS => ?_)
  refine lv_dup hx hb d1 rfl ?_
  have hPc := P_end hP
  have hFc := free_end hD hS hA
  refine va_callv (va_runI (As := []) (rest := .ref q :: rest) S (c_Play_init l dC dI q H.size) (cwI 0 hts (gN w1_28) rfl rfl rfl (hts _ w1_2) hlk (hts _ w1_27) rfl (by decide +kernel) ⟨hfr, hlo⟩) ⟨fun a U g mk q => by obtain ⟨q0, q1, qP, qK, qD⟩ := q; exact ⟨q0, q1, qP, va_K.moved (u := U) (U := U.calling g mk a) (Vm.Alike.refl U.vm) qK, qD⟩, fun U hU hW => ⟨rfl, by rw [hU], by rw [hU]; exact hPc, va_K.moved hW.alike (hK.sub (tys' := []) [] rfl), D_one _⟩⟩ rfl rfl hsz rfl (lv_room (by rw [List.map_cons, List.sum_cons]; show 1 + _ ≤ 8; omega)) d2 ⟨by omega, by omega⟩) hS (fun q _ h => hFc q h) hFc (fun u t H1 locs ht hvm hw hB hz1 hk1 hS => ?_)
  obtain ⟨hP1, hK1, hD1⟩ := hB
  rw [ht] at hP1
  obtain ⟨hP, hD⟩ := join_end hP hD hk1 hFc hP1 hD1
  exact kk u.1 u.2 q H1 locs (va_K.moved hvm.symm hK1) hP hD hS
end NewPlay
abbrev tape0 : List Value := [.null, .null, .int 0, .int 0, .int 0, .int 0]
abbrev tapeW (qc : Nat) (cC : ClassId) (a : Nat → Nat) (cI : ClassId) (h0 h : Nat) : va_W := [(h0, .inr (2, [.ref qc, .ref h, .int 0, .int 0, .int 0, .int 0])), (qc, .inl (cC, 400, .inl z0))] ++ playW a cI h setRow
set_option maxHeartbeats 4000000 in
theorem c_Tape_init (l : Launch) (dC : Nat → ClassId) (dI : Nat → Nat → Nat) (h0 sz : Nat) : Met l y_Tape_init (.code y_Tape_init b_Tape_init 1 none :: gtb) { frames := 2, cells := 9, slots := 501, locals := 40 } (va_Pc [.ref h0] (fun U => U.heap.size = sz ∧ va_P (dC, dI) classes [(h0, .inr (2, tape0))] U.heap ∧ va_K (dC, dI) classes [] U ∧ va_D (fun _ => True) [(h0, .inr (2, tape0))])) (va_Qv (fun _ : (Nat × ClassId) × (Nat → Nat) × ClassId × Nat => True) (fun u t => va_P (dC, dI) classes (tapeW u.1.1 u.1.2 u.2.1 u.2.2.1 h0 u.2.2.2) t.heap ∧ va_K (dC, dI) classes [(u.1.2, .char), (u.2.2.1, .int)] t ∧ va_D (va_A [(h0, .inr (2, tape0))] sz) (tapeW u.1.1 u.1.2 u.2.1 u.2.2.1 h0 u.2.2.2)) (va_A [(h0, .inr (2, tape0))] sz)) 9 501 (va_A [(h0, .inr (2, tape0))] sz) := by
  refine Met.ofW (cc := b_Tape_init) (maxL := 1) (ret := none) (by decide) rfl ?_
  intro p e s m args below meth c s₁ B hml hv
  obtain ⟨rfl, hsz, hP, hK, hD0⟩ := hv
  have hx := B.exec
  have hb := B.bytes
  have hr := B.returns
  have hts : ∀ w ∈ gtb, w.before _ s = true := fun w hw => atoms_spec (ws := .code y_Tape_init b_Tape_init 1 none :: gtb) B.pre w (List.mem_cons_of_mem _ hw)
  have hown : s.vm.findClass R_Tape = some m.cls := findClass_of_methodNamed B.named
  have hlocks := B.notSynchronized
  have hin : meth.name = "<init>" := (name_of_methodNamed B.named B.method).1
  subst hsz
  have hD := hD0.self (sz := s.heap.size)
  generalize hAe : va_A [(h0, .inr (2, tape0))] s.heap.size = A at hD ⊢
  have hA : ∀ q : Nat, s.heap.size ≤ q → A q := fun q h => by rw [← hAe]; exact Or.inr h
  have hS : va_S A s.heap s.heap [] := va_S.rf
  have hl := lv_entry ([.ref h0]) (n := 1) (Nat.le_of_ble_eq_true rfl)
  rw [lg_entry_eq]
  generalize (lg_sl ([.ref h0]) ++ List.replicate (1 - (lg_sl ([.ref h0])).length) Slot.unset).toArray = ls at hl ⊢
  have hl : lv_has ls 1 [(0, .ref h0)] := hl
  refine lv_aload_n hx hb d_Tape_init_0 rfl (lv_at hl 0 rfl) ?_
  refine W.objInit hx hb hown (hts _ w1_106) (hts _ w1_22) (hts _ w1_23) rfl (by rw [hml]; exact hl.1) rfl d_Tape_init_1 (Nat.le_of_ble_eq_true rfl) (Nat.le_of_ble_eq_true rfl) ?_
  refine W.eq (g2 := F0 m 4 ls []) rfl ?_
  refine lv_aload_n hx hb d_Tape_init_4 rfl (lv_at hl 0 rfl) ?_
  refine lv_sipush (v := (400 : Int32)) hx hb d_Tape_init_5 (by decide) ?_
  refine va_newa (D := (dC, dI)) (atype := .char) (a0 := (400, .inl z0)) hx hb (hts _ w1_131) (ty := .char) rfl hK hP hD hS hA (fun _ => rfl) (by decide) (by decide) (Nat.le_of_ble_eq_true rfl) (Nat.le_of_ble_eq_true rfl) (Nat.le_of_ble_eq_true rfl) d_Tape_init_8 (fun q1 cX H hK hP hD hS => ?_)
  obtain ⟨cC, rfl⟩ : ∃ c, c = cX := ⟨_, rfl⟩
  have hK : va_K (dC, dI) classes [(cC, .char)] s := hK
  have hP : va_P (dC, dI) classes [(h0, .inr (2, [.null, .null, .int 0, .int 0, .int 0, .int 0])), (q1, .inl (cC, 400, .inl z0))] H := hP
  have hD : va_D A [(h0, .inr (2, [.null, .null, .int 0, .int 0, .int 0, .int 0])), (q1, .inl (cC, 400, .inl z0))] := hD
  refine W.widen (k := 1) (n := 400) (Nat.le_of_ble_eq_true rfl) (Nat.le_of_ble_eq_true rfl) ?_
  refine va_putF (D := (dC, dI)) (ci := 2) (v := .ref q1) (ty := .array .char) (C := R_Tape) (T := T_Tape) (N := 6) hx hb hts i_Tape ty_Tape t_Tape_ok n_Tape hown hK hP hD hS 0 rfl rfl 0 (by decide) (hts _ w1_109) (fun _ h9 => h9) rfl hin rfl (by decide +kernel) rfl rfl (Nat.le_of_ble_eq_true rfl) d_Tape_init_10 (fun H locs hP hD hS => ?_)
  have hP : va_P (dC, dI) classes [(h0, .inr (2, [.ref q1, .null, .int 0, .int 0, .int 0, .int 0])), (q1, .inl (cC, 400, .inl z0))] H := hP
  have hD : va_D A [(h0, .inr (2, [.ref q1, .null, .int 0, .int 0, .int 0, .int 0])), (q1, .inl (cC, 400, .inl z0))] := hD
  refine lv_aload_n hx hb d_Tape_init_13 rfl (lv_at hl 0 rfl) ?_
  refine w_newPlay (own := R_Tape) ⟨hx, hb, hml, hown, hts⟩ (hts _ w1_107) (hts _ w1_108) hK hP hD hS hA (Nat.le_of_ble_eq_true rfl) (Nat.le_of_ble_eq_true rfl) (Nat.le_of_ble_eq_true rfl) (Nat.le_of_ble_eq_true rfl) hl.1 (Nat.le_of_ble_eq_true rfl) d_Tape_init_14 d_Tape_init_17 d_Tape_init_18 (fun a cI h H locs hK1 hP hD hS => ?_)
  have hK : va_K (dC, dI) classes [(cC, .char), (cI, .int)] s := hK.app hK1
  have hP : va_P (dC, dI) classes ([(h0, .inr (2, [.ref q1, .null, .int 0, .int 0, .int 0, .int 0])), (q1, .inl (cC, 400, .inl z0))] ++ playW a cI h setRow) H := hP
  have hD : va_D A ([(h0, .inr (2, [.ref q1, .null, .int 0, .int 0, .int 0, .int 0])), (q1, .inl (cC, 400, .inl z0))] ++ playW a cI h setRow) := hD
  refine va_putF (D := (dC, dI)) (ci := 2) (v := .ref h) (ty := .object "MarkedChains$Play") (C := R_Tape) (T := T_Tape) (N := 6) hx hb hts i_Tape ty_Tape t_Tape_ok n_Tape hown hK hP hD hS 0 rfl rfl 1 (by decide) (hts _ w1_110) (fun _ h9 => h9) rfl hin rfl (by decide +kernel) rfl rfl (Nat.le_of_ble_eq_true rfl) d_Tape_init_21 (fun H locs hP hD hS => ?_)
  have hP : va_P (dC, dI) classes ([(h0, .inr (2, [.ref q1, .ref h, .int 0, .int 0, .int 0, .int 0])), (q1, .inl (cC, 400, .inl z0))] ++ playW a cI h setRow) H := hP
  have hD : va_D A ([(h0, .inr (2, [.ref q1, .ref h, .int 0, .int 0, .int 0, .int 0])), (q1, .inl (cC, 400, .inl z0))] ++ playW a cI h setRow) := hD
  refine lv_aload_n hx hb d_Tape_init_24 rfl (lv_at hl 0 rfl) ?_
  refine lv_iconst (v := (0 : Int32)) hx hb d_Tape_init_25 (by decide) ?_
  refine va_put (D := (dC, dI)) (ci := 2) (v := .int 0) (ty := .int) (C := R_Tape) (T := T_Tape) (N := 6) hx hb hts i_Tape ty_Tape t_Tape_ok n_Tape hown hK hP hD hS 0 rfl rfl 2 (by decide) (hts _ w1_112) (fun _ h9 => h9) rfl (by decide +kernel) rfl rfl (Nat.le_of_ble_eq_true rfl) d_Tape_init_26 (fun H locs hP hD hS => ?_)
  have hP : va_P (dC, dI) classes ([(h0, .inr (2, [.ref q1, .ref h, .int 0, .int 0, .int 0, .int 0])), (q1, .inl (cC, 400, .inl z0))] ++ playW a cI h setRow) H := hP
  have hD : va_D A ([(h0, .inr (2, [.ref q1, .ref h, .int 0, .int 0, .int 0, .int 0])), (q1, .inl (cC, 400, .inl z0))] ++ playW a cI h setRow) := hD
  refine lv_aload_n hx hb d_Tape_init_29 rfl (lv_at hl 0 rfl) ?_
  refine lv_iconst (v := (0 : Int32)) hx hb d_Tape_init_30 (by decide) ?_
  refine va_put (D := (dC, dI)) (ci := 2) (v := .int 0) (ty := .int) (C := R_Tape) (T := T_Tape) (N := 6) hx hb hts i_Tape ty_Tape t_Tape_ok n_Tape hown hK hP hD hS 0 rfl rfl 3 (by decide) (hts _ w1_114) (fun _ h9 => h9) rfl (by decide +kernel) rfl rfl (Nat.le_of_ble_eq_true rfl) d_Tape_init_31 (fun H locs hP hD hS => ?_)
  have hP : va_P (dC, dI) classes ([(h0, .inr (2, [.ref q1, .ref h, .int 0, .int 0, .int 0, .int 0])), (q1, .inl (cC, 400, .inl z0))] ++ playW a cI h setRow) H := hP
  have hD : va_D A ([(h0, .inr (2, [.ref q1, .ref h, .int 0, .int 0, .int 0, .int 0])), (q1, .inl (cC, 400, .inl z0))] ++ playW a cI h setRow) := hD
  refine lv_aload_n hx hb d_Tape_init_34 rfl (lv_at hl 0 rfl) ?_
  refine lv_iconst (v := (0 : Int32)) hx hb d_Tape_init_35 (by decide) ?_
  refine va_put (D := (dC, dI)) (ci := 2) (v := .int 0) (ty := .int) (C := R_Tape) (T := T_Tape) (N := 6) hx hb hts i_Tape ty_Tape t_Tape_ok n_Tape hown hK hP hD hS 0 rfl rfl 4 (by decide) (hts _ w1_116) (fun _ h9 => h9) rfl (by decide +kernel) rfl rfl (Nat.le_of_ble_eq_true rfl) d_Tape_init_36 (fun H locs hP hD hS => ?_)
  have hP : va_P (dC, dI) classes ([(h0, .inr (2, [.ref q1, .ref h, .int 0, .int 0, .int 0, .int 0])), (q1, .inl (cC, 400, .inl z0))] ++ playW a cI h setRow) H := hP
  have hD : va_D A ([(h0, .inr (2, [.ref q1, .ref h, .int 0, .int 0, .int 0, .int 0])), (q1, .inl (cC, 400, .inl z0))] ++ playW a cI h setRow) := hD
  refine lv_aload_n hx hb d_Tape_init_39 rfl (lv_at hl 0 rfl) ?_
  refine lv_iconst (v := (0 : Int32)) hx hb d_Tape_init_40 (by decide) ?_
  refine va_put (D := (dC, dI)) (ci := 2) (v := .int 0) (ty := .int) (C := R_Tape) (T := T_Tape) (N := 6) hx hb hts i_Tape ty_Tape t_Tape_ok n_Tape hown hK hP hD hS 0 rfl rfl 5 (by decide) (hts _ w1_117) (fun _ h9 => h9) rfl (by decide +kernel) rfl rfl (Nat.le_of_ble_eq_true rfl) d_Tape_init_41 (fun H locs hP hD hS => ?_)
  have hP : va_P (dC, dI) classes ([(h0, .inr (2, [.ref q1, .ref h, .int 0, .int 0, .int 0, .int 0])), (q1, .inl (cC, 400, .inl z0))] ++ playW a cI h setRow) H := hP
  have hD : va_D A ([(h0, .inr (2, [.ref q1, .ref h, .int 0, .int 0, .int 0, .int 0])), (q1, .inl (cC, 400, .inl z0))] ++ playW a cI h setRow) := hD
  refine W.widen (k := 9) (n := 501) (Nat.le_of_ble_eq_true rfl) (Nat.le_of_ble_eq_true rfl) ?_
  exact W.vret hx hb hr (fun t ht hW => ⟨⟨((q1, cC), a, cI, h), rfl, trivial, by rw [ht]; exact hP, va_K.moved hW.alike hK, hD⟩, hS.F ht⟩) hS.2.2 d_Tape_init_44 hlocks
