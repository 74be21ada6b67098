/-! the literals: length() and charAt() -/
section StrEnd
variable {p : Program} {l : Launch} {e : Env} {R : Room} {s : State} {m : MethodId} {args : Array Value} {below : List Frame} {meth : Method} {c : Code} {H : Heap} {locs : List Loc} {cc : ByteArray} {pc : Nat} {ls : Array Slot} {Z : WD} {M : Mem}
theorem q_rt (hx : p.tables.exec = Jvm.exec) (hb : c.code = cc) {ty : FieldType} (hr : meth.sig.returnType = some ty) (hlocks : meth.locks = false) (hH : HW Z M s H locs) {v : Int32} (hn : narrow ty (.int v) = .int v) (hdg : decode cc pc = .ok (.ireturn, 1)) : W p l e R s m args below meth c H locs 0 0 (MQ below (va_Qi (fun r' (_ : Unit) => r' = v) (wPost Z M) (wA Z)) args s 0 0 (wA Z)) (F0 m pc ls [.int v]) :=
  W.zret hx hb hr hn (fun t ht hW => ⟨⟨v, (), rfl, rfl, by show wP Z M t.heap; rw [ht]; exact hH.1⟩, hH.2.F ht⟩) hH.2.2.2 hdg hlocks
end StrEnd
noncomputable def f_Str_length (a : Nat) : Int32 := nI (lenS.getD a 0)
def chS (a j : Nat) : Int32 := (bytS.getD a []).getD j 0
noncomputable def f_Str_charAt (a : Nat) (x : Int32) : Option Int32 := gIn x (lenS.getD a 0) (some (chS a x.toNatClampNeg))
theorem strs_ok : ∀ a, a < 10 → lenS.getD a 0 < 100 ∧ ∀ j, j < 100 → chS a j &&& 255 = chS a j := by decide +kernel
theorem strs_len : ∀ a, a < 10 → (bytS.getD a []).length = lenS.getD a 0 := by decide +kernel
set_option maxHeartbeats 4000000 in
theorem c0_Str_coder (l : Launch) {Z : WD} (hI : wI Z) (a : Nat) (hs : a < 10) (M : Mem) : Ci l Z y_Str_coder b_Str_coder 1 (some .byte) 0 0 [.ref (Z.2.2.2.2.2.1 a)] M M (0) := by
  refine Met.ofW (cc := b_Str_coder) (maxL := 1) (ret := (some .byte)) (by decide) rfl ?_
  intro p e s m args below meth c s₁ B hml hv
  obtain ⟨rfl, hP, hX⟩ := hv
  have S : CallFix p m c b_Str_coder 1 s ([.ref (Z.2.2.2.2.2.1 a)] : List Value).toArray gtb R_Str := ⟨B.exec, B.bytes, hml, findClass_of_methodNamed B.named, fun w hw => atoms_spec (ws := .code y_Str_coder b_Str_coder 1 (some .byte) :: gtb) B.pre w (List.mem_cons_of_mem _ hw)⟩
  have hx := S.1
  have hb := S.2.1
  have hown := S.2.2.2.1
  have ht := S.2.2.2.2
  have hR : 0 ≤ (headSpec (Cond.code y_Str_coder b_Str_coder 1 (some .byte) :: gtb) { frames := 0, cells := 0, slots := 0, locals := 0 }).room.frames ∧ 0 ≤ (headSpec (Cond.code y_Str_coder b_Str_coder 1 (some .byte) :: gtb) { frames := 0, cells := 0, slots := 0, locals := 0 }).room.locals := ⟨Nat.le_refl _, Nat.le_refl _⟩
  have hl := lv_entry ([.ref (Z.2.2.2.2.2.1 a)]) (n := 1) (Nat.le_of_ble_eq_true rfl)
  rw [lg_entry_eq]
  generalize (lg_sl ([.ref (Z.2.2.2.2.2.1 a)]) ++ List.replicate (1 - (lg_sl ([.ref (Z.2.2.2.2.2.1 a)])).length) Slot.unset).toArray = ls at hl ⊢
  have hl : lv_has ls 1 [(0, .ref (Z.2.2.2.2.2.1 a))] := hl
  have hH : HW Z M s s.heap [] := ⟨hP, va_S.rf⟩
  refine va_gets hx hb hX.2.2.2.2.1 hH.2 hown (ht _ w2_138) (fun _ h => h) d_Str_coder_0 ?_
  refine lv_if_eq (tgt := 13) hx hb d_Str_coder_3 (by decide) (fun hc => absurd hc (by decide)) (fun hc => ?_)
  refine lv_aload_n hx hb d_Str_coder_6 rfl (lv_at hl 0 rfl) ?_
  refine vk_getf hx hb (hX.2.2.2.1.1 a hs).2.1 hH.2 hown (ht _ w6_225) (fun _ h => h) d_Str_coder_7 ?_
  refine lv_goto (tgt := 14) hx hb d_Str_coder_10 (by decide) ?_
  exact q_rt hx hb B.returns B.notSynchronized hH rfl d_Str_coder_14
set_option maxHeartbeats 4000000 in
theorem c0_Str_isLatin1 (l : Launch) {Z : WD} (hI : wI Z) (a : Nat) (hs : a < 10) (M : Mem) : Ci l Z y_Str_isLatin1 b_Str_isLatin1 1 (some .boolean) 0 0 [.ref (Z.2.2.2.2.2.1 a)] M M (1) := by
  refine Met.ofW (cc := b_Str_isLatin1) (maxL := 1) (ret := (some .boolean)) (by decide) rfl ?_
  intro p e s m args below meth c s₁ B hml hv
  obtain ⟨rfl, hP, hX⟩ := hv
  have S : CallFix p m c b_Str_isLatin1 1 s ([.ref (Z.2.2.2.2.2.1 a)] : List Value).toArray gtb R_Str := ⟨B.exec, B.bytes, hml, findClass_of_methodNamed B.named, fun w hw => atoms_spec (ws := .code y_Str_isLatin1 b_Str_isLatin1 1 (some .boolean) :: gtb) B.pre w (List.mem_cons_of_mem _ hw)⟩
  have hx := S.1
  have hb := S.2.1
  have hown := S.2.2.2.1
  have ht := S.2.2.2.2
  have hR : 0 ≤ (headSpec (Cond.code y_Str_isLatin1 b_Str_isLatin1 1 (some .boolean) :: gtb) { frames := 0, cells := 0, slots := 0, locals := 0 }).room.frames ∧ 0 ≤ (headSpec (Cond.code y_Str_isLatin1 b_Str_isLatin1 1 (some .boolean) :: gtb) { frames := 0, cells := 0, slots := 0, locals := 0 }).room.locals := ⟨Nat.le_refl _, Nat.le_refl _⟩
  have hl := lv_entry ([.ref (Z.2.2.2.2.2.1 a)]) (n := 1) (Nat.le_of_ble_eq_true rfl)
  rw [lg_entry_eq]
  generalize (lg_sl ([.ref (Z.2.2.2.2.2.1 a)]) ++ List.replicate (1 - (lg_sl ([.ref (Z.2.2.2.2.2.1 a)])).length) Slot.unset).toArray = ls at hl ⊢
  have hl : lv_has ls 1 [(0, .ref (Z.2.2.2.2.2.1 a))] := hl
  have hH : HW Z M s s.heap [] := ⟨hP, va_S.rf⟩
  refine va_gets hx hb hX.2.2.2.2.1 hH.2 hown (ht _ w2_138) (fun _ h => h) d_Str_isLatin1_0 ?_
  refine lv_if_eq (tgt := 17) hx hb d_Str_isLatin1_3 (by decide) (fun hc => absurd hc (by decide)) (fun hc => ?_)
  refine lv_aload_n hx hb d_Str_isLatin1_6 rfl (lv_at hl 0 rfl) ?_
  refine vk_getf hx hb (hX.2.2.2.1.1 a hs).2.1 hH.2 hown (ht _ w6_225) (fun _ h => h) d_Str_isLatin1_7 ?_
  refine lv_if_ne (tgt := 17) hx hb d_Str_isLatin1_10 (by decide) (fun hc => absurd rfl hc) (fun hc => ?_)
  refine lv_iconst (v := 1) hx hb d_Str_isLatin1_13 (by decide) ?_
  refine lv_goto (tgt := 18) hx hb d_Str_isLatin1_14 (by decide) ?_
  exact q_rt hx hb B.returns B.notSynchronized hH rfl d_Str_isLatin1_18
theorem cw_Str_335 {R : Room} {s : State} {args : Array Value} (ht : ∀ w ∈ gtb, w.before args s = true) (h1 : 0 + 1 ≤ R.frames) (h2 : 8 + (1 + 11) + 0 ≤ R.locals) : CallW R s args R_Str R_Str 335 y_Str_coder b_Str_coder 1 (some .byte) (.code y_Str_coder b_Str_coder 1 (some .byte) :: gtb) { frames := 0, cells := 0, slots := 0, locals := 0 } 0 0 0 := cwV 0 ht (gV w2_134 w2_135 w2_136 w1_11 w2_137) rfl rfl rfl ⟨rfl, by decide, by decide, by decide +kernel⟩ ⟨h1, h2⟩
set_option maxHeartbeats 4000000 in
theorem c0_Str_length (l : Launch) {Z : WD} (hI : wI Z) (a : Nat) (hs : a < 10) (M : Mem) : Ci l Z y_Str_length b_Str_length 1 (some .int) 1 20 [.ref (Z.2.2.2.2.2.1 a)] M M (f_Str_length a) := by
  refine Met.ofW (cc := b_Str_length) (maxL := 1) (ret := (some .int)) (by decide) rfl ?_
  intro p e s m args below meth c s₁ B hml hv
  obtain ⟨rfl, hP, hX⟩ := hv
  have S : CallFix p m c b_Str_length 1 s ([.ref (Z.2.2.2.2.2.1 a)] : List Value).toArray gtb R_Str := ⟨B.exec, B.bytes, hml, findClass_of_methodNamed B.named, fun w hw => atoms_spec (ws := .code y_Str_length b_Str_length 1 (some .int) :: gtb) B.pre w (List.mem_cons_of_mem _ hw)⟩
  have hx := S.1
  have hb := S.2.1
  have hown := S.2.2.2.1
  have ht := S.2.2.2.2
  have hR : 1 ≤ (headSpec (Cond.code y_Str_length b_Str_length 1 (some .int) :: gtb) { frames := 1, cells := 0, slots := 0, locals := 20 }).room.frames ∧ 20 ≤ (headSpec (Cond.code y_Str_length b_Str_length 1 (some .int) :: gtb) { frames := 1, cells := 0, slots := 0, locals := 20 }).room.locals := ⟨Nat.le_refl _, Nat.le_refl _⟩
  have hl := lv_entry ([.ref (Z.2.2.2.2.2.1 a)]) (n := 1) (Nat.le_of_ble_eq_true rfl)
  rw [lg_entry_eq]
  generalize (lg_sl ([.ref (Z.2.2.2.2.2.1 a)]) ++ List.replicate (1 - (lg_sl ([.ref (Z.2.2.2.2.2.1 a)])).length) Slot.unset).toArray = ls at hl ⊢
  have hl : lv_has ls 1 [(0, .ref (Z.2.2.2.2.2.1 a))] := hl
  have hH : HW Z M s s.heap [] := ⟨hP, va_S.rf⟩
  refine lv_aload_n hx hb d_Str_length_0 rfl (lv_at hl 0 rfl) ?_
  refine vk_getf hx hb (hX.2.2.2.1.1 a hs).2.2.1 hH.2 hown (ht _ w6_224) (fun _ h => h) d_Str_length_1 ?_
  refine va_tlen hx hb (hX.2.2.2.1.1 a hs).2.2.2 hH.2 rfl d_Str_length_4 ?_
  refine lv_aload_n hx hb d_Str_length_5 rfl (lv_at hl 0 rfl) ?_
  refine q_cVi (As := []) (rest := [.int (Int32.ofNat (lenS.getD a 0))]) S hX hH (c0_Str_coder l hI a hs M) (cw_Str_335 S.2.2.2.2 (Nat.le_trans (Nat.le_of_ble_eq_true rfl) hR.1) (Nat.le_trans (Nat.le_of_ble_eq_true rfl) hR.2)) (rc_Str hX hH hs) rfl hl.1 rfl (Nat.le_of_ble_eq_true rfl) d_Str_length_6 ⟨Nat.zero_le _, Nat.zero_le _⟩ (fun H locs hH => ?_)
  refine lv_ishr hx hb d_Str_length_9 ?_
  refine lv_nm (y := f_Str_length a) (sb_shr0 _) ?_
  exact q_ri hx hb B.returns B.notSynchronized hH rfl rfl d_Str_length_10
theorem c_Str_length (l : Launch) {Z : WD} (hI : wI Z) (a : Nat) (M : Mem) (hs : a < 10) {r : Int32} (hf : f_Str_length a = r) : Ci l Z y_Str_length b_Str_length 1 (some .int) 1 20 [.ref (Z.2.2.2.2.2.1 a)] M M r := by
  subst hf
  exact c0_Str_length l hI a hs M
set_option maxHeartbeats 4000000 in
theorem c0_Pre_checkIndex_null (l : Launch) {Z : WD} (hI : wI Z) (x n : Int32) (h0 : ¬ x < 0) (h1 : x < n) (M : Mem) : Ci l Z y_Pre_checkIndex b_Pre_checkIndex 3 (some .int) 0 0 [.int x, .int n, .null] M M (x) := by
  refine Met.ofW (cc := b_Pre_checkIndex) (maxL := 3) (ret := (some .int)) (by decide) rfl ?_
  intro p e s m args below meth c s₁ B hml hv
  obtain ⟨rfl, hP, hX⟩ := hv
  have S : CallFix p m c b_Pre_checkIndex 3 s ([.int x, .int n, .null] : List Value).toArray gtb R_Pre := ⟨B.exec, B.bytes, hml, findClass_of_methodNamed B.named, fun w hw => atoms_spec (ws := .code y_Pre_checkIndex b_Pre_checkIndex 3 (some .int) :: gtb) B.pre w (List.mem_cons_of_mem _ hw)⟩
  have hx := S.1
  have hb := S.2.1
  have hown := S.2.2.2.1
  have ht := S.2.2.2.2
  have hR : 0 ≤ (headSpec (Cond.code y_Pre_checkIndex b_Pre_checkIndex 3 (some .int) :: gtb) { frames := 0, cells := 0, slots := 0, locals := 0 }).room.frames ∧ 0 ≤ (headSpec (Cond.code y_Pre_checkIndex b_Pre_checkIndex 3 (some .int) :: gtb) { frames := 0, cells := 0, slots := 0, locals := 0 }).room.locals := ⟨Nat.le_refl _, Nat.le_refl _⟩
  have hl := lv_entry ([.int x, .int n, .null]) (n := 3) (Nat.le_of_ble_eq_true rfl)
  rw [lg_entry_eq]
  generalize (lg_sl ([.int x, .int n, .null]) ++ List.replicate (3 - (lg_sl ([.int x, .int n, .null])).length) Slot.unset).toArray = ls at hl ⊢
  have hl : lv_has ls 3 [(0, .int x), (1, .int n), (2, .null)] := hl
  have hH : HW Z M s s.heap [] := ⟨hP, va_S.rf⟩
  refine lv_iload_n hx hb d_Pre_checkIndex_0 rfl (lv_at hl 0 rfl) ?_
  refine lv_if_lt (tgt := 9) hx hb d_Pre_checkIndex_1 (by decide) (fun hc => absurd hc h0) (fun hc => ?_)
  refine lv_iload_n hx hb d_Pre_checkIndex_4 rfl (lv_at hl 0 rfl) ?_
  refine lv_iload_n hx hb d_Pre_checkIndex_5 rfl (lv_at hl 1 rfl) ?_
  refine lv_icmp_lt (tgt := 16) hx hb d_Pre_checkIndex_6 (by decide) (fun hc => ?_) (fun hc => absurd h1 hc)
  refine lv_iload_n hx hb d_Pre_checkIndex_16 rfl (lv_at hl 0 rfl) ?_
  exact q_ri hx hb B.returns B.notSynchronized hH rfl rfl d_Pre_checkIndex_17
set_option maxHeartbeats 4000000 in
theorem c0_Pre_checkIndex_ref (l : Launch) {Z : WD} (hI : wI Z) (x n : Int32) (t : Nat) (h0 : ¬ x < 0) (h1 : x < n) (M : Mem) : Ci l Z y_Pre_checkIndex b_Pre_checkIndex 3 (some .int) 0 0 [.int x, .int n, .ref t] M M (x) := by
  refine Met.ofW (cc := b_Pre_checkIndex) (maxL := 3) (ret := (some .int)) (by decide) rfl ?_
  intro p e s m args below meth c s₁ B hml hv
  obtain ⟨rfl, hP, hX⟩ := hv
  have S : CallFix p m c b_Pre_checkIndex 3 s ([.int x, .int n, .ref t] : List Value).toArray gtb R_Pre := ⟨B.exec, B.bytes, hml, findClass_of_methodNamed B.named, fun w hw => atoms_spec (ws := .code y_Pre_checkIndex b_Pre_checkIndex 3 (some .int) :: gtb) B.pre w (List.mem_cons_of_mem _ hw)⟩
  have hx := S.1
  have hb := S.2.1
  have hown := S.2.2.2.1
  have ht := S.2.2.2.2
  have hR : 0 ≤ (headSpec (Cond.code y_Pre_checkIndex b_Pre_checkIndex 3 (some .int) :: gtb) { frames := 0, cells := 0, slots := 0, locals := 0 }).room.frames ∧ 0 ≤ (headSpec (Cond.code y_Pre_checkIndex b_Pre_checkIndex 3 (some .int) :: gtb) { frames := 0, cells := 0, slots := 0, locals := 0 }).room.locals := ⟨Nat.le_refl _, Nat.le_refl _⟩
  have hl := lv_entry ([.int x, .int n, .ref t]) (n := 3) (Nat.le_of_ble_eq_true rfl)
  rw [lg_entry_eq]
  generalize (lg_sl ([.int x, .int n, .ref t]) ++ List.replicate (3 - (lg_sl ([.int x, .int n, .ref t])).length) Slot.unset).toArray = ls at hl ⊢
  have hl : lv_has ls 3 [(0, .int x), (1, .int n), (2, .ref t)] := hl
  have hH : HW Z M s s.heap [] := ⟨hP, va_S.rf⟩
  refine lv_iload_n hx hb d_Pre_checkIndex_0 rfl (lv_at hl 0 rfl) ?_
  refine lv_if_lt (tgt := 9) hx hb d_Pre_checkIndex_1 (by decide) (fun hc => absurd hc h0) (fun hc => ?_)
  refine lv_iload_n hx hb d_Pre_checkIndex_4 rfl (lv_at hl 0 rfl) ?_
  refine lv_iload_n hx hb d_Pre_checkIndex_5 rfl (lv_at hl 1 rfl) ?_
  refine lv_icmp_lt (tgt := 16) hx hb d_Pre_checkIndex_6 (by decide) (fun hc => ?_) (fun hc => absurd h1 hc)
  refine lv_iload_n hx hb d_Pre_checkIndex_16 rfl (lv_at hl 0 rfl) ?_
  exact q_ri hx hb B.returns B.notSynchronized hH rfl rfl d_Pre_checkIndex_17
theorem cw_Str_1059 {R : Room} {s : State} {args : Array Value} (ht : ∀ w ∈ gtb, w.before args s = true) (h1 : 0 + 1 ≤ R.frames) (h2 : 8 + (3 + 11) + 0 ≤ R.locals) : CallB R s args R_Str 1059 y_Pre_checkIndex b_Pre_checkIndex 3 (some .int) (.code y_Pre_checkIndex b_Pre_checkIndex 3 (some .int) :: gtb) { frames := 0, cells := 0, slots := 0, locals := 0 } 0 0 3 ∧ (Cond.static y_Pre_checkIndex).before args s = true := va_cwS 3 ht (gS w2_156 w2_157 w1_13 w2_158) rfl rfl rfl ⟨by decide, by decide, by decide +kernel⟩ ⟨h1, h2⟩
set_option maxHeartbeats 4000000 in
theorem c0_Str_checkIndex (l : Launch) {Z : WD} (hI : wI Z) (x n : Int32) (h0 : ¬ x < 0) (h1 : x < n) (M : Mem) : Cv l Z y_Str_checkIndex b_Str_checkIndex 2 none 1 22 [.int x, .int n] M M := by
  refine Met.ofW (cc := b_Str_checkIndex) (maxL := 2) (ret := none) (by decide) rfl ?_
  intro p e s m args below meth c s₁ B hml hv
  obtain ⟨rfl, hP, hX⟩ := hv
  have S : CallFix p m c b_Str_checkIndex 2 s ([.int x, .int n] : List Value).toArray gtb R_Str := ⟨B.exec, B.bytes, hml, findClass_of_methodNamed B.named, fun w hw => atoms_spec (ws := .code y_Str_checkIndex b_Str_checkIndex 2 none :: gtb) B.pre w (List.mem_cons_of_mem _ hw)⟩
  have hx := S.1
  have hb := S.2.1
  have hown := S.2.2.2.1
  have ht := S.2.2.2.2
  have hR : 1 ≤ (headSpec (Cond.code y_Str_checkIndex b_Str_checkIndex 2 none :: gtb) { frames := 1, cells := 0, slots := 0, locals := 22 }).room.frames ∧ 22 ≤ (headSpec (Cond.code y_Str_checkIndex b_Str_checkIndex 2 none :: gtb) { frames := 1, cells := 0, slots := 0, locals := 22 }).room.locals := ⟨Nat.le_refl _, Nat.le_refl _⟩
  have hl := lv_entry ([.int x, .int n]) (n := 2) (Nat.le_of_ble_eq_true rfl)
  rw [lg_entry_eq]
  generalize (lg_sl ([.int x, .int n]) ++ List.replicate (2 - (lg_sl ([.int x, .int n])).length) Slot.unset).toArray = ls at hl ⊢
  have hl : lv_has ls 2 [(0, .int x), (1, .int n)] := hl
  have hH : HW Z M s s.heap [] := ⟨hP, va_S.rf⟩
  refine lv_iload_n hx hb d_Str_checkIndex_0 rfl (lv_at hl 0 rfl) ?_
  refine lv_iload_n hx hb d_Str_checkIndex_1 rfl (lv_at hl 1 rfl) ?_
  rcases hX.2.2.2.2.2 with hq | ⟨t, hq⟩
  · refine va_gets hx hb hq hH.2 hown (ht _ w2_154) (fun _ h => h) d_Str_checkIndex_2 ?_
    refine q_cSi (As := [.int x, .int n, .null]) (rest := []) S hX hH (c0_Pre_checkIndex_null l hI x n h0 h1 M) (cw_Str_1059 S.2.2.2.2 (Nat.le_trans (Nat.le_of_ble_eq_true rfl) hR.1) (Nat.le_trans (Nat.le_of_ble_eq_true rfl) hR.2)) rfl hl.1 rfl (Nat.le_of_ble_eq_true rfl) d_Str_checkIndex_5 ⟨Nat.zero_le _, Nat.zero_le _⟩ (fun H locs hH => ?_)
    refine lv_pop hx hb d_Str_checkIndex_8 rfl ?_
    exact q_rv hx hb B.returns B.notSynchronized hH rfl d_Str_checkIndex_9
  · refine va_gets hx hb hq hH.2 hown (ht _ w2_154) (fun _ h => h) d_Str_checkIndex_2 ?_
    refine q_cSi (As := [.int x, .int n, .ref t]) (rest := []) S hX hH (c0_Pre_checkIndex_ref l hI x n t h0 h1 M) (cw_Str_1059 S.2.2.2.2 (Nat.le_trans (Nat.le_of_ble_eq_true rfl) hR.1) (Nat.le_trans (Nat.le_of_ble_eq_true rfl) hR.2)) rfl hl.1 rfl (Nat.le_of_ble_eq_true rfl) d_Str_checkIndex_5 ⟨Nat.zero_le _, Nat.zero_le _⟩ (fun H locs hH => ?_)
    refine lv_pop hx hb d_Str_checkIndex_8 rfl ?_
    exact q_rv hx hb B.returns B.notSynchronized hH rfl d_Str_checkIndex_9
theorem cw_SL1_9 {R : Room} {s : State} {args : Array Value} (ht : ∀ w ∈ gtb, w.before args s = true) (h1 : 1 + 1 ≤ R.frames) (h2 : 8 + (2 + 11) + 22 ≤ R.locals) : CallB R s args R_SL1 9 y_Str_checkIndex b_Str_checkIndex 2 none (.code y_Str_checkIndex b_Str_checkIndex 2 none :: gtb) { frames := 1, cells := 0, slots := 0, locals := 22 } 0 0 2 ∧ (Cond.static y_Str_checkIndex).before args s = true := va_cwS 2 ht (gS w2_151 w2_152 w1_11 w2_153) rfl rfl rfl ⟨by decide, by decide, by decide +kernel⟩ ⟨h1, h2⟩
set_option maxHeartbeats 4000000 in
theorem c0_SL1_charAt (l : Launch) {Z : WD} (hI : wI Z) (a : Nat) (x : Int32) (hs : a < 10) (hin : vp_in x (lenS.getD a 0)) (M : Mem) : Ci l Z y_SL1_charAt b_SL1_charAt 2 (some .char) 2 43 [.ref (Z.2.2.2.2.2.2 a), .int x] M M (chS a x.toNatClampNeg) := by
  refine Met.ofW (cc := b_SL1_charAt) (maxL := 2) (ret := (some .char)) (by decide) rfl ?_
  intro p e s m args below meth c s₁ B hml hv
  obtain ⟨rfl, hP, hX⟩ := hv
  have S : CallFix p m c b_SL1_charAt 2 s ([.ref (Z.2.2.2.2.2.2 a), .int x] : List Value).toArray gtb R_SL1 := ⟨B.exec, B.bytes, hml, findClass_of_methodNamed B.named, fun w hw => atoms_spec (ws := .code y_SL1_charAt b_SL1_charAt 2 (some .char) :: gtb) B.pre w (List.mem_cons_of_mem _ hw)⟩
  have hx := S.1
  have hb := S.2.1
  have hown := S.2.2.2.1
  have ht := S.2.2.2.2
  have hR : 2 ≤ (headSpec (Cond.code y_SL1_charAt b_SL1_charAt 2 (some .char) :: gtb) { frames := 2, cells := 0, slots := 0, locals := 43 }).room.frames ∧ 43 ≤ (headSpec (Cond.code y_SL1_charAt b_SL1_charAt 2 (some .char) :: gtb) { frames := 2, cells := 0, slots := 0, locals := 43 }).room.locals := ⟨Nat.le_refl _, Nat.le_refl _⟩
  have hl := lv_entry ([.ref (Z.2.2.2.2.2.2 a), .int x]) (n := 2) (Nat.le_of_ble_eq_true rfl)
  rw [lg_entry_eq]
  generalize (lg_sl ([.ref (Z.2.2.2.2.2.2 a), .int x]) ++ List.replicate (2 - (lg_sl ([.ref (Z.2.2.2.2.2.2 a), .int x])).length) Slot.unset).toArray = ls at hl ⊢
  have hl : lv_has ls 2 [(0, .ref (Z.2.2.2.2.2.2 a)), (1, .int x)] := hl
  have hH : HW Z M s s.heap [] := ⟨hP, va_S.rf⟩
  have hlt : x.toNatClampNeg < lenS.getD a 0 := Nat.lt_of_not_le (fun h => hin (Or.inr h))
  have h100 := (strs_ok a hs).1
  have h0 : ¬ x < 0 := fun h => hin (Or.inl h)
  have h1 : x < Int32.ofNat (lenS.getD a 0) := by
    obtain ⟨j, hj, e⟩ := vp_in_of hin (by omega)
    rw [e]
    exact nI_lt hj (by omega)
  refine lv_iload_n hx hb d_SL1_charAt_0 rfl (lv_at hl 1 rfl) ?_
  refine lv_aload_n hx hb d_SL1_charAt_1 rfl (lv_at hl 0 rfl) ?_
  refine va_tlen hx hb (hX.2.2.2.1.1 a hs).2.2.2 hH.2 rfl d_SL1_charAt_2 ?_
  refine q_cSv (As := [.int x, .int (Int32.ofNat (lenS.getD a 0))]) (rest := []) S hX hH (c0_Str_checkIndex l hI x _ h0 h1 M) (cw_SL1_9 S.2.2.2.2 (Nat.le_trans (Nat.le_of_ble_eq_true rfl) hR.1) (Nat.le_trans (Nat.le_of_ble_eq_true rfl) hR.2)) rfl hl.1 rfl (Nat.le_of_ble_eq_true rfl) d_SL1_charAt_3 ⟨Nat.zero_le _, Nat.zero_le _⟩ (fun H locs hH => ?_)
  refine lv_aload_n hx hb d_SL1_charAt_6 rfl (lv_at hl 0 rfl) ?_
  refine lv_iload_n hx hb d_SL1_charAt_7 rfl (lv_at hl 1 rfl) ?_
  refine va_tb hx hb (hX.2.2.2.1.1 a hs).2.2.2 hH.2 hin (v := .int (chS a x.toNatClampNeg)) rfl d_SL1_charAt_8 ?_
  refine lv_sipush (v := 255) hx hb d_SL1_charAt_9 (by decide) ?_
  refine lv_iand hx hb d_SL1_charAt_12 ?_
  refine lv_i2c hx hb d_SL1_charAt_13 rfl ?_
  have e2 : chS a x.toNatClampNeg &&& 255 = chS a x.toNatClampNeg := (strs_ok a hs).2 _ (by omega)
  refine lv_nm (y := chS a x.toNatClampNeg) ((sc_c2 _).trans e2) ?_
  exact q_rt hx hb B.returns B.notSynchronized hH (by rw [← e2]; exact sc_nar _) d_SL1_charAt_14
theorem cw_Str_492 {R : Room} {s : State} {args : Array Value} (ht : ∀ w ∈ gtb, w.before args s = true) (h1 : 0 + 1 ≤ R.frames) (h2 : 8 + (1 + 11) + 0 ≤ R.locals) : CallW R s args R_Str R_Str 492 y_Str_isLatin1 b_Str_isLatin1 1 (some .boolean) (.code y_Str_isLatin1 b_Str_isLatin1 1 (some .boolean) :: gtb) { frames := 0, cells := 0, slots := 0, locals := 0 } 0 0 0 := cwV 0 ht (gV w2_144 w2_145 w2_146 w1_11 w2_147) rfl rfl rfl ⟨rfl, by decide, by decide, by decide +kernel⟩ ⟨h1, h2⟩
theorem cw_Str_495 {R : Room} {s : State} {args : Array Value} (ht : ∀ w ∈ gtb, w.before args s = true) (h1 : 2 + 1 ≤ R.frames) (h2 : 8 + (2 + 11) + 43 ≤ R.locals) : CallB R s args R_Str 495 y_SL1_charAt b_SL1_charAt 2 (some .char) (.code y_SL1_charAt b_SL1_charAt 2 (some .char) :: gtb) { frames := 2, cells := 0, slots := 0, locals := 43 } 0 0 2 ∧ (Cond.static y_SL1_charAt).before args s = true := va_cwS 2 ht (gS w2_148 w2_149 w1_12 w2_150) rfl rfl rfl ⟨by decide, by decide, by decide +kernel⟩ ⟨h1, h2⟩
set_option maxHeartbeats 4000000 in
theorem c0_Str_charAt (l : Launch) {Z : WD} (hI : wI Z) (a : Nat) (x : Int32) (hs : a < 10) (hin : vp_in x (lenS.getD a 0)) (M : Mem) : Ci l Z y_Str_charAt b_Str_charAt 2 (some .char) 3 64 [.ref (Z.2.2.2.2.2.1 a), .int x] M M (chS a x.toNatClampNeg) := by
  refine Met.ofW (cc := b_Str_charAt) (maxL := 2) (ret := (some .char)) (by decide) rfl ?_
  intro p e s m args below meth c s₁ B hml hv
  obtain ⟨rfl, hP, hX⟩ := hv
  have S : CallFix p m c b_Str_charAt 2 s ([.ref (Z.2.2.2.2.2.1 a), .int x] : List Value).toArray gtb R_Str := ⟨B.exec, B.bytes, hml, findClass_of_methodNamed B.named, fun w hw => atoms_spec (ws := .code y_Str_charAt b_Str_charAt 2 (some .char) :: gtb) B.pre w (List.mem_cons_of_mem _ hw)⟩
  have hx := S.1
  have hb := S.2.1
  have hown := S.2.2.2.1
  have ht := S.2.2.2.2
  have hR : 3 ≤ (headSpec (Cond.code y_Str_charAt b_Str_charAt 2 (some .char) :: gtb) { frames := 3, cells := 0, slots := 0, locals := 64 }).room.frames ∧ 64 ≤ (headSpec (Cond.code y_Str_charAt b_Str_charAt 2 (some .char) :: gtb) { frames := 3, cells := 0, slots := 0, locals := 64 }).room.locals := ⟨Nat.le_refl _, Nat.le_refl _⟩
  have hl := lv_entry ([.ref (Z.2.2.2.2.2.1 a), .int x]) (n := 2) (Nat.le_of_ble_eq_true rfl)
  rw [lg_entry_eq]
  generalize (lg_sl ([.ref (Z.2.2.2.2.2.1 a), .int x]) ++ List.replicate (2 - (lg_sl ([.ref (Z.2.2.2.2.2.1 a), .int x])).length) Slot.unset).toArray = ls at hl ⊢
  have hl : lv_has ls 2 [(0, .ref (Z.2.2.2.2.2.1 a)), (1, .int x)] := hl
  have hH : HW Z M s s.heap [] := ⟨hP, va_S.rf⟩
  refine lv_aload_n hx hb d_Str_charAt_0 rfl (lv_at hl 0 rfl) ?_
  refine q_cVi (As := []) (rest := []) S hX hH (c0_Str_isLatin1 l hI a hs M) (cw_Str_492 S.2.2.2.2 (Nat.le_trans (Nat.le_of_ble_eq_true rfl) hR.1) (Nat.le_trans (Nat.le_of_ble_eq_true rfl) hR.2)) (rc_Str hX hH hs) rfl hl.1 rfl (Nat.le_of_ble_eq_true rfl) d_Str_charAt_1 ⟨Nat.zero_le _, Nat.zero_le _⟩ (fun H locs hH => ?_)
  refine lv_if_eq (tgt := 16) hx hb d_Str_charAt_4 (by decide) (fun hc => absurd hc (by decide)) (fun hc => ?_)
  refine lv_aload_n hx hb d_Str_charAt_7 rfl (lv_at hl 0 rfl) ?_
  refine vk_getf hx hb (hX.2.2.2.1.1 a hs).2.2.1 hH.2 hown (ht _ w6_224) (fun _ h => h) d_Str_charAt_8 ?_
  refine lv_iload_n hx hb d_Str_charAt_11 rfl (lv_at hl 1 rfl) ?_
  refine q_cSi (As := [.ref (Z.2.2.2.2.2.2 a), .int x]) (rest := []) S hX hH (c0_SL1_charAt l hI a x hs hin M) (cw_Str_495 S.2.2.2.2 (Nat.le_trans (Nat.le_of_ble_eq_true rfl) hR.1) (Nat.le_trans (Nat.le_of_ble_eq_true rfl) hR.2)) rfl hl.1 rfl (Nat.le_of_ble_eq_true rfl) d_Str_charAt_12 ⟨Nat.zero_le _, Nat.zero_le _⟩ (fun H locs hH => ?_)
  have hlt : x.toNatClampNeg < lenS.getD a 0 := Nat.lt_of_not_le (fun h => hin (Or.inr h))
  have h100 := (strs_ok a hs).1
  have e2 : chS a x.toNatClampNeg &&& 255 = chS a x.toNatClampNeg := (strs_ok a hs).2 _ (by omega)
  exact q_rt hx hb B.returns B.notSynchronized hH (by rw [← e2]; exact sc_nar _) d_Str_charAt_15
theorem c_Str_charAt (l : Launch) {Z : WD} (hI : wI Z) (a : Nat) (M : Mem) (x : Int32) (hs : a < 10) {r : Int32} (hf : f_Str_charAt a x = some r) : Ci l Z y_Str_charAt b_Str_charAt 2 (some .char) 3 64 [.ref (Z.2.2.2.2.2.1 a), .int x] M M r := by
  unfold f_Str_charAt at hf
  obtain ⟨hin, hf⟩ := o_in hf
  obtain rfl := o_v hf
  exact c0_Str_charAt l hI a x hs hin M
