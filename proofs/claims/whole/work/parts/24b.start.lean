/-! THE LAW, from its entry -/
theorem P_left {D : va_G} {cl : List vw_C} {w1 w2 : va_W} {H : Heap} (h : va_P D cl (w1 ++ w2) H) : va_P D cl w1 H := fun k q hk => h k q (by rw [List.getElem?_append_left (List.getElem?_eq_some_iff.mp hk).1]; exact hk)
theorem P_right {D : va_G} {cl : List vw_C} {w1 w2 : va_W} {H : Heap} (h : va_P D cl (w1 ++ w2) H) : va_P D cl w2 H := fun k q hk => h (w1.length + k) q (by rw [List.getElem?_append_right (by omega), Nat.add_sub_cancel_left]; exact hk)
theorem D_left {A : Nat → Prop} {w1 w2 : va_W} (h : va_D A (w1 ++ w2)) : va_D A w1 := by
  have key : ∀ (k : Nat) (q : Nat × va_E), w1[k]? = some q → (w1 ++ w2)[k]? = some q := fun k q hk => by
    rw [List.getElem?_append_left (List.getElem?_eq_some_iff.mp hk).1]
    exact hk
  exact ⟨fun i j u v hu hv e => h.1 i j u v (key i u hu) (key j v hv) e, fun k q hk => h.2 k q (key k q hk)⟩
theorem D_right {A : Nat → Prop} {w1 w2 : va_W} (h : va_D A (w1 ++ w2)) : va_D A w2 := by
  have key : ∀ (k : Nat) (q : Nat × va_E), w2[k]? = some q → (w1 ++ w2)[w1.length + k]? = some q := fun k q hk => by
    rw [List.getElem?_append_right (by omega), Nat.add_sub_cancel_left]
    exact hk
  refine ⟨fun i j u v hu hv e => ?_, fun k q hk => h.2 _ q (key k q hk)⟩
  have := h.1 _ _ u v (key i u hu) (key j v hv) e
  omega
theorem D_apart {A : Nat → Prop} {w1 w2 : va_W} (h : va_D A (w1 ++ w2)) {i j : Nat} {u v : Nat × va_E} (hu : w1[i]? = some u) (hv : w2[j]? = some v) : u.1 ≠ v.1 := by
  intro e
  have hi : i < w1.length := (List.getElem?_eq_some_iff.mp hu).1
  have h1 : (w1 ++ w2)[i]? = some u := by
    rw [List.getElem?_append_left hi]
    exact hu
  have h2 : (w1 ++ w2)[w1.length + j]? = some v := by
    rw [List.getElem?_append_right (by omega), Nat.add_sub_cancel_left]
    exact hv
  have := h.1 _ _ u v h1 h2 e
  omega
def admW (q1 : Nat) (a : Nat → Nat) : Nat → Nat := fun k => if k = 0 then q1 else a k
def mM (g : Nat → Int32) : Mem := fun k => if k = 0 then (fun j => if j = 28 then -1 else 0) else if k = 1 then g else z0
abbrev zM (dC : Nat → ClassId) (dI : Nat → Nat → Nat) (adK adV : Nat → Nat) (ad : Nat → Nat) (ca : Nat → ClassId) : WD := (21, mCg ad ca, ad, (dC, dI), [(ca 0, .int), (ca 1, .boolean), (ca 2, .byte)], adK, adV)
theorem mm_eq (dC : Nat → ClassId) (dI : Nat → Nat → Nat) (adK adV : Nat → Nat) (q1 : Nat) (a : Nat → Nat) (cI cZ cB : ClassId) (g : Nat → Int32) : mmW a cI cZ cB q1 g = wW (zM dC dI adK adV (admW q1 a) (caW cI cZ cB)) (mM g) := rfl
theorem start_rel {g : Nat → Int32} (hg : ∀ j, j < 302 → g j = nI (R0 j)) {Mc : Mem} (hM : f_MC_replay iM = some Mc) : Rel Mc (mM g) := by
  obtain ⟨Mc', h1, h2, -⟩ := Rel.fin (R := setR R0 0 0) (Mc := iM) (Mm := mM g) (R0_PV (n := 0) (Or.inl rfl)) (iM_PC 0 (by decide)) (R0_PM (hg 0 (by decide)) (fun j _ h => hg j (by omega))) rfl ⟨0, fun i => 2 + i, fun _ => R0, by decide, rfl, rfl, fun i hi => ⟨by show 2 ≤ 2 + i; omega, by show 2 + i ≤ 11; omega, rfl⟩, fun i j h1 h2 h3 => by have h4 : 2 + i = 2 + j := h3; omega, fun i hi => absurd hi (Nat.not_lt_zero i)⟩ ⟨0, fun _ => R0, by decide, rfl, fun s hs => ⟨rfl, by rw [Nat.zero_testBit]; rfl, fun h => by rw [Nat.zero_testBit] at h; cases h⟩⟩ ⟨0, fun _ => 0, by decide, rfl, rfl, fun i hi => absurd hi (Nat.not_lt_zero i)⟩
  rw [hM] at h1
  cases h1
  exact h2
theorem mc_fs : ∀ j, j < 8 → defaultValue (ty_MC j) = vp_V mc0 j := fun j hj => by
  rcases (show j = 0 ∨ j = 1 ∨ j = 2 ∨ j = 3 ∨ j = 4 ∨ j = 5 ∨ j = 6 ∨ j = 7 by omega) with rfl | rfl | rfl | rfl | rfl | rfl | rfl | rfl <;> rfl
theorem mm_fs : ∀ j, j < 32 → defaultValue (ty_MM j) = vp_V mm0 j := fun j hj => by
  rcases (show j = 0 ∨ j = 1 ∨ j = 2 ∨ j = 3 ∨ j = 4 ∨ j = 5 ∨ j = 6 ∨ j = 7 ∨ j = 8 ∨ j = 9 ∨ j = 10 ∨ j = 11 ∨ j = 12 ∨ j = 13 ∨ j = 14 ∨ j = 15 ∨ j = 16 ∨ j = 17 ∨ j = 18 ∨ j = 19 ∨ j = 20 ∨ j = 21 ∨ j = 22 ∨ j = 23 ∨ j = 24 ∨ j = 25 ∨ j = 26 ∨ j = 27 ∨ j = 28 ∨ j = 29 ∨ j = 30 ∨ j = 31 by omega) with rfl | rfl | rfl | rfl | rfl | rfl | rfl | rfl | rfl | rfl | rfl | rfl | rfl | rfl | rfl | rfl | rfl | rfl | rfl | rfl | rfl | rfl | rfl | rfl | rfl | rfl | rfl | rfl | rfl | rfl | rfl | rfl <;> rfl
set_option maxHeartbeats 4000000 in
set_option maxRecDepth 100000 in
theorem whole_start {p : Program} {e : Env} {s : State} {m : MethodId} {below : List Frame} {meth : Method} {c : Code} (l : Launch) (hflags : l.flags = flags0) {b L : Nat} {xs : Nat → Int32} (hL : L ≤ 3072) (C0 : lw_At p s m meth c b L xs) : W p l e room_1 s m #[Value.ref b] below meth c s.heap [] 0 0 (lw_Z below #[Value.ref b] s) (entryFrame m ([Value.ref b] : List Value).toArray 4) := by
  obtain ⟨adK, adV, hO, hNw, hSr, hvS, hvZ, hvQ⟩ := law_facts C0
  obtain ⟨hx, hb, hr, hml, hown, htsL, hX, hbl, hlocks, hgv⟩ := id C0
  have hts : ∀ w ∈ gtb, w.before #[Value.ref b] s = true := fun w hw => htsL w (gt_sub w hw)
  have S : CallFix p m c code 4 s #[Value.ref b] gtb R_law := ⟨hx, hb, hml, hown, hts⟩
  have hA : ∀ q : Nat, s.heap.size ≤ q → (fun q : Nat => s.heap.size ≤ q) q := fun _ h => h
  obtain ⟨c0, iS0, hKn0⟩ := u_known (C := R_Play) (T := T_Play) (N := 12) (n := 12) hts i_Play (hts _ w1_25)
  obtain ⟨c1, iS1, hKn1⟩ := u_known (C := R_Run) (T := T_Run) (N := 16) (n := 16) hts i_Run (hts _ w1_133)
  obtain ⟨c2, iS2, hKn2⟩ := u_known (C := R_Tape) (T := T_Tape) (N := 6) (n := 6) hts i_Tape (hts _ w1_102)
  obtain ⟨c3, iS3, hKn3⟩ := u_known (C := R_MC) (T := T_MC) (N := 8) (n := 8) hts i_MC (hts _ w1_17)
  obtain ⟨c4, iS4, hKn4⟩ := u_known (C := R_MM) (T := T_MM) (N := 32) (n := 32) hts i_MM (hts _ w4_185)
  obtain ⟨dC, dI, hKc⟩ : ∃ (dC : Nat → ClassId) (dI : Nat → Nat → Nat), ∀ (k : Nat) (q : vw_C), classes[k]? = some q → u_Kn s q.1 q.2.1 q.2.2 (dC k) (dI k) := by
    refine ⟨fun k => if k = 0 then c0 else if k = 1 then c1 else if k = 2 then c2 else if k = 3 then c3 else c4, fun k => if k = 0 then iS0 else if k = 1 then iS1 else if k = 2 then iS2 else if k = 3 then iS3 else iS4, ?_⟩
    intro k q hq
    match k, hq with
    | 0, hq => cases hq; exact hKn0
    | 1, hq => cases hq; exact hKn1
    | 2, hq => cases hq; exact hKn2
    | 3, hq => cases hq; exact hKn3
    | 4, hq => cases hq; exact hKn4
    | k + 5, hq => simp [classes] at hq
  have hS : va_S (fun q : Nat => s.heap.size ≤ q) s.heap s.heap [] := va_S.rf
  have hK : va_K (dC, dI) classes [] s := ⟨hKc, fun k q h => by simp at h⟩
  have hP : va_P (dC, dI) classes [] s.heap := fun k q h => by simp at h
  have hD : va_D (fun q : Nat => s.heap.size ≤ q) [] := ⟨fun i j p q h => by simp at h, fun k q h => by simp at h⟩
  have hl := lv_entry ([.ref b]) (n := 4) (Nat.le_of_ble_eq_true rfl)
  rw [lg_entry_eq]
  generalize (lg_sl ([.ref b]) ++ List.replicate (4 - (lg_sl ([.ref b])).length) Slot.unset).toArray = ls at hl ⊢
  have hl : lv_has ls 4 [(0, .ref b)] := hl
  refine va_new (ci := 3) (fs := mc0) (C := R_MC) (T := T_MC) (N := 8) hx hb hts i_MC ty_MC t_MC_ok hown (hts _ w1_16) (hts _ w1_17) (hts _ w1_1) hK hP hD hS hA rfl mc_fs (Nat.le_of_ble_eq_true rfl) (Nat.le_of_ble_eq_true rfl) d_law_0 (fun q0 H hP hD hS => ?_)
  refine lv_dup hx hb d_law_3 rfl ?_
  have hPc := P_end hP
  have hFc := free_end hD hS hA
  have hk0 : ∀ q : Nat, q < s.heap.size → ¬ (fun q : Nat => s.heap.size ≤ q) q → H[q]? = s.heap[q]? := hS.2.1
  refine va_callv (va_runI (As := []) (rest := [.ref q0]) S (c_MC_init l dC dI adK adV q0 H.size) (cwI 0 hts (gN w1_20) rfl rfl rfl (hts _ w1_1) (hts _ w1_18) (hts _ w1_19) rfl (by decide +kernel) ⟨(Nat.le_of_ble_eq_true rfl), (Nat.le_of_ble_eq_true rfl)⟩) ⟨mcPre.blind dC dI adK adV q0 H.size _, fun U hU hW => ⟨rfl, by rw [hU], by rw [hU]; exact hPc, va_K.moved hW.alike hK, D_one _, va_AO.moved hW.alike hO, fun q hq => va_Nw.warmM hW (hNw q hq), fun q hq => vk_R.warm hW (hSr q hq), by rw [hU]; exact ((hvS.kept hk0).narrow hFc).moved hW.alike, by rw [hU]; exact ((hvZ.kept hk0).narrow hFc).moved hW.alike, by rw [hU]; exact ((hvQ.kept hk0).narrow hFc).moved hW.alike⟩⟩ rfl rfl hl.1 rfl (lv_room (Nat.le_of_ble_eq_true rfl)) d_law_4 ⟨(Nat.le_of_ble_eq_true rfl), (Nat.le_of_ble_eq_true rfl)⟩) hS (fun q _ h => hFc q h) hFc (fun u t H1 locs ht hvm hw hB hz1 hk1 hS => ?_)
  obtain ⟨ad, ca, Mc⟩ := u
  obtain ⟨hw1, hw2⟩ := hw
  obtain ⟨hP1, hK1, hD1⟩ := hB
  rw [ht] at hP1
  have hKc2 := va_K.moved hvm.symm hK1
  have hD : va_D (fun q : Nat => s.heap.size ≤ q) (wW (zC dC dI adK adV ad ca) Mc) := hD1.weaken (fun _ q _ h => hFc q.1 h)
  have hP : va_P (dC, dI) classes (wW (zC dC dI adK adV ad ca) Mc) H1 := hP1
  clear hP1 hD1 hk0 hFc hPc hk1 hz1
  generalize H1 = H at hP hS ⊢
  refine lv_astore_n (lv' := [(1, .ref q0), (0, .ref b)]) hx hb d_law_7 rfl hl (by decide) rfl (fun ls hl => ?_)
  refine va_new (ci := 4) (fs := mm0) (C := R_MM) (T := T_MM) (N := 32) hx hb hts i_MM ty_MM t_MM_ok hown (hts _ w4_184) (hts _ w4_185) (hts _ w1_10) hK hP hD hS hA rfl mm_fs (Nat.le_of_ble_eq_true rfl) (Nat.le_of_ble_eq_true rfl) d_law_8 (fun q1 H hP hD hS => ?_)
  refine lv_dup hx hb d_law_11 rfl ?_
  have hPc := P_end hP
  have hFc := free_end hD hS hA
  refine va_callv (va_runI (As := []) (rest := [.ref q1]) S (c_MM_init l dC dI q1 H.size) (cwI 0 hts (gN w4_188) rfl rfl rfl (hts _ w1_10) (hts _ w4_186) (hts _ w4_187) rfl (by decide +kernel) ⟨(Nat.le_of_ble_eq_true rfl), (Nat.le_of_ble_eq_true rfl)⟩) ⟨fun a U g mk q => by obtain ⟨q0, q1, qP, qK, qD⟩ := q; exact ⟨q0, q1, qP, va_K.moved (u := U) (U := U.calling g mk a) (Vm.Alike.refl U.vm) qK, qD⟩, fun U hU hW => ⟨rfl, by rw [hU], by rw [hU]; exact hPc, va_K.moved hW.alike hK, D_one _⟩⟩ rfl rfl hl.1 rfl (lv_room (Nat.le_of_ble_eq_true rfl)) d_law_12 ⟨(Nat.le_of_ble_eq_true rfl), (Nat.le_of_ble_eq_true rfl)⟩) hS (fun q _ h => hFc q h) hFc (fun u t H1 locs ht hvm hw hB hz1 hk1 hS => ?_)
  obtain ⟨a, cI, cZ, cB, g⟩ := u
  obtain ⟨hP1, hK1, hD1⟩ := hB
  rw [ht] at hP1
  obtain ⟨hP, hD⟩ := join_end hP hD hk1 hFc hP1 hD1
  have hKm : va_K (dC, dI) classes [(caW cI cZ cB 0, .int), (caW cI cZ cB 1, .boolean), (caW cI cZ cB 2, .byte)] s := va_K.moved hvm.symm hK1
  rw [mm_eq dC dI adK adV] at hP hD
  clear hP1 hD1 hFc hPc hk1 hz1
  generalize H1 = H at hP hS ⊢
  refine lv_astore_n (lv' := [(2, .ref q1), (1, .ref q0), (0, .ref b)]) hx hb d_law_15 rfl hl (by decide) rfl (fun ls hl => ?_)
  refine lv_iconst (v := (0 : Int32)) hx hb d_law_16 (by decide) ?_
  refine lv_istore_n (lv' := [(3, .int (nI 0)), (2, .ref q1), (1, .ref q0), (0, .ref b)]) hx hb d_law_17 rfl hl (by decide) rfl (fun ls hl => ?_)
  have hIc : wI (zC dC dI adK adV ad ca) := fun i j hi hj he => (D_left hD).1 i j _ _ (wW_get _ _ hi) (wW_get _ _ hj) he
  have hIm : wI (zM dC dI adK adV (admW q1 a) (caW cI cZ cB)) := fun i j hi hj he => (D_right hD).1 i j _ _ (wW_get _ _ hi) (wW_get _ _ hj) he
  have hFrc : ∀ k, k < (zC dC dI adK adV ad ca).1 → s.heap.size ≤ (zC dC dI adK adV ad ca).2.2.1 k := fun k hk => (D_left hD).2 k _ (wW_get _ _ hk)
  have hFrm : ∀ k, k < (zM dC dI adK adV (admW q1 a) (caW cI cZ cB)).1 → s.heap.size ≤ (zM dC dI adK adV (admW q1 a) (caW cI cZ cB)).2.2.1 k := fun k hk => (D_right hD).2 k _ (wW_get _ _ hk)
  have hAc : ∀ q, wA (zC dC dI adK adV ad ca) q → s.heap.size ≤ q := fun q hq => by
    obtain ⟨k, hk, rfl⟩ := hq
    exact hFrc k hk
  have hAm : ∀ q, wA (zM dC dI adK adV (admW q1 a) (caW cI cZ cB)) q → s.heap.size ≤ q := fun q hq => by
    obtain ⟨k, hk, rfl⟩ := hq
    exact hFrm k hk
  have hZ : LZ (zC dC dI adK adV ad ca) (zM dC dI adK adV (admW q1 a) (caW cI cZ cB)) s := ⟨hIc, ⟨ca, rfl, fun _ _ => rfl, rfl⟩, hIm, ⟨caW cI cZ cB, rfl, fun _ _ => rfl, rfl⟩, ⟨hKc2, hNw, hSr, hvS.narrow hAc, hvZ.narrow hAc, hvQ.narrow hAc⟩, ⟨hKm, hNw, hSr, hvS.narrow hAm, hvZ.narrow hAm, hvQ.narrow hAm⟩, hFrc, hFrm, fun i j hi hj => D_apart hD (wW_get _ _ hi) (wW_get _ _ hj)⟩
  refine W.widen (k := 600000) (n := 7302250) (Nat.le_of_ble_eq_true rfl) (Nat.le_of_ble_eq_true rfl) ?_
  refine law_loop l hL C0 hZ (L + 1) 0 (Nat.zero_le L) (by omega) Mc (mM g) H locs ls (start_rel hw hw2) ⟨P_left hP, P_right hP, hS⟩ ?_
  show lv_has ls 4 [(0, .ref b), (1, .ref (ad 138)), (2, .ref q1), (3, .int (nI 0))]
  rw [show ad 138 = q0 from hw1]
  exact lv_sub hl [3, 2, 1, 0] rfl
