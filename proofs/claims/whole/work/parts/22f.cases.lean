/-! the law: each of its cases -/
theorem lg_self (r : Int64) : lg_cmp r r = 0 := by
  unfold lg_cmp
  simp
set_option maxHeartbeats 4000000 in
theorem law_case_0 {p : Program} {e : Env} {s : State} {m : MethodId} {below : List Frame} {meth : Method} {c : Code} (l : Launch) {b L : Nat} {xs : Nat → Int32} {Q : State → Prop} (C0 : lw_At p s m meth c b L xs) {Zc Zm : WD} (hZ : LZ Zc Zm s) {Mc Mm : Mem} (hR : Rel Mc Mm) {H : Heap} {locs : List Loc} (hL : LW Zc Zm Mc Mm s H locs) {i : Int32} (hin : ∀ k, k < 6 → vp_in (i + nI k) L) {ls : Array Slot} (hl : lv_has ls 4 [(0, .ref b), (1, .ref (Zc.2.2.1 138)), (2, .ref (Zm.2.2.1 0)), (3, .int i)])
    (K : ∀ (Mc' Mm' : Mem) (H1 : Heap) (locs1 : List Loc), Rel Mc' Mm' → LW Zc Zm Mc' Mm' s H1 locs1 → W p l e room_1 s m #[Value.ref b] below meth c H1 locs1 600000 7302250 Q (F0 m 1426 ls [])) : W p l e room_1 s m #[Value.ref b] below meth c H locs 600000 7302250 Q (F0 m 212 ls []) := by
  obtain ⟨hx, hb, hr, hml, hown, hts, hX, hbl, hlocks, hgv⟩ := id C0
  have hbA : ¬ (fun q : Nat => s.heap.size ≤ q) b := Nat.not_le.mpr hbl
  have S : CallFix p m c code 4 s #[Value.ref b] gtb R_law := ⟨hx, hb, hml, hown, fun w hw => hts w (gt_sub w hw)⟩
  obtain ⟨hIc, hZc, hIm, hZm, -⟩ := id hZ
  obtain ⟨r, Mc', Mm', kc, km, hR'⟩ := k_feed l hIc hZc hIm hZm hR (xs (i + (1 : Int32)).toNatClampNeg) (xs (i + (2 : Int32)).toNatClampNeg) (xs (i + (3 : Int32)).toNatClampNeg) (xs (i + (4 : Int32)).toNatClampNeg) (xs (i + (5 : Int32)).toNatClampNeg)
  refine lv_aload_n hx hb d_law_212 rfl (lv_at hl 1 rfl) ?_
  refine lv_aload_n hx hb d_law_213 rfl (lv_at hl 0 rfl) ?_
  refine lv_iload_n hx hb d_law_214 rfl (lv_at hl 3 rfl) ?_
  refine lv_iconst (v := (1 : Int32)) hx hb d_law_215 (by decide) ?_
  refine lv_iadd hx hb d_law_216 ?_
  refine va_sld hx hb hX hbl hbA hL.2.2 (hin 1 (by decide)) d_law_217 ?_
  refine lv_aload_n hx hb d_law_218 rfl (lv_at hl 0 rfl) ?_
  refine lv_iload_n hx hb d_law_219 rfl (lv_at hl 3 rfl) ?_
  refine lv_iconst (v := (2 : Int32)) hx hb d_law_220 (by decide) ?_
  refine lv_iadd hx hb d_law_221 ?_
  refine va_sld hx hb hX hbl hbA hL.2.2 (hin 2 (by decide)) d_law_222 ?_
  refine lv_aload_n hx hb d_law_223 rfl (lv_at hl 0 rfl) ?_
  refine lv_iload_n hx hb d_law_224 rfl (lv_at hl 3 rfl) ?_
  refine lv_iconst (v := (3 : Int32)) hx hb d_law_225 (by decide) ?_
  refine lv_iadd hx hb d_law_226 ?_
  refine va_sld hx hb hX hbl hbA hL.2.2 (hin 3 (by decide)) d_law_227 ?_
  refine lv_aload_n hx hb d_law_228 rfl (lv_at hl 0 rfl) ?_
  refine lv_iload_n hx hb d_law_229 rfl (lv_at hl 3 rfl) ?_
  refine lv_iconst (v := (4 : Int32)) hx hb d_law_230 (by decide) ?_
  refine lv_iadd hx hb d_law_231 ?_
  refine va_sld hx hb hX hbl hbA hL.2.2 (hin 4 (by decide)) d_law_232 ?_
  refine lv_aload_n hx hb d_law_233 rfl (lv_at hl 0 rfl) ?_
  refine lv_iload_n hx hb d_law_234 rfl (lv_at hl 3 rfl) ?_
  refine lv_iconst (v := (5 : Int32)) hx hb d_law_235 (by decide) ?_
  refine lv_iadd hx hb d_law_236 ?_
  refine va_sld hx hb hX hbl hbA hL.2.2 (hin 5 (by decide)) d_law_237 ?_
  refine law_cC (As := [.int (xs (i + (1 : Int32)).toNatClampNeg), .int (xs (i + (2 : Int32)).toNatClampNeg), .int (xs (i + (3 : Int32)).toNatClampNeg), .int (xs (i + (4 : Int32)).toNatClampNeg), .int (xs (i + (5 : Int32)).toNatClampNeg)]) (rest := []) S hZ hL kc (cw_Law_13 S.2.2.2.2 (Nat.le_of_ble_eq_true rfl) (Nat.le_of_ble_eq_true rfl)) rfl hl.1 rfl (Nat.le_of_ble_eq_true rfl) d_law_238 ⟨Nat.le_of_ble_eq_true rfl, Nat.le_of_ble_eq_true rfl⟩ (fun H locs hL => ?_)
  refine lv_aload_n hx hb d_law_241 rfl (lv_at hl 2 rfl) ?_
  refine lv_aload_n hx hb d_law_242 rfl (lv_at hl 0 rfl) ?_
  refine lv_iload_n hx hb d_law_243 rfl (lv_at hl 3 rfl) ?_
  refine lv_iconst (v := (1 : Int32)) hx hb d_law_244 (by decide) ?_
  refine lv_iadd hx hb d_law_245 ?_
  refine va_sld hx hb hX hbl hbA hL.2.2 (hin 1 (by decide)) d_law_246 ?_
  refine lv_aload_n hx hb d_law_247 rfl (lv_at hl 0 rfl) ?_
  refine lv_iload_n hx hb d_law_248 rfl (lv_at hl 3 rfl) ?_
  refine lv_iconst (v := (2 : Int32)) hx hb d_law_249 (by decide) ?_
  refine lv_iadd hx hb d_law_250 ?_
  refine va_sld hx hb hX hbl hbA hL.2.2 (hin 2 (by decide)) d_law_251 ?_
  refine lv_aload_n hx hb d_law_252 rfl (lv_at hl 0 rfl) ?_
  refine lv_iload_n hx hb d_law_253 rfl (lv_at hl 3 rfl) ?_
  refine lv_iconst (v := (3 : Int32)) hx hb d_law_254 (by decide) ?_
  refine lv_iadd hx hb d_law_255 ?_
  refine va_sld hx hb hX hbl hbA hL.2.2 (hin 3 (by decide)) d_law_256 ?_
  refine lv_aload_n hx hb d_law_257 rfl (lv_at hl 0 rfl) ?_
  refine lv_iload_n hx hb d_law_258 rfl (lv_at hl 3 rfl) ?_
  refine lv_iconst (v := (4 : Int32)) hx hb d_law_259 (by decide) ?_
  refine lv_iadd hx hb d_law_260 ?_
  refine va_sld hx hb hX hbl hbA hL.2.2 (hin 4 (by decide)) d_law_261 ?_
  refine lv_aload_n hx hb d_law_262 rfl (lv_at hl 0 rfl) ?_
  refine lv_iload_n hx hb d_law_263 rfl (lv_at hl 3 rfl) ?_
  refine lv_iconst (v := (5 : Int32)) hx hb d_law_264 (by decide) ?_
  refine lv_iadd hx hb d_law_265 ?_
  refine va_sld hx hb hX hbl hbA hL.2.2 (hin 5 (by decide)) d_law_266 ?_
  refine law_cM (As := [.int (xs (i + (1 : Int32)).toNatClampNeg), .int (xs (i + (2 : Int32)).toNatClampNeg), .int (xs (i + (3 : Int32)).toNatClampNeg), .int (xs (i + (4 : Int32)).toNatClampNeg), .int (xs (i + (5 : Int32)).toNatClampNeg)]) (rest := [.int r]) S hZ hL km (cw_Law_17 S.2.2.2.2 (Nat.le_of_ble_eq_true rfl) (Nat.le_of_ble_eq_true rfl)) rfl hl.1 rfl (Nat.le_of_ble_eq_true rfl) d_law_267 ⟨Nat.le_of_ble_eq_true rfl, Nat.le_of_ble_eq_true rfl⟩ (fun H locs hL => ?_)
  refine lv_icmp_eq (tgt := 1426) hx hb d_law_270 (by decide) (fun _ => ?_) (fun c => absurd rfl c)
  exact K Mc' Mm' H locs hR' hL
set_option maxHeartbeats 4000000 in
theorem law_case_1 {p : Program} {e : Env} {s : State} {m : MethodId} {below : List Frame} {meth : Method} {c : Code} (l : Launch) {b L : Nat} {xs : Nat → Int32} {Q : State → Prop} (C0 : lw_At p s m meth c b L xs) {Zc Zm : WD} (hZ : LZ Zc Zm s) {Mc Mm : Mem} (hR : Rel Mc Mm) {H : Heap} {locs : List Loc} (hL : LW Zc Zm Mc Mm s H locs) {i : Int32} (hin : ∀ k, k < 6 → vp_in (i + nI k) L) {ls : Array Slot} (hl : lv_has ls 4 [(0, .ref b), (1, .ref (Zc.2.2.1 138)), (2, .ref (Zm.2.2.1 0)), (3, .int i)])
    (K : ∀ (Mc' Mm' : Mem) (H1 : Heap) (locs1 : List Loc), Rel Mc' Mm' → LW Zc Zm Mc' Mm' s H1 locs1 → W p l e room_1 s m #[Value.ref b] below meth c H1 locs1 600000 7302250 Q (F0 m 1426 ls [])) : W p l e room_1 s m #[Value.ref b] below meth c H locs 600000 7302250 Q (F0 m 275 ls []) := by
  obtain ⟨hx, hb, hr, hml, hown, hts, hX, hbl, hlocks, hgv⟩ := id C0
  have hbA : ¬ (fun q : Nat => s.heap.size ≤ q) b := Nat.not_le.mpr hbl
  have S : CallFix p m c code 4 s #[Value.ref b] gtb R_law := ⟨hx, hb, hml, hown, fun w hw => hts w (gt_sub w hw)⟩
  obtain ⟨hIc, hZc, hIm, hZm, -⟩ := id hZ
  obtain ⟨r, Mc', Mm', kc, km, hR'⟩ := k_end l hIc hZc hIm hZm hR (xs (i + (1 : Int32)).toNatClampNeg)
  refine lv_aload_n hx hb d_law_275 rfl (lv_at hl 1 rfl) ?_
  refine lv_aload_n hx hb d_law_276 rfl (lv_at hl 0 rfl) ?_
  refine lv_iload_n hx hb d_law_277 rfl (lv_at hl 3 rfl) ?_
  refine lv_iconst (v := (1 : Int32)) hx hb d_law_278 (by decide) ?_
  refine lv_iadd hx hb d_law_279 ?_
  refine va_sld hx hb hX hbl hbA hL.2.2 (hin 1 (by decide)) d_law_280 ?_
  refine law_cC (As := [.int (xs (i + (1 : Int32)).toNatClampNeg)]) (rest := []) S hZ hL kc (cw_Law_18 S.2.2.2.2 (Nat.le_of_ble_eq_true rfl) (Nat.le_of_ble_eq_true rfl)) rfl hl.1 rfl (Nat.le_of_ble_eq_true rfl) d_law_281 ⟨Nat.le_of_ble_eq_true rfl, Nat.le_of_ble_eq_true rfl⟩ (fun H locs hL => ?_)
  refine lv_aload_n hx hb d_law_284 rfl (lv_at hl 2 rfl) ?_
  refine lv_aload_n hx hb d_law_285 rfl (lv_at hl 0 rfl) ?_
  refine lv_iload_n hx hb d_law_286 rfl (lv_at hl 3 rfl) ?_
  refine lv_iconst (v := (1 : Int32)) hx hb d_law_287 (by decide) ?_
  refine lv_iadd hx hb d_law_288 ?_
  refine va_sld hx hb hX hbl hbA hL.2.2 (hin 1 (by decide)) d_law_289 ?_
  refine law_cM (As := [.int (xs (i + (1 : Int32)).toNatClampNeg)]) (rest := [.int r]) S hZ hL km (cw_Law_22 S.2.2.2.2 (Nat.le_of_ble_eq_true rfl) (Nat.le_of_ble_eq_true rfl)) rfl hl.1 rfl (Nat.le_of_ble_eq_true rfl) d_law_290 ⟨Nat.le_of_ble_eq_true rfl, Nat.le_of_ble_eq_true rfl⟩ (fun H locs hL => ?_)
  refine lv_icmp_eq (tgt := 1426) hx hb d_law_293 (by decide) (fun _ => ?_) (fun c => absurd rfl c)
  exact K Mc' Mm' H locs hR' hL
set_option maxHeartbeats 4000000 in
theorem law_case_2 {p : Program} {e : Env} {s : State} {m : MethodId} {below : List Frame} {meth : Method} {c : Code} (l : Launch) {b L : Nat} {xs : Nat → Int32} {Q : State → Prop} (C0 : lw_At p s m meth c b L xs) {Zc Zm : WD} (hZ : LZ Zc Zm s) {Mc Mm : Mem} (hR : Rel Mc Mm) {H : Heap} {locs : List Loc} (hL : LW Zc Zm Mc Mm s H locs) {i : Int32} (hin : ∀ k, k < 6 → vp_in (i + nI k) L) {ls : Array Slot} (hl : lv_has ls 4 [(0, .ref b), (1, .ref (Zc.2.2.1 138)), (2, .ref (Zm.2.2.1 0)), (3, .int i)])
    (K : ∀ (Mc' Mm' : Mem) (H1 : Heap) (locs1 : List Loc), Rel Mc' Mm' → LW Zc Zm Mc' Mm' s H1 locs1 → W p l e room_1 s m #[Value.ref b] below meth c H1 locs1 600000 7302250 Q (F0 m 1426 ls [])) : W p l e room_1 s m #[Value.ref b] below meth c H locs 600000 7302250 Q (F0 m 298 ls []) := by
  obtain ⟨hx, hb, hr, hml, hown, hts, hX, hbl, hlocks, hgv⟩ := id C0
  have hbA : ¬ (fun q : Nat => s.heap.size ≤ q) b := Nat.not_le.mpr hbl
  have S : CallFix p m c code 4 s #[Value.ref b] gtb R_law := ⟨hx, hb, hml, hown, fun w hw => hts w (gt_sub w hw)⟩
  obtain ⟨hIc, hZc, hIm, hZm, -⟩ := id hZ
  obtain ⟨r, Mc', Mm', kc, km, hR'⟩ := k_tell l hIc hZc hIm hZm hR 
  refine lv_aload_n hx hb d_law_298 rfl (lv_at hl 1 rfl) ?_
  refine law_cC (As := []) (rest := []) S hZ hL kc (cw_Law_23 S.2.2.2.2 (Nat.le_of_ble_eq_true rfl) (Nat.le_of_ble_eq_true rfl)) rfl hl.1 rfl (Nat.le_of_ble_eq_true rfl) d_law_299 ⟨Nat.le_of_ble_eq_true rfl, Nat.le_of_ble_eq_true rfl⟩ (fun H locs hL => ?_)
  refine lv_aload_n hx hb d_law_302 rfl (lv_at hl 2 rfl) ?_
  refine law_cM (As := []) (rest := [.int r]) S hZ hL km (cw_Law_27 S.2.2.2.2 (Nat.le_of_ble_eq_true rfl) (Nat.le_of_ble_eq_true rfl)) rfl hl.1 rfl (Nat.le_of_ble_eq_true rfl) d_law_303 ⟨Nat.le_of_ble_eq_true rfl, Nat.le_of_ble_eq_true rfl⟩ (fun H locs hL => ?_)
  refine lv_icmp_eq (tgt := 1426) hx hb d_law_306 (by decide) (fun _ => ?_) (fun c => absurd rfl c)
  exact K Mc' Mm' H locs hR' hL
set_option maxHeartbeats 4000000 in
theorem law_case_3 {p : Program} {e : Env} {s : State} {m : MethodId} {below : List Frame} {meth : Method} {c : Code} (l : Launch) {b L : Nat} {xs : Nat → Int32} {Q : State → Prop} (C0 : lw_At p s m meth c b L xs) {Zc Zm : WD} (hZ : LZ Zc Zm s) {Mc Mm : Mem} (hR : Rel Mc Mm) {H : Heap} {locs : List Loc} (hL : LW Zc Zm Mc Mm s H locs) {i : Int32} (hin : ∀ k, k < 6 → vp_in (i + nI k) L) {ls : Array Slot} (hl : lv_has ls 4 [(0, .ref b), (1, .ref (Zc.2.2.1 138)), (2, .ref (Zm.2.2.1 0)), (3, .int i)])
    (K : ∀ (Mc' Mm' : Mem) (H1 : Heap) (locs1 : List Loc), Rel Mc' Mm' → LW Zc Zm Mc' Mm' s H1 locs1 → W p l e room_1 s m #[Value.ref b] below meth c H1 locs1 600000 7302250 Q (F0 m 1426 ls [])) : W p l e room_1 s m #[Value.ref b] below meth c H locs 600000 7302250 Q (F0 m 311 ls []) := by
  obtain ⟨hx, hb, hr, hml, hown, hts, hX, hbl, hlocks, hgv⟩ := id C0
  have hbA : ¬ (fun q : Nat => s.heap.size ≤ q) b := Nat.not_le.mpr hbl
  have S : CallFix p m c code 4 s #[Value.ref b] gtb R_law := ⟨hx, hb, hml, hown, fun w hw => hts w (gt_sub w hw)⟩
  obtain ⟨hIc, hZc, hIm, hZm, -⟩ := id hZ
  obtain ⟨r, Mc', Mm', kc, km, hR'⟩ := k_settle l hIc hZc hIm hZm hR (xs (i + (1 : Int32)).toNatClampNeg) (xs (i + (2 : Int32)).toNatClampNeg)
  refine lv_aload_n hx hb d_law_311 rfl (lv_at hl 1 rfl) ?_
  refine lv_aload_n hx hb d_law_312 rfl (lv_at hl 0 rfl) ?_
  refine lv_iload_n hx hb d_law_313 rfl (lv_at hl 3 rfl) ?_
  refine lv_iconst (v := (1 : Int32)) hx hb d_law_314 (by decide) ?_
  refine lv_iadd hx hb d_law_315 ?_
  refine va_sld hx hb hX hbl hbA hL.2.2 (hin 1 (by decide)) d_law_316 ?_
  refine lv_aload_n hx hb d_law_317 rfl (lv_at hl 0 rfl) ?_
  refine lv_iload_n hx hb d_law_318 rfl (lv_at hl 3 rfl) ?_
  refine lv_iconst (v := (2 : Int32)) hx hb d_law_319 (by decide) ?_
  refine lv_iadd hx hb d_law_320 ?_
  refine va_sld hx hb hX hbl hbA hL.2.2 (hin 2 (by decide)) d_law_321 ?_
  refine law_cC (As := [.int (xs (i + (1 : Int32)).toNatClampNeg), .int (xs (i + (2 : Int32)).toNatClampNeg)]) (rest := []) S hZ hL kc (cw_Law_28 S.2.2.2.2 (Nat.le_of_ble_eq_true rfl) (Nat.le_of_ble_eq_true rfl)) rfl hl.1 rfl (Nat.le_of_ble_eq_true rfl) d_law_322 ⟨Nat.le_of_ble_eq_true rfl, Nat.le_of_ble_eq_true rfl⟩ (fun H locs hL => ?_)
  refine lv_aload_n hx hb d_law_325 rfl (lv_at hl 2 rfl) ?_
  refine lv_aload_n hx hb d_law_326 rfl (lv_at hl 0 rfl) ?_
  refine lv_iload_n hx hb d_law_327 rfl (lv_at hl 3 rfl) ?_
  refine lv_iconst (v := (1 : Int32)) hx hb d_law_328 (by decide) ?_
  refine lv_iadd hx hb d_law_329 ?_
  refine va_sld hx hb hX hbl hbA hL.2.2 (hin 1 (by decide)) d_law_330 ?_
  refine lv_aload_n hx hb d_law_331 rfl (lv_at hl 0 rfl) ?_
  refine lv_iload_n hx hb d_law_332 rfl (lv_at hl 3 rfl) ?_
  refine lv_iconst (v := (2 : Int32)) hx hb d_law_333 (by decide) ?_
  refine lv_iadd hx hb d_law_334 ?_
  refine va_sld hx hb hX hbl hbA hL.2.2 (hin 2 (by decide)) d_law_335 ?_
  refine law_cM (As := [.int (xs (i + (1 : Int32)).toNatClampNeg), .int (xs (i + (2 : Int32)).toNatClampNeg)]) (rest := [.int r]) S hZ hL km (cw_Law_32 S.2.2.2.2 (Nat.le_of_ble_eq_true rfl) (Nat.le_of_ble_eq_true rfl)) rfl hl.1 rfl (Nat.le_of_ble_eq_true rfl) d_law_336 ⟨Nat.le_of_ble_eq_true rfl, Nat.le_of_ble_eq_true rfl⟩ (fun H locs hL => ?_)
  refine lv_icmp_eq (tgt := 1426) hx hb d_law_339 (by decide) (fun _ => ?_) (fun c => absurd rfl c)
  exact K Mc' Mm' H locs hR' hL
set_option maxHeartbeats 4000000 in
theorem law_case_4 {p : Program} {e : Env} {s : State} {m : MethodId} {below : List Frame} {meth : Method} {c : Code} (l : Launch) {b L : Nat} {xs : Nat → Int32} {Q : State → Prop} (C0 : lw_At p s m meth c b L xs) {Zc Zm : WD} (hZ : LZ Zc Zm s) {Mc Mm : Mem} (hR : Rel Mc Mm) {H : Heap} {locs : List Loc} (hL : LW Zc Zm Mc Mm s H locs) {i : Int32} (hin : ∀ k, k < 6 → vp_in (i + nI k) L) {ls : Array Slot} (hl : lv_has ls 4 [(0, .ref b), (1, .ref (Zc.2.2.1 138)), (2, .ref (Zm.2.2.1 0)), (3, .int i)])
    (K : ∀ (Mc' Mm' : Mem) (H1 : Heap) (locs1 : List Loc), Rel Mc' Mm' → LW Zc Zm Mc' Mm' s H1 locs1 → W p l e room_1 s m #[Value.ref b] below meth c H1 locs1 600000 7302250 Q (F0 m 1426 ls [])) : W p l e room_1 s m #[Value.ref b] below meth c H locs 600000 7302250 Q (F0 m 344 ls []) := by
  obtain ⟨hx, hb, hr, hml, hown, hts, hX, hbl, hlocks, hgv⟩ := id C0
  have hbA : ¬ (fun q : Nat => s.heap.size ≤ q) b := Nat.not_le.mpr hbl
  have S : CallFix p m c code 4 s #[Value.ref b] gtb R_law := ⟨hx, hb, hml, hown, fun w hw => hts w (gt_sub w hw)⟩
  obtain ⟨hIc, hZc, hIm, hZm, -⟩ := id hZ
  obtain ⟨r, Mc', Mm', kc, km, hR'⟩ := k_lies l hIc hZc hIm hZm hR (xs (i + (1 : Int32)).toNatClampNeg)
  refine lv_aload_n hx hb d_law_344 rfl (lv_at hl 1 rfl) ?_
  refine lv_aload_n hx hb d_law_345 rfl (lv_at hl 0 rfl) ?_
  refine lv_iload_n hx hb d_law_346 rfl (lv_at hl 3 rfl) ?_
  refine lv_iconst (v := (1 : Int32)) hx hb d_law_347 (by decide) ?_
  refine lv_iadd hx hb d_law_348 ?_
  refine va_sld hx hb hX hbl hbA hL.2.2 (hin 1 (by decide)) d_law_349 ?_
  refine law_cC (As := [.int (xs (i + (1 : Int32)).toNatClampNeg)]) (rest := []) S hZ hL kc (cw_Law_33 S.2.2.2.2 (Nat.le_of_ble_eq_true rfl) (Nat.le_of_ble_eq_true rfl)) rfl hl.1 rfl (Nat.le_of_ble_eq_true rfl) d_law_350 ⟨Nat.le_of_ble_eq_true rfl, Nat.le_of_ble_eq_true rfl⟩ (fun H locs hL => ?_)
  refine lv_aload_n hx hb d_law_353 rfl (lv_at hl 2 rfl) ?_
  refine lv_aload_n hx hb d_law_354 rfl (lv_at hl 0 rfl) ?_
  refine lv_iload_n hx hb d_law_355 rfl (lv_at hl 3 rfl) ?_
  refine lv_iconst (v := (1 : Int32)) hx hb d_law_356 (by decide) ?_
  refine lv_iadd hx hb d_law_357 ?_
  refine va_sld hx hb hX hbl hbA hL.2.2 (hin 1 (by decide)) d_law_358 ?_
  refine law_cM (As := [.int (xs (i + (1 : Int32)).toNatClampNeg)]) (rest := [.int r]) S hZ hL km (cw_Law_36 S.2.2.2.2 (Nat.le_of_ble_eq_true rfl) (Nat.le_of_ble_eq_true rfl)) rfl hl.1 rfl (Nat.le_of_ble_eq_true rfl) d_law_359 ⟨Nat.le_of_ble_eq_true rfl, Nat.le_of_ble_eq_true rfl⟩ (fun H locs hL => ?_)
  refine lv_icmp_eq (tgt := 1426) hx hb d_law_362 (by decide) (fun _ => ?_) (fun c => absurd rfl c)
  exact K Mc' Mm' H locs hR' hL
set_option maxHeartbeats 4000000 in
theorem law_case_5 {p : Program} {e : Env} {s : State} {m : MethodId} {below : List Frame} {meth : Method} {c : Code} (l : Launch) {b L : Nat} {xs : Nat → Int32} {Q : State → Prop} (C0 : lw_At p s m meth c b L xs) {Zc Zm : WD} (hZ : LZ Zc Zm s) {Mc Mm : Mem} (hR : Rel Mc Mm) {H : Heap} {locs : List Loc} (hL : LW Zc Zm Mc Mm s H locs) {i : Int32} (hin : ∀ k, k < 6 → vp_in (i + nI k) L) {ls : Array Slot} (hl : lv_has ls 4 [(0, .ref b), (1, .ref (Zc.2.2.1 138)), (2, .ref (Zm.2.2.1 0)), (3, .int i)])
    (K : ∀ (Mc' Mm' : Mem) (H1 : Heap) (locs1 : List Loc), Rel Mc' Mm' → LW Zc Zm Mc' Mm' s H1 locs1 → W p l e room_1 s m #[Value.ref b] below meth c H1 locs1 600000 7302250 Q (F0 m 1426 ls [])) : W p l e room_1 s m #[Value.ref b] below meth c H locs 600000 7302250 Q (F0 m 367 ls []) := by
  obtain ⟨hx, hb, hr, hml, hown, hts, hX, hbl, hlocks, hgv⟩ := id C0
  have hbA : ¬ (fun q : Nat => s.heap.size ≤ q) b := Nat.not_le.mpr hbl
  have S : CallFix p m c code 4 s #[Value.ref b] gtb R_law := ⟨hx, hb, hml, hown, fun w hw => hts w (gt_sub w hw)⟩
  obtain ⟨hIc, hZc, hIm, hZm, -⟩ := id hZ
  obtain ⟨r, Mc', Mm', kc, km, hR'⟩ := k_plan l hIc hZc hIm hZm hR (xs (i + (1 : Int32)).toNatClampNeg) (xs (i + (2 : Int32)).toNatClampNeg) (xs (i + (3 : Int32)).toNatClampNeg) (xs (i + (4 : Int32)).toNatClampNeg) (xs (i + (5 : Int32)).toNatClampNeg)
  refine lv_aload_n hx hb d_law_367 rfl (lv_at hl 1 rfl) ?_
  refine lv_aload_n hx hb d_law_368 rfl (lv_at hl 0 rfl) ?_
  refine lv_iload_n hx hb d_law_369 rfl (lv_at hl 3 rfl) ?_
  refine lv_iconst (v := (1 : Int32)) hx hb d_law_370 (by decide) ?_
  refine lv_iadd hx hb d_law_371 ?_
  refine va_sld hx hb hX hbl hbA hL.2.2 (hin 1 (by decide)) d_law_372 ?_
  refine lv_aload_n hx hb d_law_373 rfl (lv_at hl 0 rfl) ?_
  refine lv_iload_n hx hb d_law_374 rfl (lv_at hl 3 rfl) ?_
  refine lv_iconst (v := (2 : Int32)) hx hb d_law_375 (by decide) ?_
  refine lv_iadd hx hb d_law_376 ?_
  refine va_sld hx hb hX hbl hbA hL.2.2 (hin 2 (by decide)) d_law_377 ?_
  refine lv_aload_n hx hb d_law_378 rfl (lv_at hl 0 rfl) ?_
  refine lv_iload_n hx hb d_law_379 rfl (lv_at hl 3 rfl) ?_
  refine lv_iconst (v := (3 : Int32)) hx hb d_law_380 (by decide) ?_
  refine lv_iadd hx hb d_law_381 ?_
  refine va_sld hx hb hX hbl hbA hL.2.2 (hin 3 (by decide)) d_law_382 ?_
  refine lv_aload_n hx hb d_law_383 rfl (lv_at hl 0 rfl) ?_
  refine lv_iload_n hx hb d_law_384 rfl (lv_at hl 3 rfl) ?_
  refine lv_iconst (v := (4 : Int32)) hx hb d_law_385 (by decide) ?_
  refine lv_iadd hx hb d_law_386 ?_
  refine va_sld hx hb hX hbl hbA hL.2.2 (hin 4 (by decide)) d_law_387 ?_
  refine lv_aload_n hx hb d_law_388 rfl (lv_at hl 0 rfl) ?_
  refine lv_iload_n hx hb d_law_389 rfl (lv_at hl 3 rfl) ?_
  refine lv_iconst (v := (5 : Int32)) hx hb d_law_390 (by decide) ?_
  refine lv_iadd hx hb d_law_391 ?_
  refine va_sld hx hb hX hbl hbA hL.2.2 (hin 5 (by decide)) d_law_392 ?_
  refine law_cC (As := [.int (xs (i + (1 : Int32)).toNatClampNeg), .int (xs (i + (2 : Int32)).toNatClampNeg), .int (xs (i + (3 : Int32)).toNatClampNeg), .int (xs (i + (4 : Int32)).toNatClampNeg), .int (xs (i + (5 : Int32)).toNatClampNeg)]) (rest := []) S hZ hL kc (cw_Law_37 S.2.2.2.2 (Nat.le_of_ble_eq_true rfl) (Nat.le_of_ble_eq_true rfl)) rfl hl.1 rfl (Nat.le_of_ble_eq_true rfl) d_law_393 ⟨Nat.le_of_ble_eq_true rfl, Nat.le_of_ble_eq_true rfl⟩ (fun H locs hL => ?_)
  refine lv_aload_n hx hb d_law_396 rfl (lv_at hl 2 rfl) ?_
  refine lv_aload_n hx hb d_law_397 rfl (lv_at hl 0 rfl) ?_
  refine lv_iload_n hx hb d_law_398 rfl (lv_at hl 3 rfl) ?_
  refine lv_iconst (v := (1 : Int32)) hx hb d_law_399 (by decide) ?_
  refine lv_iadd hx hb d_law_400 ?_
  refine va_sld hx hb hX hbl hbA hL.2.2 (hin 1 (by decide)) d_law_401 ?_
  refine lv_aload_n hx hb d_law_402 rfl (lv_at hl 0 rfl) ?_
  refine lv_iload_n hx hb d_law_403 rfl (lv_at hl 3 rfl) ?_
  refine lv_iconst (v := (2 : Int32)) hx hb d_law_404 (by decide) ?_
  refine lv_iadd hx hb d_law_405 ?_
  refine va_sld hx hb hX hbl hbA hL.2.2 (hin 2 (by decide)) d_law_406 ?_
  refine lv_aload_n hx hb d_law_407 rfl (lv_at hl 0 rfl) ?_
  refine lv_iload_n hx hb d_law_408 rfl (lv_at hl 3 rfl) ?_
  refine lv_iconst (v := (3 : Int32)) hx hb d_law_409 (by decide) ?_
  refine lv_iadd hx hb d_law_410 ?_
  refine va_sld hx hb hX hbl hbA hL.2.2 (hin 3 (by decide)) d_law_411 ?_
  refine lv_aload_n hx hb d_law_412 rfl (lv_at hl 0 rfl) ?_
  refine lv_iload_n hx hb d_law_413 rfl (lv_at hl 3 rfl) ?_
  refine lv_iconst (v := (4 : Int32)) hx hb d_law_414 (by decide) ?_
  refine lv_iadd hx hb d_law_415 ?_
  refine va_sld hx hb hX hbl hbA hL.2.2 (hin 4 (by decide)) d_law_416 ?_
  refine lv_aload_n hx hb d_law_417 rfl (lv_at hl 0 rfl) ?_
  refine lv_iload_n hx hb d_law_418 rfl (lv_at hl 3 rfl) ?_
  refine lv_iconst (v := (5 : Int32)) hx hb d_law_419 (by decide) ?_
  refine lv_iadd hx hb d_law_420 ?_
  refine va_sld hx hb hX hbl hbA hL.2.2 (hin 5 (by decide)) d_law_421 ?_
  refine law_cM (As := [.int (xs (i + (1 : Int32)).toNatClampNeg), .int (xs (i + (2 : Int32)).toNatClampNeg), .int (xs (i + (3 : Int32)).toNatClampNeg), .int (xs (i + (4 : Int32)).toNatClampNeg), .int (xs (i + (5 : Int32)).toNatClampNeg)]) (rest := [.int r]) S hZ hL km (cw_Law_40 S.2.2.2.2 (Nat.le_of_ble_eq_true rfl) (Nat.le_of_ble_eq_true rfl)) rfl hl.1 rfl (Nat.le_of_ble_eq_true rfl) d_law_422 ⟨Nat.le_of_ble_eq_true rfl, Nat.le_of_ble_eq_true rfl⟩ (fun H locs hL => ?_)
  refine lv_icmp_eq (tgt := 1426) hx hb d_law_425 (by decide) (fun _ => ?_) (fun c => absurd rfl c)
  exact K Mc' Mm' H locs hR' hL
set_option maxHeartbeats 4000000 in
theorem law_case_6 {p : Program} {e : Env} {s : State} {m : MethodId} {below : List Frame} {meth : Method} {c : Code} (l : Launch) {b L : Nat} {xs : Nat → Int32} {Q : State → Prop} (C0 : lw_At p s m meth c b L xs) {Zc Zm : WD} (hZ : LZ Zc Zm s) {Mc Mm : Mem} (hR : Rel Mc Mm) {H : Heap} {locs : List Loc} (hL : LW Zc Zm Mc Mm s H locs) {i : Int32} (hin : ∀ k, k < 6 → vp_in (i + nI k) L) {ls : Array Slot} (hl : lv_has ls 4 [(0, .ref b), (1, .ref (Zc.2.2.1 138)), (2, .ref (Zm.2.2.1 0)), (3, .int i)])
    (K : ∀ (Mc' Mm' : Mem) (H1 : Heap) (locs1 : List Loc), Rel Mc' Mm' → LW Zc Zm Mc' Mm' s H1 locs1 → W p l e room_1 s m #[Value.ref b] below meth c H1 locs1 600000 7302250 Q (F0 m 1426 ls [])) : W p l e room_1 s m #[Value.ref b] below meth c H locs 600000 7302250 Q (F0 m 430 ls []) := by
  obtain ⟨hx, hb, hr, hml, hown, hts, hX, hbl, hlocks, hgv⟩ := id C0
  have hbA : ¬ (fun q : Nat => s.heap.size ≤ q) b := Nat.not_le.mpr hbl
  have S : CallFix p m c code 4 s #[Value.ref b] gtb R_law := ⟨hx, hb, hml, hown, fun w hw => hts w (gt_sub w hw)⟩
  obtain ⟨hIc, hZc, hIm, hZm, -⟩ := id hZ
  obtain ⟨r, Mc', Mm', kc, km, hR'⟩ := k_drop l hIc hZc hIm hZm hR (xs (i + (1 : Int32)).toNatClampNeg) (xs (i + (2 : Int32)).toNatClampNeg)
  refine lv_aload_n hx hb d_law_430 rfl (lv_at hl 1 rfl) ?_
  refine lv_aload_n hx hb d_law_431 rfl (lv_at hl 0 rfl) ?_
  refine lv_iload_n hx hb d_law_432 rfl (lv_at hl 3 rfl) ?_
  refine lv_iconst (v := (1 : Int32)) hx hb d_law_433 (by decide) ?_
  refine lv_iadd hx hb d_law_434 ?_
  refine va_sld hx hb hX hbl hbA hL.2.2 (hin 1 (by decide)) d_law_435 ?_
  refine lv_aload_n hx hb d_law_436 rfl (lv_at hl 0 rfl) ?_
  refine lv_iload_n hx hb d_law_437 rfl (lv_at hl 3 rfl) ?_
  refine lv_iconst (v := (2 : Int32)) hx hb d_law_438 (by decide) ?_
  refine lv_iadd hx hb d_law_439 ?_
  refine va_sld hx hb hX hbl hbA hL.2.2 (hin 2 (by decide)) d_law_440 ?_
  refine law_cC (As := [.int (xs (i + (1 : Int32)).toNatClampNeg), .int (xs (i + (2 : Int32)).toNatClampNeg)]) (rest := []) S hZ hL kc (cw_Law_41 S.2.2.2.2 (Nat.le_of_ble_eq_true rfl) (Nat.le_of_ble_eq_true rfl)) rfl hl.1 rfl (Nat.le_of_ble_eq_true rfl) d_law_441 ⟨Nat.le_of_ble_eq_true rfl, Nat.le_of_ble_eq_true rfl⟩ (fun H locs hL => ?_)
  refine lv_aload_n hx hb d_law_444 rfl (lv_at hl 2 rfl) ?_
  refine lv_aload_n hx hb d_law_445 rfl (lv_at hl 0 rfl) ?_
  refine lv_iload_n hx hb d_law_446 rfl (lv_at hl 3 rfl) ?_
  refine lv_iconst (v := (1 : Int32)) hx hb d_law_447 (by decide) ?_
  refine lv_iadd hx hb d_law_448 ?_
  refine va_sld hx hb hX hbl hbA hL.2.2 (hin 1 (by decide)) d_law_449 ?_
  refine lv_aload_n hx hb d_law_450 rfl (lv_at hl 0 rfl) ?_
  refine lv_iload_n hx hb d_law_451 rfl (lv_at hl 3 rfl) ?_
  refine lv_iconst (v := (2 : Int32)) hx hb d_law_452 (by decide) ?_
  refine lv_iadd hx hb d_law_453 ?_
  refine va_sld hx hb hX hbl hbA hL.2.2 (hin 2 (by decide)) d_law_454 ?_
  refine law_cM (As := [.int (xs (i + (1 : Int32)).toNatClampNeg), .int (xs (i + (2 : Int32)).toNatClampNeg)]) (rest := [.int r]) S hZ hL km (cw_Law_44 S.2.2.2.2 (Nat.le_of_ble_eq_true rfl) (Nat.le_of_ble_eq_true rfl)) rfl hl.1 rfl (Nat.le_of_ble_eq_true rfl) d_law_455 ⟨Nat.le_of_ble_eq_true rfl, Nat.le_of_ble_eq_true rfl⟩ (fun H locs hL => ?_)
  refine lv_icmp_eq (tgt := 1426) hx hb d_law_458 (by decide) (fun _ => ?_) (fun c => absurd rfl c)
  exact K Mc' Mm' H locs hR' hL
set_option maxHeartbeats 4000000 in
theorem law_case_7 {p : Program} {e : Env} {s : State} {m : MethodId} {below : List Frame} {meth : Method} {c : Code} (l : Launch) {b L : Nat} {xs : Nat → Int32} {Q : State → Prop} (C0 : lw_At p s m meth c b L xs) {Zc Zm : WD} (hZ : LZ Zc Zm s) {Mc Mm : Mem} (hR : Rel Mc Mm) {H : Heap} {locs : List Loc} (hL : LW Zc Zm Mc Mm s H locs) {i : Int32} (hin : ∀ k, k < 6 → vp_in (i + nI k) L) {ls : Array Slot} (hl : lv_has ls 4 [(0, .ref b), (1, .ref (Zc.2.2.1 138)), (2, .ref (Zm.2.2.1 0)), (3, .int i)])
    (K : ∀ (Mc' Mm' : Mem) (H1 : Heap) (locs1 : List Loc), Rel Mc' Mm' → LW Zc Zm Mc' Mm' s H1 locs1 → W p l e room_1 s m #[Value.ref b] below meth c H1 locs1 600000 7302250 Q (F0 m 1426 ls [])) : W p l e room_1 s m #[Value.ref b] below meth c H locs 600000 7302250 Q (F0 m 463 ls []) := by
  obtain ⟨hx, hb, hr, hml, hown, hts, hX, hbl, hlocks, hgv⟩ := id C0
  have hbA : ¬ (fun q : Nat => s.heap.size ≤ q) b := Nat.not_le.mpr hbl
  have S : CallFix p m c code 4 s #[Value.ref b] gtb R_law := ⟨hx, hb, hml, hown, fun w hw => hts w (gt_sub w hw)⟩
  obtain ⟨hIc, hZc, hIm, hZm, -⟩ := id hZ
  obtain ⟨r, Mc', Mm', kc, km, hR'⟩ := k_omit l hIc hZc hIm hZm hR (xs (i + (1 : Int32)).toNatClampNeg) (xs (i + (2 : Int32)).toNatClampNeg) (xs (i + (3 : Int32)).toNatClampNeg)
  refine lv_aload_n hx hb d_law_463 rfl (lv_at hl 1 rfl) ?_
  refine lv_aload_n hx hb d_law_464 rfl (lv_at hl 0 rfl) ?_
  refine lv_iload_n hx hb d_law_465 rfl (lv_at hl 3 rfl) ?_
  refine lv_iconst (v := (1 : Int32)) hx hb d_law_466 (by decide) ?_
  refine lv_iadd hx hb d_law_467 ?_
  refine va_sld hx hb hX hbl hbA hL.2.2 (hin 1 (by decide)) d_law_468 ?_
  refine lv_aload_n hx hb d_law_469 rfl (lv_at hl 0 rfl) ?_
  refine lv_iload_n hx hb d_law_470 rfl (lv_at hl 3 rfl) ?_
  refine lv_iconst (v := (2 : Int32)) hx hb d_law_471 (by decide) ?_
  refine lv_iadd hx hb d_law_472 ?_
  refine va_sld hx hb hX hbl hbA hL.2.2 (hin 2 (by decide)) d_law_473 ?_
  refine lv_aload_n hx hb d_law_474 rfl (lv_at hl 0 rfl) ?_
  refine lv_iload_n hx hb d_law_475 rfl (lv_at hl 3 rfl) ?_
  refine lv_iconst (v := (3 : Int32)) hx hb d_law_476 (by decide) ?_
  refine lv_iadd hx hb d_law_477 ?_
  refine va_sld hx hb hX hbl hbA hL.2.2 (hin 3 (by decide)) d_law_478 ?_
  refine law_cC (As := [.int (xs (i + (1 : Int32)).toNatClampNeg), .int (xs (i + (2 : Int32)).toNatClampNeg), .int (xs (i + (3 : Int32)).toNatClampNeg)]) (rest := []) S hZ hL kc (cw_Law_45 S.2.2.2.2 (Nat.le_of_ble_eq_true rfl) (Nat.le_of_ble_eq_true rfl)) rfl hl.1 rfl (Nat.le_of_ble_eq_true rfl) d_law_479 ⟨Nat.le_of_ble_eq_true rfl, Nat.le_of_ble_eq_true rfl⟩ (fun H locs hL => ?_)
  refine lv_aload_n hx hb d_law_482 rfl (lv_at hl 2 rfl) ?_
  refine lv_aload_n hx hb d_law_483 rfl (lv_at hl 0 rfl) ?_
  refine lv_iload_n hx hb d_law_484 rfl (lv_at hl 3 rfl) ?_
  refine lv_iconst (v := (1 : Int32)) hx hb d_law_485 (by decide) ?_
  refine lv_iadd hx hb d_law_486 ?_
  refine va_sld hx hb hX hbl hbA hL.2.2 (hin 1 (by decide)) d_law_487 ?_
  refine lv_aload_n hx hb d_law_488 rfl (lv_at hl 0 rfl) ?_
  refine lv_iload_n hx hb d_law_489 rfl (lv_at hl 3 rfl) ?_
  refine lv_iconst (v := (2 : Int32)) hx hb d_law_490 (by decide) ?_
  refine lv_iadd hx hb d_law_491 ?_
  refine va_sld hx hb hX hbl hbA hL.2.2 (hin 2 (by decide)) d_law_492 ?_
  refine lv_aload_n hx hb d_law_493 rfl (lv_at hl 0 rfl) ?_
  refine lv_iload_n hx hb d_law_494 rfl (lv_at hl 3 rfl) ?_
  refine lv_iconst (v := (3 : Int32)) hx hb d_law_495 (by decide) ?_
  refine lv_iadd hx hb d_law_496 ?_
  refine va_sld hx hb hX hbl hbA hL.2.2 (hin 3 (by decide)) d_law_497 ?_
  refine law_cM (As := [.int (xs (i + (1 : Int32)).toNatClampNeg), .int (xs (i + (2 : Int32)).toNatClampNeg), .int (xs (i + (3 : Int32)).toNatClampNeg)]) (rest := [.int r]) S hZ hL km (cw_Law_49 S.2.2.2.2 (Nat.le_of_ble_eq_true rfl) (Nat.le_of_ble_eq_true rfl)) rfl hl.1 rfl (Nat.le_of_ble_eq_true rfl) d_law_498 ⟨Nat.le_of_ble_eq_true rfl, Nat.le_of_ble_eq_true rfl⟩ (fun H locs hL => ?_)
  refine lv_icmp_eq (tgt := 1426) hx hb d_law_501 (by decide) (fun _ => ?_) (fun c => absurd rfl c)
  exact K Mc' Mm' H locs hR' hL
set_option maxHeartbeats 4000000 in
theorem law_case_8 {p : Program} {e : Env} {s : State} {m : MethodId} {below : List Frame} {meth : Method} {c : Code} (l : Launch) {b L : Nat} {xs : Nat → Int32} {Q : State → Prop} (C0 : lw_At p s m meth c b L xs) {Zc Zm : WD} (hZ : LZ Zc Zm s) {Mc Mm : Mem} (hR : Rel Mc Mm) {H : Heap} {locs : List Loc} (hL : LW Zc Zm Mc Mm s H locs) {i : Int32} (hin : ∀ k, k < 6 → vp_in (i + nI k) L) {ls : Array Slot} (hl : lv_has ls 4 [(0, .ref b), (1, .ref (Zc.2.2.1 138)), (2, .ref (Zm.2.2.1 0)), (3, .int i)])
    (K : ∀ (Mc' Mm' : Mem) (H1 : Heap) (locs1 : List Loc), Rel Mc' Mm' → LW Zc Zm Mc' Mm' s H1 locs1 → W p l e room_1 s m #[Value.ref b] below meth c H1 locs1 600000 7302250 Q (F0 m 1426 ls [])) : W p l e room_1 s m #[Value.ref b] below meth c H locs 600000 7302250 Q (F0 m 506 ls []) := by
  obtain ⟨hx, hb, hr, hml, hown, hts, hX, hbl, hlocks, hgv⟩ := id C0
  have hbA : ¬ (fun q : Nat => s.heap.size ≤ q) b := Nat.not_le.mpr hbl
  have S : CallFix p m c code 4 s #[Value.ref b] gtb R_law := ⟨hx, hb, hml, hown, fun w hw => hts w (gt_sub w hw)⟩
  obtain ⟨hIc, hZc, hIm, hZm, -⟩ := id hZ
  obtain ⟨r, Mc', Mm', kc, km, hR'⟩ := k_late l hIc hZc hIm hZm hR (xs (i + (1 : Int32)).toNatClampNeg) (xs (i + (2 : Int32)).toNatClampNeg) (xs (i + (3 : Int32)).toNatClampNeg) (xs (i + (4 : Int32)).toNatClampNeg)
  refine lv_aload_n hx hb d_law_506 rfl (lv_at hl 1 rfl) ?_
  refine lv_aload_n hx hb d_law_507 rfl (lv_at hl 0 rfl) ?_
  refine lv_iload_n hx hb d_law_508 rfl (lv_at hl 3 rfl) ?_
  refine lv_iconst (v := (1 : Int32)) hx hb d_law_509 (by decide) ?_
  refine lv_iadd hx hb d_law_510 ?_
  refine va_sld hx hb hX hbl hbA hL.2.2 (hin 1 (by decide)) d_law_511 ?_
  refine lv_aload_n hx hb d_law_512 rfl (lv_at hl 0 rfl) ?_
  refine lv_iload_n hx hb d_law_513 rfl (lv_at hl 3 rfl) ?_
  refine lv_iconst (v := (2 : Int32)) hx hb d_law_514 (by decide) ?_
  refine lv_iadd hx hb d_law_515 ?_
  refine va_sld hx hb hX hbl hbA hL.2.2 (hin 2 (by decide)) d_law_516 ?_
  refine lv_aload_n hx hb d_law_517 rfl (lv_at hl 0 rfl) ?_
  refine lv_iload_n hx hb d_law_518 rfl (lv_at hl 3 rfl) ?_
  refine lv_iconst (v := (3 : Int32)) hx hb d_law_519 (by decide) ?_
  refine lv_iadd hx hb d_law_520 ?_
  refine va_sld hx hb hX hbl hbA hL.2.2 (hin 3 (by decide)) d_law_521 ?_
  refine lv_aload_n hx hb d_law_522 rfl (lv_at hl 0 rfl) ?_
  refine lv_iload_n hx hb d_law_523 rfl (lv_at hl 3 rfl) ?_
  refine lv_iconst (v := (4 : Int32)) hx hb d_law_524 (by decide) ?_
  refine lv_iadd hx hb d_law_525 ?_
  refine va_sld hx hb hX hbl hbA hL.2.2 (hin 4 (by decide)) d_law_526 ?_
  refine law_cC (As := [.int (xs (i + (1 : Int32)).toNatClampNeg), .int (xs (i + (2 : Int32)).toNatClampNeg), .int (xs (i + (3 : Int32)).toNatClampNeg), .int (xs (i + (4 : Int32)).toNatClampNeg)]) (rest := []) S hZ hL kc (cw_Law_50 S.2.2.2.2 (Nat.le_of_ble_eq_true rfl) (Nat.le_of_ble_eq_true rfl)) rfl hl.1 rfl (Nat.le_of_ble_eq_true rfl) d_law_527 ⟨Nat.le_of_ble_eq_true rfl, Nat.le_of_ble_eq_true rfl⟩ (fun H locs hL => ?_)
  refine lv_aload_n hx hb d_law_530 rfl (lv_at hl 2 rfl) ?_
  refine lv_aload_n hx hb d_law_531 rfl (lv_at hl 0 rfl) ?_
  refine lv_iload_n hx hb d_law_532 rfl (lv_at hl 3 rfl) ?_
  refine lv_iconst (v := (1 : Int32)) hx hb d_law_533 (by decide) ?_
  refine lv_iadd hx hb d_law_534 ?_
  refine va_sld hx hb hX hbl hbA hL.2.2 (hin 1 (by decide)) d_law_535 ?_
  refine lv_aload_n hx hb d_law_536 rfl (lv_at hl 0 rfl) ?_
  refine lv_iload_n hx hb d_law_537 rfl (lv_at hl 3 rfl) ?_
  refine lv_iconst (v := (2 : Int32)) hx hb d_law_538 (by decide) ?_
  refine lv_iadd hx hb d_law_539 ?_
  refine va_sld hx hb hX hbl hbA hL.2.2 (hin 2 (by decide)) d_law_540 ?_
  refine lv_aload_n hx hb d_law_541 rfl (lv_at hl 0 rfl) ?_
  refine lv_iload_n hx hb d_law_542 rfl (lv_at hl 3 rfl) ?_
  refine lv_iconst (v := (3 : Int32)) hx hb d_law_543 (by decide) ?_
  refine lv_iadd hx hb d_law_544 ?_
  refine va_sld hx hb hX hbl hbA hL.2.2 (hin 3 (by decide)) d_law_545 ?_
  refine lv_aload_n hx hb d_law_546 rfl (lv_at hl 0 rfl) ?_
  refine lv_iload_n hx hb d_law_547 rfl (lv_at hl 3 rfl) ?_
  refine lv_iconst (v := (4 : Int32)) hx hb d_law_548 (by decide) ?_
  refine lv_iadd hx hb d_law_549 ?_
  refine va_sld hx hb hX hbl hbA hL.2.2 (hin 4 (by decide)) d_law_550 ?_
  refine law_cM (As := [.int (xs (i + (1 : Int32)).toNatClampNeg), .int (xs (i + (2 : Int32)).toNatClampNeg), .int (xs (i + (3 : Int32)).toNatClampNeg), .int (xs (i + (4 : Int32)).toNatClampNeg)]) (rest := [.int r]) S hZ hL km (cw_Law_54 S.2.2.2.2 (Nat.le_of_ble_eq_true rfl) (Nat.le_of_ble_eq_true rfl)) rfl hl.1 rfl (Nat.le_of_ble_eq_true rfl) d_law_551 ⟨Nat.le_of_ble_eq_true rfl, Nat.le_of_ble_eq_true rfl⟩ (fun H locs hL => ?_)
  refine lv_icmp_eq (tgt := 1426) hx hb d_law_554 (by decide) (fun _ => ?_) (fun c => absurd rfl c)
  exact K Mc' Mm' H locs hR' hL
set_option maxHeartbeats 4000000 in
theorem law_case_9 {p : Program} {e : Env} {s : State} {m : MethodId} {below : List Frame} {meth : Method} {c : Code} (l : Launch) {b L : Nat} {xs : Nat → Int32} {Q : State → Prop} (C0 : lw_At p s m meth c b L xs) {Zc Zm : WD} (hZ : LZ Zc Zm s) {Mc Mm : Mem} (hR : Rel Mc Mm) {H : Heap} {locs : List Loc} (hL : LW Zc Zm Mc Mm s H locs) {i : Int32} (hin : ∀ k, k < 6 → vp_in (i + nI k) L) {ls : Array Slot} (hl : lv_has ls 4 [(0, .ref b), (1, .ref (Zc.2.2.1 138)), (2, .ref (Zm.2.2.1 0)), (3, .int i)])
    (K : ∀ (Mc' Mm' : Mem) (H1 : Heap) (locs1 : List Loc), Rel Mc' Mm' → LW Zc Zm Mc' Mm' s H1 locs1 → W p l e room_1 s m #[Value.ref b] below meth c H1 locs1 600000 7302250 Q (F0 m 1426 ls [])) : W p l e room_1 s m #[Value.ref b] below meth c H locs 600000 7302250 Q (F0 m 559 ls []) := by
  obtain ⟨hx, hb, hr, hml, hown, hts, hX, hbl, hlocks, hgv⟩ := id C0
  have hbA : ¬ (fun q : Nat => s.heap.size ≤ q) b := Nat.not_le.mpr hbl
  have S : CallFix p m c code 4 s #[Value.ref b] gtb R_law := ⟨hx, hb, hml, hown, fun w hw => hts w (gt_sub w hw)⟩
  obtain ⟨hIc, hZc, hIm, hZm, -⟩ := id hZ
  obtain ⟨r, Mc', Mm', kc, km, hR'⟩ := k_attack l hIc hZc hIm hZm hR 
  refine lv_aload_n hx hb d_law_559 rfl (lv_at hl 1 rfl) ?_
  refine law_cC (As := []) (rest := []) S hZ hL kc (cw_Law_55 S.2.2.2.2 (Nat.le_of_ble_eq_true rfl) (Nat.le_of_ble_eq_true rfl)) rfl hl.1 rfl (Nat.le_of_ble_eq_true rfl) d_law_560 ⟨Nat.le_of_ble_eq_true rfl, Nat.le_of_ble_eq_true rfl⟩ (fun H locs hL => ?_)
  refine lv_aload_n hx hb d_law_563 rfl (lv_at hl 2 rfl) ?_
  refine law_cM (As := []) (rest := [.int r]) S hZ hL km (cw_Law_58 S.2.2.2.2 (Nat.le_of_ble_eq_true rfl) (Nat.le_of_ble_eq_true rfl)) rfl hl.1 rfl (Nat.le_of_ble_eq_true rfl) d_law_564 ⟨Nat.le_of_ble_eq_true rfl, Nat.le_of_ble_eq_true rfl⟩ (fun H locs hL => ?_)
  refine lv_icmp_eq (tgt := 1426) hx hb d_law_567 (by decide) (fun _ => ?_) (fun c => absurd rfl c)
  exact K Mc' Mm' H locs hR' hL
set_option maxHeartbeats 4000000 in
theorem law_case_10 {p : Program} {e : Env} {s : State} {m : MethodId} {below : List Frame} {meth : Method} {c : Code} (l : Launch) {b L : Nat} {xs : Nat → Int32} {Q : State → Prop} (C0 : lw_At p s m meth c b L xs) {Zc Zm : WD} (hZ : LZ Zc Zm s) {Mc Mm : Mem} (hR : Rel Mc Mm) {H : Heap} {locs : List Loc} (hL : LW Zc Zm Mc Mm s H locs) {i : Int32} (hin : ∀ k, k < 6 → vp_in (i + nI k) L) {ls : Array Slot} (hl : lv_has ls 4 [(0, .ref b), (1, .ref (Zc.2.2.1 138)), (2, .ref (Zm.2.2.1 0)), (3, .int i)])
    (K : ∀ (Mc' Mm' : Mem) (H1 : Heap) (locs1 : List Loc), Rel Mc' Mm' → LW Zc Zm Mc' Mm' s H1 locs1 → W p l e room_1 s m #[Value.ref b] below meth c H1 locs1 600000 7302250 Q (F0 m 1426 ls [])) : W p l e room_1 s m #[Value.ref b] below meth c H locs 600000 7302250 Q (F0 m 572 ls []) := by
  obtain ⟨hx, hb, hr, hml, hown, hts, hX, hbl, hlocks, hgv⟩ := id C0
  have hbA : ¬ (fun q : Nat => s.heap.size ≤ q) b := Nat.not_le.mpr hbl
  have S : CallFix p m c code 4 s #[Value.ref b] gtb R_law := ⟨hx, hb, hml, hown, fun w hw => hts w (gt_sub w hw)⟩
  obtain ⟨hIc, hZc, hIm, hZm, -⟩ := id hZ
  obtain ⟨r, Mc', Mm', kc, km, hR'⟩ := k_trade l hIc hZc hIm hZm hR (xs (i + (1 : Int32)).toNatClampNeg) (xs (i + (2 : Int32)).toNatClampNeg)
  refine lv_aload_n hx hb d_law_572 rfl (lv_at hl 1 rfl) ?_
  refine lv_aload_n hx hb d_law_573 rfl (lv_at hl 0 rfl) ?_
  refine lv_iload_n hx hb d_law_574 rfl (lv_at hl 3 rfl) ?_
  refine lv_iconst (v := (1 : Int32)) hx hb d_law_575 (by decide) ?_
  refine lv_iadd hx hb d_law_576 ?_
  refine va_sld hx hb hX hbl hbA hL.2.2 (hin 1 (by decide)) d_law_577 ?_
  refine lv_aload_n hx hb d_law_578 rfl (lv_at hl 0 rfl) ?_
  refine lv_iload_n hx hb d_law_579 rfl (lv_at hl 3 rfl) ?_
  refine lv_iconst (v := (2 : Int32)) hx hb d_law_580 (by decide) ?_
  refine lv_iadd hx hb d_law_581 ?_
  refine va_sld hx hb hX hbl hbA hL.2.2 (hin 2 (by decide)) d_law_582 ?_
  refine law_cC (As := [.int (xs (i + (1 : Int32)).toNatClampNeg), .int (xs (i + (2 : Int32)).toNatClampNeg)]) (rest := []) S hZ hL kc (cw_Law_59 S.2.2.2.2 (Nat.le_of_ble_eq_true rfl) (Nat.le_of_ble_eq_true rfl)) rfl hl.1 rfl (Nat.le_of_ble_eq_true rfl) d_law_583 ⟨Nat.le_of_ble_eq_true rfl, Nat.le_of_ble_eq_true rfl⟩ (fun H locs hL => ?_)
  refine lv_aload_n hx hb d_law_586 rfl (lv_at hl 2 rfl) ?_
  refine lv_aload_n hx hb d_law_587 rfl (lv_at hl 0 rfl) ?_
  refine lv_iload_n hx hb d_law_588 rfl (lv_at hl 3 rfl) ?_
  refine lv_iconst (v := (1 : Int32)) hx hb d_law_589 (by decide) ?_
  refine lv_iadd hx hb d_law_590 ?_
  refine va_sld hx hb hX hbl hbA hL.2.2 (hin 1 (by decide)) d_law_591 ?_
  refine lv_aload_n hx hb d_law_592 rfl (lv_at hl 0 rfl) ?_
  refine lv_iload_n hx hb d_law_593 rfl (lv_at hl 3 rfl) ?_
  refine lv_iconst (v := (2 : Int32)) hx hb d_law_594 (by decide) ?_
  refine lv_iadd hx hb d_law_595 ?_
  refine va_sld hx hb hX hbl hbA hL.2.2 (hin 2 (by decide)) d_law_596 ?_
  refine law_cM (As := [.int (xs (i + (1 : Int32)).toNatClampNeg), .int (xs (i + (2 : Int32)).toNatClampNeg)]) (rest := [.int r]) S hZ hL km (cw_Law_62 S.2.2.2.2 (Nat.le_of_ble_eq_true rfl) (Nat.le_of_ble_eq_true rfl)) rfl hl.1 rfl (Nat.le_of_ble_eq_true rfl) d_law_597 ⟨Nat.le_of_ble_eq_true rfl, Nat.le_of_ble_eq_true rfl⟩ (fun H locs hL => ?_)
  refine lv_icmp_eq (tgt := 1426) hx hb d_law_600 (by decide) (fun _ => ?_) (fun c => absurd rfl c)
  exact K Mc' Mm' H locs hR' hL
set_option maxHeartbeats 4000000 in
theorem law_case_11 {p : Program} {e : Env} {s : State} {m : MethodId} {below : List Frame} {meth : Method} {c : Code} (l : Launch) {b L : Nat} {xs : Nat → Int32} {Q : State → Prop} (C0 : lw_At p s m meth c b L xs) {Zc Zm : WD} (hZ : LZ Zc Zm s) {Mc Mm : Mem} (hR : Rel Mc Mm) {H : Heap} {locs : List Loc} (hL : LW Zc Zm Mc Mm s H locs) {i : Int32} (hin : ∀ k, k < 6 → vp_in (i + nI k) L) {ls : Array Slot} (hl : lv_has ls 4 [(0, .ref b), (1, .ref (Zc.2.2.1 138)), (2, .ref (Zm.2.2.1 0)), (3, .int i)])
    (K : ∀ (Mc' Mm' : Mem) (H1 : Heap) (locs1 : List Loc), Rel Mc' Mm' → LW Zc Zm Mc' Mm' s H1 locs1 → W p l e room_1 s m #[Value.ref b] below meth c H1 locs1 600000 7302250 Q (F0 m 1426 ls [])) : W p l e room_1 s m #[Value.ref b] below meth c H locs 600000 7302250 Q (F0 m 605 ls []) := by
  obtain ⟨hx, hb, hr, hml, hown, hts, hX, hbl, hlocks, hgv⟩ := id C0
  have hbA : ¬ (fun q : Nat => s.heap.size ≤ q) b := Nat.not_le.mpr hbl
  have S : CallFix p m c code 4 s #[Value.ref b] gtb R_law := ⟨hx, hb, hml, hown, fun w hw => hts w (gt_sub w hw)⟩
  obtain ⟨hIc, hZc, hIm, hZm, -⟩ := id hZ
  obtain ⟨r, Mc', Mm', kc, km, hR'⟩ := k_undo l hIc hZc hIm hZm hR 
  refine lv_aload_n hx hb d_law_605 rfl (lv_at hl 1 rfl) ?_
  refine law_cC (As := []) (rest := []) S hZ hL kc (cw_Law_63 S.2.2.2.2 (Nat.le_of_ble_eq_true rfl) (Nat.le_of_ble_eq_true rfl)) rfl hl.1 rfl (Nat.le_of_ble_eq_true rfl) d_law_606 ⟨Nat.le_of_ble_eq_true rfl, Nat.le_of_ble_eq_true rfl⟩ (fun H locs hL => ?_)
  refine lv_aload_n hx hb d_law_609 rfl (lv_at hl 2 rfl) ?_
  refine law_cM (As := []) (rest := [.int r]) S hZ hL km (cw_Law_66 S.2.2.2.2 (Nat.le_of_ble_eq_true rfl) (Nat.le_of_ble_eq_true rfl)) rfl hl.1 rfl (Nat.le_of_ble_eq_true rfl) d_law_610 ⟨Nat.le_of_ble_eq_true rfl, Nat.le_of_ble_eq_true rfl⟩ (fun H locs hL => ?_)
  refine lv_icmp_eq (tgt := 1426) hx hb d_law_613 (by decide) (fun _ => ?_) (fun c => absurd rfl c)
  exact K Mc' Mm' H locs hR' hL
set_option maxHeartbeats 4000000 in
theorem law_case_12 {p : Program} {e : Env} {s : State} {m : MethodId} {below : List Frame} {meth : Method} {c : Code} (l : Launch) {b L : Nat} {xs : Nat → Int32} {Q : State → Prop} (C0 : lw_At p s m meth c b L xs) {Zc Zm : WD} (hZ : LZ Zc Zm s) {Mc Mm : Mem} (hR : Rel Mc Mm) {H : Heap} {locs : List Loc} (hL : LW Zc Zm Mc Mm s H locs) {i : Int32} (hin : ∀ k, k < 6 → vp_in (i + nI k) L) {ls : Array Slot} (hl : lv_has ls 4 [(0, .ref b), (1, .ref (Zc.2.2.1 138)), (2, .ref (Zm.2.2.1 0)), (3, .int i)])
    (K : ∀ (Mc' Mm' : Mem) (H1 : Heap) (locs1 : List Loc), Rel Mc' Mm' → LW Zc Zm Mc' Mm' s H1 locs1 → W p l e room_1 s m #[Value.ref b] below meth c H1 locs1 600000 7302250 Q (F0 m 1426 ls [])) : W p l e room_1 s m #[Value.ref b] below meth c H locs 600000 7302250 Q (F0 m 618 ls []) := by
  obtain ⟨hx, hb, hr, hml, hown, hts, hX, hbl, hlocks, hgv⟩ := id C0
  have hbA : ¬ (fun q : Nat => s.heap.size ≤ q) b := Nat.not_le.mpr hbl
  have S : CallFix p m c code 4 s #[Value.ref b] gtb R_law := ⟨hx, hb, hml, hown, fun w hw => hts w (gt_sub w hw)⟩
  obtain ⟨hIc, hZc, hIm, hZm, -⟩ := id hZ
  obtain ⟨r, Mc', Mm', kc, km, hR'⟩ := k_keep l hIc hZc hIm hZm hR (xs (i + (1 : Int32)).toNatClampNeg)
  refine lv_aload_n hx hb d_law_618 rfl (lv_at hl 1 rfl) ?_
  refine lv_aload_n hx hb d_law_619 rfl (lv_at hl 0 rfl) ?_
  refine lv_iload_n hx hb d_law_620 rfl (lv_at hl 3 rfl) ?_
  refine lv_iconst (v := (1 : Int32)) hx hb d_law_621 (by decide) ?_
  refine lv_iadd hx hb d_law_622 ?_
  refine va_sld hx hb hX hbl hbA hL.2.2 (hin 1 (by decide)) d_law_623 ?_
  refine law_cC (As := [.int (xs (i + (1 : Int32)).toNatClampNeg)]) (rest := []) S hZ hL kc (cw_Law_67 S.2.2.2.2 (Nat.le_of_ble_eq_true rfl) (Nat.le_of_ble_eq_true rfl)) rfl hl.1 rfl (Nat.le_of_ble_eq_true rfl) d_law_624 ⟨Nat.le_of_ble_eq_true rfl, Nat.le_of_ble_eq_true rfl⟩ (fun H locs hL => ?_)
  refine lv_aload_n hx hb d_law_627 rfl (lv_at hl 2 rfl) ?_
  refine lv_aload_n hx hb d_law_628 rfl (lv_at hl 0 rfl) ?_
  refine lv_iload_n hx hb d_law_629 rfl (lv_at hl 3 rfl) ?_
  refine lv_iconst (v := (1 : Int32)) hx hb d_law_630 (by decide) ?_
  refine lv_iadd hx hb d_law_631 ?_
  refine va_sld hx hb hX hbl hbA hL.2.2 (hin 1 (by decide)) d_law_632 ?_
  refine law_cM (As := [.int (xs (i + (1 : Int32)).toNatClampNeg)]) (rest := [.int r]) S hZ hL km (cw_Law_70 S.2.2.2.2 (Nat.le_of_ble_eq_true rfl) (Nat.le_of_ble_eq_true rfl)) rfl hl.1 rfl (Nat.le_of_ble_eq_true rfl) d_law_633 ⟨Nat.le_of_ble_eq_true rfl, Nat.le_of_ble_eq_true rfl⟩ (fun H locs hL => ?_)
  refine lv_icmp_eq (tgt := 1426) hx hb d_law_636 (by decide) (fun _ => ?_) (fun c => absurd rfl c)
  exact K Mc' Mm' H locs hR' hL
set_option maxHeartbeats 4000000 in
theorem law_case_13 {p : Program} {e : Env} {s : State} {m : MethodId} {below : List Frame} {meth : Method} {c : Code} (l : Launch) {b L : Nat} {xs : Nat → Int32} {Q : State → Prop} (C0 : lw_At p s m meth c b L xs) {Zc Zm : WD} (hZ : LZ Zc Zm s) {Mc Mm : Mem} (hR : Rel Mc Mm) {H : Heap} {locs : List Loc} (hL : LW Zc Zm Mc Mm s H locs) {i : Int32} (hin : ∀ k, k < 6 → vp_in (i + nI k) L) {ls : Array Slot} (hl : lv_has ls 4 [(0, .ref b), (1, .ref (Zc.2.2.1 138)), (2, .ref (Zm.2.2.1 0)), (3, .int i)])
    (K : ∀ (Mc' Mm' : Mem) (H1 : Heap) (locs1 : List Loc), Rel Mc' Mm' → LW Zc Zm Mc' Mm' s H1 locs1 → W p l e room_1 s m #[Value.ref b] below meth c H1 locs1 600000 7302250 Q (F0 m 1426 ls [])) : W p l e room_1 s m #[Value.ref b] below meth c H locs 600000 7302250 Q (F0 m 641 ls []) := by
  obtain ⟨hx, hb, hr, hml, hown, hts, hX, hbl, hlocks, hgv⟩ := id C0
  have hbA : ¬ (fun q : Nat => s.heap.size ≤ q) b := Nat.not_le.mpr hbl
  have S : CallFix p m c code 4 s #[Value.ref b] gtb R_law := ⟨hx, hb, hml, hown, fun w hw => hts w (gt_sub w hw)⟩
  obtain ⟨hIc, hZc, hIm, hZm, -⟩ := id hZ
  obtain ⟨r, Mc', Mm', kc, km, hR'⟩ := k_back l hIc hZc hIm hZm hR (xs (i + (1 : Int32)).toNatClampNeg)
  refine lv_aload_n hx hb d_law_641 rfl (lv_at hl 1 rfl) ?_
  refine lv_aload_n hx hb d_law_642 rfl (lv_at hl 0 rfl) ?_
  refine lv_iload_n hx hb d_law_643 rfl (lv_at hl 3 rfl) ?_
  refine lv_iconst (v := (1 : Int32)) hx hb d_law_644 (by decide) ?_
  refine lv_iadd hx hb d_law_645 ?_
  refine va_sld hx hb hX hbl hbA hL.2.2 (hin 1 (by decide)) d_law_646 ?_
  refine law_cC (As := [.int (xs (i + (1 : Int32)).toNatClampNeg)]) (rest := []) S hZ hL kc (cw_Law_71 S.2.2.2.2 (Nat.le_of_ble_eq_true rfl) (Nat.le_of_ble_eq_true rfl)) rfl hl.1 rfl (Nat.le_of_ble_eq_true rfl) d_law_647 ⟨Nat.le_of_ble_eq_true rfl, Nat.le_of_ble_eq_true rfl⟩ (fun H locs hL => ?_)
  refine lv_aload_n hx hb d_law_650 rfl (lv_at hl 2 rfl) ?_
  refine lv_aload_n hx hb d_law_651 rfl (lv_at hl 0 rfl) ?_
  refine lv_iload_n hx hb d_law_652 rfl (lv_at hl 3 rfl) ?_
  refine lv_iconst (v := (1 : Int32)) hx hb d_law_653 (by decide) ?_
  refine lv_iadd hx hb d_law_654 ?_
  refine va_sld hx hb hX hbl hbA hL.2.2 (hin 1 (by decide)) d_law_655 ?_
  refine law_cM (As := [.int (xs (i + (1 : Int32)).toNatClampNeg)]) (rest := [.int r]) S hZ hL km (cw_Law_74 S.2.2.2.2 (Nat.le_of_ble_eq_true rfl) (Nat.le_of_ble_eq_true rfl)) rfl hl.1 rfl (Nat.le_of_ble_eq_true rfl) d_law_656 ⟨Nat.le_of_ble_eq_true rfl, Nat.le_of_ble_eq_true rfl⟩ (fun H locs hL => ?_)
  refine lv_icmp_eq (tgt := 1426) hx hb d_law_659 (by decide) (fun _ => ?_) (fun c => absurd rfl c)
  exact K Mc' Mm' H locs hR' hL
set_option maxHeartbeats 4000000 in
theorem law_case_14 {p : Program} {e : Env} {s : State} {m : MethodId} {below : List Frame} {meth : Method} {c : Code} (l : Launch) {b L : Nat} {xs : Nat → Int32} {Q : State → Prop} (C0 : lw_At p s m meth c b L xs) {Zc Zm : WD} (hZ : LZ Zc Zm s) {Mc Mm : Mem} (hR : Rel Mc Mm) {H : Heap} {locs : List Loc} (hL : LW Zc Zm Mc Mm s H locs) {i : Int32} (hin : ∀ k, k < 6 → vp_in (i + nI k) L) {ls : Array Slot} (hl : lv_has ls 4 [(0, .ref b), (1, .ref (Zc.2.2.1 138)), (2, .ref (Zm.2.2.1 0)), (3, .int i)])
    (K : ∀ (Mc' Mm' : Mem) (H1 : Heap) (locs1 : List Loc), Rel Mc' Mm' → LW Zc Zm Mc' Mm' s H1 locs1 → W p l e room_1 s m #[Value.ref b] below meth c H1 locs1 600000 7302250 Q (F0 m 1426 ls [])) : W p l e room_1 s m #[Value.ref b] below meth c H locs 600000 7302250 Q (F0 m 664 ls []) := by
  obtain ⟨hx, hb, hr, hml, hown, hts, hX, hbl, hlocks, hgv⟩ := id C0
  have hbA : ¬ (fun q : Nat => s.heap.size ≤ q) b := Nat.not_le.mpr hbl
  have S : CallFix p m c code 4 s #[Value.ref b] gtb R_law := ⟨hx, hb, hml, hown, fun w hw => hts w (gt_sub w hw)⟩
  obtain ⟨hIc, hZc, hIm, hZm, -⟩ := id hZ
  obtain ⟨r, Mc', Mm', kc, km, hR'⟩ := k_set l hIc hZc hIm hZm hR (xs (i + (1 : Int32)).toNatClampNeg) (xs (i + (2 : Int32)).toNatClampNeg)
  refine lv_aload_n hx hb d_law_664 rfl (lv_at hl 1 rfl) ?_
  refine lv_aload_n hx hb d_law_665 rfl (lv_at hl 0 rfl) ?_
  refine lv_iload_n hx hb d_law_666 rfl (lv_at hl 3 rfl) ?_
  refine lv_iconst (v := (1 : Int32)) hx hb d_law_667 (by decide) ?_
  refine lv_iadd hx hb d_law_668 ?_
  refine va_sld hx hb hX hbl hbA hL.2.2 (hin 1 (by decide)) d_law_669 ?_
  refine lv_aload_n hx hb d_law_670 rfl (lv_at hl 0 rfl) ?_
  refine lv_iload_n hx hb d_law_671 rfl (lv_at hl 3 rfl) ?_
  refine lv_iconst (v := (2 : Int32)) hx hb d_law_672 (by decide) ?_
  refine lv_iadd hx hb d_law_673 ?_
  refine va_sld hx hb hX hbl hbA hL.2.2 (hin 2 (by decide)) d_law_674 ?_
  refine law_cC (As := [.int (xs (i + (1 : Int32)).toNatClampNeg), .int (xs (i + (2 : Int32)).toNatClampNeg)]) (rest := []) S hZ hL kc (cw_Law_75 S.2.2.2.2 (Nat.le_of_ble_eq_true rfl) (Nat.le_of_ble_eq_true rfl)) rfl hl.1 rfl (Nat.le_of_ble_eq_true rfl) d_law_675 ⟨Nat.le_of_ble_eq_true rfl, Nat.le_of_ble_eq_true rfl⟩ (fun H locs hL => ?_)
  refine lv_aload_n hx hb d_law_678 rfl (lv_at hl 2 rfl) ?_
  refine lv_aload_n hx hb d_law_679 rfl (lv_at hl 0 rfl) ?_
  refine lv_iload_n hx hb d_law_680 rfl (lv_at hl 3 rfl) ?_
  refine lv_iconst (v := (1 : Int32)) hx hb d_law_681 (by decide) ?_
  refine lv_iadd hx hb d_law_682 ?_
  refine va_sld hx hb hX hbl hbA hL.2.2 (hin 1 (by decide)) d_law_683 ?_
  refine lv_aload_n hx hb d_law_684 rfl (lv_at hl 0 rfl) ?_
  refine lv_iload_n hx hb d_law_685 rfl (lv_at hl 3 rfl) ?_
  refine lv_iconst (v := (2 : Int32)) hx hb d_law_686 (by decide) ?_
  refine lv_iadd hx hb d_law_687 ?_
  refine va_sld hx hb hX hbl hbA hL.2.2 (hin 2 (by decide)) d_law_688 ?_
  refine law_cM (As := [.int (xs (i + (1 : Int32)).toNatClampNeg), .int (xs (i + (2 : Int32)).toNatClampNeg)]) (rest := [.int r]) S hZ hL km (cw_Law_78 S.2.2.2.2 (Nat.le_of_ble_eq_true rfl) (Nat.le_of_ble_eq_true rfl)) rfl hl.1 rfl (Nat.le_of_ble_eq_true rfl) d_law_689 ⟨Nat.le_of_ble_eq_true rfl, Nat.le_of_ble_eq_true rfl⟩ (fun H locs hL => ?_)
  refine lv_icmp_eq (tgt := 1426) hx hb d_law_692 (by decide) (fun _ => ?_) (fun c => absurd rfl c)
  exact K Mc' Mm' H locs hR' hL
set_option maxHeartbeats 4000000 in
theorem law_case_15 {p : Program} {e : Env} {s : State} {m : MethodId} {below : List Frame} {meth : Method} {c : Code} (l : Launch) {b L : Nat} {xs : Nat → Int32} {Q : State → Prop} (C0 : lw_At p s m meth c b L xs) {Zc Zm : WD} (hZ : LZ Zc Zm s) {Mc Mm : Mem} (hR : Rel Mc Mm) {H : Heap} {locs : List Loc} (hL : LW Zc Zm Mc Mm s H locs) {i : Int32} (hin : ∀ k, k < 6 → vp_in (i + nI k) L) {ls : Array Slot} (hl : lv_has ls 4 [(0, .ref b), (1, .ref (Zc.2.2.1 138)), (2, .ref (Zm.2.2.1 0)), (3, .int i)])
    (K : ∀ (Mc' Mm' : Mem) (H1 : Heap) (locs1 : List Loc), Rel Mc' Mm' → LW Zc Zm Mc' Mm' s H1 locs1 → W p l e room_1 s m #[Value.ref b] below meth c H1 locs1 600000 7302250 Q (F0 m 1426 ls [])) : W p l e room_1 s m #[Value.ref b] below meth c H locs 600000 7302250 Q (F0 m 697 ls []) := by
  obtain ⟨hx, hb, hr, hml, hown, hts, hX, hbl, hlocks, hgv⟩ := id C0
  have hbA : ¬ (fun q : Nat => s.heap.size ≤ q) b := Nat.not_le.mpr hbl
  have S : CallFix p m c code 4 s #[Value.ref b] gtb R_law := ⟨hx, hb, hml, hown, fun w hw => hts w (gt_sub w hw)⟩
  obtain ⟨hIc, hZc, hIm, hZm, -⟩ := id hZ
  obtain ⟨r, Mc', Mm', kc, km, hR'⟩ := k_decision l hIc hZc hIm hZm hR (xs (i + (1 : Int32)).toNatClampNeg)
  refine lv_aload_n hx hb d_law_697 rfl (lv_at hl 1 rfl) ?_
  refine lv_aload_n hx hb d_law_698 rfl (lv_at hl 0 rfl) ?_
  refine lv_iload_n hx hb d_law_699 rfl (lv_at hl 3 rfl) ?_
  refine lv_iconst (v := (1 : Int32)) hx hb d_law_700 (by decide) ?_
  refine lv_iadd hx hb d_law_701 ?_
  refine va_sld hx hb hX hbl hbA hL.2.2 (hin 1 (by decide)) d_law_702 ?_
  refine law_cC (As := [.int (xs (i + (1 : Int32)).toNatClampNeg)]) (rest := []) S hZ hL kc (cw_Law_79 S.2.2.2.2 (Nat.le_of_ble_eq_true rfl) (Nat.le_of_ble_eq_true rfl)) rfl hl.1 rfl (Nat.le_of_ble_eq_true rfl) d_law_703 ⟨Nat.le_of_ble_eq_true rfl, Nat.le_of_ble_eq_true rfl⟩ (fun H locs hL => ?_)
  refine lv_aload_n hx hb d_law_706 rfl (lv_at hl 2 rfl) ?_
  refine lv_aload_n hx hb d_law_707 rfl (lv_at hl 0 rfl) ?_
  refine lv_iload_n hx hb d_law_708 rfl (lv_at hl 3 rfl) ?_
  refine lv_iconst (v := (1 : Int32)) hx hb d_law_709 (by decide) ?_
  refine lv_iadd hx hb d_law_710 ?_
  refine va_sld hx hb hX hbl hbA hL.2.2 (hin 1 (by decide)) d_law_711 ?_
  refine law_cM (As := [.int (xs (i + (1 : Int32)).toNatClampNeg)]) (rest := [.int r]) S hZ hL km (cw_Law_82 S.2.2.2.2 (Nat.le_of_ble_eq_true rfl) (Nat.le_of_ble_eq_true rfl)) rfl hl.1 rfl (Nat.le_of_ble_eq_true rfl) d_law_712 ⟨Nat.le_of_ble_eq_true rfl, Nat.le_of_ble_eq_true rfl⟩ (fun H locs hL => ?_)
  refine lv_icmp_eq (tgt := 1426) hx hb d_law_715 (by decide) (fun _ => ?_) (fun c => absurd rfl c)
  exact K Mc' Mm' H locs hR' hL
set_option maxHeartbeats 4000000 in
theorem law_case_16 {p : Program} {e : Env} {s : State} {m : MethodId} {below : List Frame} {meth : Method} {c : Code} (l : Launch) {b L : Nat} {xs : Nat → Int32} {Q : State → Prop} (C0 : lw_At p s m meth c b L xs) {Zc Zm : WD} (hZ : LZ Zc Zm s) {Mc Mm : Mem} (hR : Rel Mc Mm) {H : Heap} {locs : List Loc} (hL : LW Zc Zm Mc Mm s H locs) {i : Int32} (hin : ∀ k, k < 6 → vp_in (i + nI k) L) {ls : Array Slot} (hl : lv_has ls 4 [(0, .ref b), (1, .ref (Zc.2.2.1 138)), (2, .ref (Zm.2.2.1 0)), (3, .int i)])
    (K : ∀ (Mc' Mm' : Mem) (H1 : Heap) (locs1 : List Loc), Rel Mc' Mm' → LW Zc Zm Mc' Mm' s H1 locs1 → W p l e room_1 s m #[Value.ref b] below meth c H1 locs1 600000 7302250 Q (F0 m 1426 ls [])) : W p l e room_1 s m #[Value.ref b] below meth c H locs 600000 7302250 Q (F0 m 720 ls []) := by
  obtain ⟨hx, hb, hr, hml, hown, hts, hX, hbl, hlocks, hgv⟩ := id C0
  have hbA : ¬ (fun q : Nat => s.heap.size ≤ q) b := Nat.not_le.mpr hbl
  have S : CallFix p m c code 4 s #[Value.ref b] gtb R_law := ⟨hx, hb, hml, hown, fun w hw => hts w (gt_sub w hw)⟩
  obtain ⟨hIc, hZc, hIm, hZm, -⟩ := id hZ
  obtain ⟨r, Mc', Mm', kc, km, hR'⟩ := k_extracted l hIc hZc hIm hZm hR (xs (i + (1 : Int32)).toNatClampNeg) (xs (i + (2 : Int32)).toNatClampNeg) (xs (i + (3 : Int32)).toNatClampNeg)
  refine lv_aload_n hx hb d_law_720 rfl (lv_at hl 1 rfl) ?_
  refine lv_aload_n hx hb d_law_721 rfl (lv_at hl 0 rfl) ?_
  refine lv_iload_n hx hb d_law_722 rfl (lv_at hl 3 rfl) ?_
  refine lv_iconst (v := (1 : Int32)) hx hb d_law_723 (by decide) ?_
  refine lv_iadd hx hb d_law_724 ?_
  refine va_sld hx hb hX hbl hbA hL.2.2 (hin 1 (by decide)) d_law_725 ?_
  refine lv_aload_n hx hb d_law_726 rfl (lv_at hl 0 rfl) ?_
  refine lv_iload_n hx hb d_law_727 rfl (lv_at hl 3 rfl) ?_
  refine lv_iconst (v := (2 : Int32)) hx hb d_law_728 (by decide) ?_
  refine lv_iadd hx hb d_law_729 ?_
  refine va_sld hx hb hX hbl hbA hL.2.2 (hin 2 (by decide)) d_law_730 ?_
  refine lv_aload_n hx hb d_law_731 rfl (lv_at hl 0 rfl) ?_
  refine lv_iload_n hx hb d_law_732 rfl (lv_at hl 3 rfl) ?_
  refine lv_iconst (v := (3 : Int32)) hx hb d_law_733 (by decide) ?_
  refine lv_iadd hx hb d_law_734 ?_
  refine va_sld hx hb hX hbl hbA hL.2.2 (hin 3 (by decide)) d_law_735 ?_
  refine law_cC (As := [.int (xs (i + (1 : Int32)).toNatClampNeg), .int (xs (i + (2 : Int32)).toNatClampNeg), .int (xs (i + (3 : Int32)).toNatClampNeg)]) (rest := []) S hZ hL kc (cw_Law_83 S.2.2.2.2 (Nat.le_of_ble_eq_true rfl) (Nat.le_of_ble_eq_true rfl)) rfl hl.1 rfl (Nat.le_of_ble_eq_true rfl) d_law_736 ⟨Nat.le_of_ble_eq_true rfl, Nat.le_of_ble_eq_true rfl⟩ (fun H locs hL => ?_)
  refine lv_aload_n hx hb d_law_739 rfl (lv_at hl 2 rfl) ?_
  refine lv_aload_n hx hb d_law_740 rfl (lv_at hl 0 rfl) ?_
  refine lv_iload_n hx hb d_law_741 rfl (lv_at hl 3 rfl) ?_
  refine lv_iconst (v := (1 : Int32)) hx hb d_law_742 (by decide) ?_
  refine lv_iadd hx hb d_law_743 ?_
  refine va_sld hx hb hX hbl hbA hL.2.2 (hin 1 (by decide)) d_law_744 ?_
  refine lv_aload_n hx hb d_law_745 rfl (lv_at hl 0 rfl) ?_
  refine lv_iload_n hx hb d_law_746 rfl (lv_at hl 3 rfl) ?_
  refine lv_iconst (v := (2 : Int32)) hx hb d_law_747 (by decide) ?_
  refine lv_iadd hx hb d_law_748 ?_
  refine va_sld hx hb hX hbl hbA hL.2.2 (hin 2 (by decide)) d_law_749 ?_
  refine lv_aload_n hx hb d_law_750 rfl (lv_at hl 0 rfl) ?_
  refine lv_iload_n hx hb d_law_751 rfl (lv_at hl 3 rfl) ?_
  refine lv_iconst (v := (3 : Int32)) hx hb d_law_752 (by decide) ?_
  refine lv_iadd hx hb d_law_753 ?_
  refine va_sld hx hb hX hbl hbA hL.2.2 (hin 3 (by decide)) d_law_754 ?_
  refine law_cM (As := [.int (xs (i + (1 : Int32)).toNatClampNeg), .int (xs (i + (2 : Int32)).toNatClampNeg), .int (xs (i + (3 : Int32)).toNatClampNeg)]) (rest := [.int r]) S hZ hL km (cw_Law_86 S.2.2.2.2 (Nat.le_of_ble_eq_true rfl) (Nat.le_of_ble_eq_true rfl)) rfl hl.1 rfl (Nat.le_of_ble_eq_true rfl) d_law_755 ⟨Nat.le_of_ble_eq_true rfl, Nat.le_of_ble_eq_true rfl⟩ (fun H locs hL => ?_)
  refine lv_icmp_eq (tgt := 1426) hx hb d_law_758 (by decide) (fun _ => ?_) (fun c => absurd rfl c)
  exact K Mc' Mm' H locs hR' hL
set_option maxHeartbeats 4000000 in
theorem law_case_17 {p : Program} {e : Env} {s : State} {m : MethodId} {below : List Frame} {meth : Method} {c : Code} (l : Launch) {b L : Nat} {xs : Nat → Int32} {Q : State → Prop} (C0 : lw_At p s m meth c b L xs) {Zc Zm : WD} (hZ : LZ Zc Zm s) {Mc Mm : Mem} (hR : Rel Mc Mm) {H : Heap} {locs : List Loc} (hL : LW Zc Zm Mc Mm s H locs) {i : Int32} (hin : ∀ k, k < 6 → vp_in (i + nI k) L) {ls : Array Slot} (hl : lv_has ls 4 [(0, .ref b), (1, .ref (Zc.2.2.1 138)), (2, .ref (Zm.2.2.1 0)), (3, .int i)])
    (K : ∀ (Mc' Mm' : Mem) (H1 : Heap) (locs1 : List Loc), Rel Mc' Mm' → LW Zc Zm Mc' Mm' s H1 locs1 → W p l e room_1 s m #[Value.ref b] below meth c H1 locs1 600000 7302250 Q (F0 m 1426 ls [])) : W p l e room_1 s m #[Value.ref b] below meth c H locs 600000 7302250 Q (F0 m 763 ls []) := by
  obtain ⟨hx, hb, hr, hml, hown, hts, hX, hbl, hlocks, hgv⟩ := id C0
  have hbA : ¬ (fun q : Nat => s.heap.size ≤ q) b := Nat.not_le.mpr hbl
  have S : CallFix p m c code 4 s #[Value.ref b] gtb R_law := ⟨hx, hb, hml, hown, fun w hw => hts w (gt_sub w hw)⟩
  obtain ⟨hIc, hZc, hIm, hZm, -⟩ := id hZ
  obtain ⟨r, Mc', Mm', kc, km, hR'⟩ := k_letter l hIc hZc hIm hZm hR (xs (i + (1 : Int32)).toNatClampNeg) (xs (i + (2 : Int32)).toNatClampNeg)
  refine lv_aload_n hx hb d_law_763 rfl (lv_at hl 1 rfl) ?_
  refine lv_aload_n hx hb d_law_764 rfl (lv_at hl 0 rfl) ?_
  refine lv_iload_n hx hb d_law_765 rfl (lv_at hl 3 rfl) ?_
  refine lv_iconst (v := (1 : Int32)) hx hb d_law_766 (by decide) ?_
  refine lv_iadd hx hb d_law_767 ?_
  refine va_sld hx hb hX hbl hbA hL.2.2 (hin 1 (by decide)) d_law_768 ?_
  refine lv_aload_n hx hb d_law_769 rfl (lv_at hl 0 rfl) ?_
  refine lv_iload_n hx hb d_law_770 rfl (lv_at hl 3 rfl) ?_
  refine lv_iconst (v := (2 : Int32)) hx hb d_law_771 (by decide) ?_
  refine lv_iadd hx hb d_law_772 ?_
  refine va_sld hx hb hX hbl hbA hL.2.2 (hin 2 (by decide)) d_law_773 ?_
  refine law_cC (As := [.int (xs (i + (1 : Int32)).toNatClampNeg), .int (xs (i + (2 : Int32)).toNatClampNeg)]) (rest := []) S hZ hL kc (cw_Law_87 S.2.2.2.2 (Nat.le_of_ble_eq_true rfl) (Nat.le_of_ble_eq_true rfl)) rfl hl.1 rfl (Nat.le_of_ble_eq_true rfl) d_law_774 ⟨Nat.le_of_ble_eq_true rfl, Nat.le_of_ble_eq_true rfl⟩ (fun H locs hL => ?_)
  refine lv_aload_n hx hb d_law_777 rfl (lv_at hl 2 rfl) ?_
  refine lv_aload_n hx hb d_law_778 rfl (lv_at hl 0 rfl) ?_
  refine lv_iload_n hx hb d_law_779 rfl (lv_at hl 3 rfl) ?_
  refine lv_iconst (v := (1 : Int32)) hx hb d_law_780 (by decide) ?_
  refine lv_iadd hx hb d_law_781 ?_
  refine va_sld hx hb hX hbl hbA hL.2.2 (hin 1 (by decide)) d_law_782 ?_
  refine lv_aload_n hx hb d_law_783 rfl (lv_at hl 0 rfl) ?_
  refine lv_iload_n hx hb d_law_784 rfl (lv_at hl 3 rfl) ?_
  refine lv_iconst (v := (2 : Int32)) hx hb d_law_785 (by decide) ?_
  refine lv_iadd hx hb d_law_786 ?_
  refine va_sld hx hb hX hbl hbA hL.2.2 (hin 2 (by decide)) d_law_787 ?_
  refine law_cM (As := [.int (xs (i + (1 : Int32)).toNatClampNeg), .int (xs (i + (2 : Int32)).toNatClampNeg)]) (rest := [.int r]) S hZ hL km (cw_Law_90 S.2.2.2.2 (Nat.le_of_ble_eq_true rfl) (Nat.le_of_ble_eq_true rfl)) rfl hl.1 rfl (Nat.le_of_ble_eq_true rfl) d_law_788 ⟨Nat.le_of_ble_eq_true rfl, Nat.le_of_ble_eq_true rfl⟩ (fun H locs hL => ?_)
  refine lv_icmp_eq (tgt := 1426) hx hb d_law_791 (by decide) (fun _ => ?_) (fun c => absurd rfl c)
  exact K Mc' Mm' H locs hR' hL
set_option maxHeartbeats 4000000 in
theorem law_case_18 {p : Program} {e : Env} {s : State} {m : MethodId} {below : List Frame} {meth : Method} {c : Code} (l : Launch) {b L : Nat} {xs : Nat → Int32} {Q : State → Prop} (C0 : lw_At p s m meth c b L xs) {Zc Zm : WD} (hZ : LZ Zc Zm s) {Mc Mm : Mem} (hR : Rel Mc Mm) {H : Heap} {locs : List Loc} (hL : LW Zc Zm Mc Mm s H locs) {i : Int32} (hin : ∀ k, k < 6 → vp_in (i + nI k) L) {ls : Array Slot} (hl : lv_has ls 4 [(0, .ref b), (1, .ref (Zc.2.2.1 138)), (2, .ref (Zm.2.2.1 0)), (3, .int i)])
    (K : ∀ (Mc' Mm' : Mem) (H1 : Heap) (locs1 : List Loc), Rel Mc' Mm' → LW Zc Zm Mc' Mm' s H1 locs1 → W p l e room_1 s m #[Value.ref b] below meth c H1 locs1 600000 7302250 Q (F0 m 1426 ls [])) : W p l e room_1 s m #[Value.ref b] below meth c H locs 600000 7302250 Q (F0 m 796 ls []) := by
  obtain ⟨hx, hb, hr, hml, hown, hts, hX, hbl, hlocks, hgv⟩ := id C0
  have hbA : ¬ (fun q : Nat => s.heap.size ≤ q) b := Nat.not_le.mpr hbl
  have S : CallFix p m c code 4 s #[Value.ref b] gtb R_law := ⟨hx, hb, hml, hown, fun w hw => hts w (gt_sub w hw)⟩
  obtain ⟨hIc, hZc, hIm, hZm, -⟩ := id hZ
  obtain ⟨r, Mc', Mm', kc, km, hR'⟩ := k_mark l hIc hZc hIm hZm hR (xs (i + (1 : Int32)).toNatClampNeg) (xs (i + (2 : Int32)).toNatClampNeg)
  refine lv_aload_n hx hb d_law_796 rfl (lv_at hl 1 rfl) ?_
  refine lv_aload_n hx hb d_law_797 rfl (lv_at hl 0 rfl) ?_
  refine lv_iload_n hx hb d_law_798 rfl (lv_at hl 3 rfl) ?_
  refine lv_iconst (v := (1 : Int32)) hx hb d_law_799 (by decide) ?_
  refine lv_iadd hx hb d_law_800 ?_
  refine va_sld hx hb hX hbl hbA hL.2.2 (hin 1 (by decide)) d_law_801 ?_
  refine lv_aload_n hx hb d_law_802 rfl (lv_at hl 0 rfl) ?_
  refine lv_iload_n hx hb d_law_803 rfl (lv_at hl 3 rfl) ?_
  refine lv_iconst (v := (2 : Int32)) hx hb d_law_804 (by decide) ?_
  refine lv_iadd hx hb d_law_805 ?_
  refine va_sld hx hb hX hbl hbA hL.2.2 (hin 2 (by decide)) d_law_806 ?_
  refine law_cC (As := [.int (xs (i + (1 : Int32)).toNatClampNeg), .int (xs (i + (2 : Int32)).toNatClampNeg)]) (rest := []) S hZ hL kc (cw_Law_91 S.2.2.2.2 (Nat.le_of_ble_eq_true rfl) (Nat.le_of_ble_eq_true rfl)) rfl hl.1 rfl (Nat.le_of_ble_eq_true rfl) d_law_807 ⟨Nat.le_of_ble_eq_true rfl, Nat.le_of_ble_eq_true rfl⟩ (fun H locs hL => ?_)
  refine lv_aload_n hx hb d_law_810 rfl (lv_at hl 2 rfl) ?_
  refine lv_aload_n hx hb d_law_811 rfl (lv_at hl 0 rfl) ?_
  refine lv_iload_n hx hb d_law_812 rfl (lv_at hl 3 rfl) ?_
  refine lv_iconst (v := (1 : Int32)) hx hb d_law_813 (by decide) ?_
  refine lv_iadd hx hb d_law_814 ?_
  refine va_sld hx hb hX hbl hbA hL.2.2 (hin 1 (by decide)) d_law_815 ?_
  refine lv_aload_n hx hb d_law_816 rfl (lv_at hl 0 rfl) ?_
  refine lv_iload_n hx hb d_law_817 rfl (lv_at hl 3 rfl) ?_
  refine lv_iconst (v := (2 : Int32)) hx hb d_law_818 (by decide) ?_
  refine lv_iadd hx hb d_law_819 ?_
  refine va_sld hx hb hX hbl hbA hL.2.2 (hin 2 (by decide)) d_law_820 ?_
  refine law_cM (As := [.int (xs (i + (1 : Int32)).toNatClampNeg), .int (xs (i + (2 : Int32)).toNatClampNeg)]) (rest := [.int r]) S hZ hL km (cw_Law_94 S.2.2.2.2 (Nat.le_of_ble_eq_true rfl) (Nat.le_of_ble_eq_true rfl)) rfl hl.1 rfl (Nat.le_of_ble_eq_true rfl) d_law_821 ⟨Nat.le_of_ble_eq_true rfl, Nat.le_of_ble_eq_true rfl⟩ (fun H locs hL => ?_)
  refine lv_icmp_eq (tgt := 1426) hx hb d_law_824 (by decide) (fun _ => ?_) (fun c => absurd rfl c)
  exact K Mc' Mm' H locs hR' hL
set_option maxHeartbeats 4000000 in
theorem law_case_19 {p : Program} {e : Env} {s : State} {m : MethodId} {below : List Frame} {meth : Method} {c : Code} (l : Launch) {b L : Nat} {xs : Nat → Int32} {Q : State → Prop} (C0 : lw_At p s m meth c b L xs) {Zc Zm : WD} (hZ : LZ Zc Zm s) {Mc Mm : Mem} (hR : Rel Mc Mm) {H : Heap} {locs : List Loc} (hL : LW Zc Zm Mc Mm s H locs) {i : Int32} (hin : ∀ k, k < 6 → vp_in (i + nI k) L) {ls : Array Slot} (hl : lv_has ls 4 [(0, .ref b), (1, .ref (Zc.2.2.1 138)), (2, .ref (Zm.2.2.1 0)), (3, .int i)])
    (K : ∀ (Mc' Mm' : Mem) (H1 : Heap) (locs1 : List Loc), Rel Mc' Mm' → LW Zc Zm Mc' Mm' s H1 locs1 → W p l e room_1 s m #[Value.ref b] below meth c H1 locs1 600000 7302250 Q (F0 m 1426 ls [])) : W p l e room_1 s m #[Value.ref b] below meth c H locs 600000 7302250 Q (F0 m 829 ls []) := by
  obtain ⟨hx, hb, hr, hml, hown, hts, hX, hbl, hlocks, hgv⟩ := id C0
  have hbA : ¬ (fun q : Nat => s.heap.size ≤ q) b := Nat.not_le.mpr hbl
  have S : CallFix p m c code 4 s #[Value.ref b] gtb R_law := ⟨hx, hb, hml, hown, fun w hw => hts w (gt_sub w hw)⟩
  obtain ⟨hIc, hZc, hIm, hZm, -⟩ := id hZ
  obtain ⟨r, Mc', Mm', kc, km, hR'⟩ := k_packed l hIc hZc hIm hZm hR (xs (i + (1 : Int32)).toNatClampNeg)
  refine lv_aload_n hx hb d_law_829 rfl (lv_at hl 1 rfl) ?_
  refine lv_aload_n hx hb d_law_830 rfl (lv_at hl 0 rfl) ?_
  refine lv_iload_n hx hb d_law_831 rfl (lv_at hl 3 rfl) ?_
  refine lv_iconst (v := (1 : Int32)) hx hb d_law_832 (by decide) ?_
  refine lv_iadd hx hb d_law_833 ?_
  refine va_sld hx hb hX hbl hbA hL.2.2 (hin 1 (by decide)) d_law_834 ?_
  refine law_cCl (As := [.int (xs (i + (1 : Int32)).toNatClampNeg)]) (rest := []) S hZ hL kc (cw_Law_95 S.2.2.2.2 (Nat.le_of_ble_eq_true rfl) (Nat.le_of_ble_eq_true rfl)) rfl hl.1 rfl (Nat.le_of_ble_eq_true rfl) d_law_835 ⟨Nat.le_of_ble_eq_true rfl, Nat.le_of_ble_eq_true rfl⟩ (fun H locs hL => ?_)
  refine lv_aload_n hx hb d_law_838 rfl (lv_at hl 2 rfl) ?_
  refine lv_aload_n hx hb d_law_839 rfl (lv_at hl 0 rfl) ?_
  refine lv_iload_n hx hb d_law_840 rfl (lv_at hl 3 rfl) ?_
  refine lv_iconst (v := (1 : Int32)) hx hb d_law_841 (by decide) ?_
  refine lv_iadd hx hb d_law_842 ?_
  refine va_sld hx hb hX hbl hbA hL.2.2 (hin 1 (by decide)) d_law_843 ?_
  refine law_cMl (As := [.int (xs (i + (1 : Int32)).toNatClampNeg)]) (rest := [.long r]) S hZ hL km (cw_Law_99 S.2.2.2.2 (Nat.le_of_ble_eq_true rfl) (Nat.le_of_ble_eq_true rfl)) rfl hl.1 rfl (Nat.le_of_ble_eq_true rfl) d_law_844 ⟨Nat.le_of_ble_eq_true rfl, Nat.le_of_ble_eq_true rfl⟩ (fun H locs hL => ?_)
  refine W.lcmp hx hb d_law_847 ?_
  refine lv_if_eq (tgt := 1426) hx hb d_law_848 (by decide) (fun _ => ?_) (fun c => absurd (lg_self r) c)
  exact K Mc' Mm' H locs hR' hL
set_option maxHeartbeats 4000000 in
theorem law_case_20 {p : Program} {e : Env} {s : State} {m : MethodId} {below : List Frame} {meth : Method} {c : Code} (l : Launch) {b L : Nat} {xs : Nat → Int32} {Q : State → Prop} (C0 : lw_At p s m meth c b L xs) {Zc Zm : WD} (hZ : LZ Zc Zm s) {Mc Mm : Mem} (hR : Rel Mc Mm) {H : Heap} {locs : List Loc} (hL : LW Zc Zm Mc Mm s H locs) {i : Int32} (hin : ∀ k, k < 6 → vp_in (i + nI k) L) {ls : Array Slot} (hl : lv_has ls 4 [(0, .ref b), (1, .ref (Zc.2.2.1 138)), (2, .ref (Zm.2.2.1 0)), (3, .int i)])
    (K : ∀ (Mc' Mm' : Mem) (H1 : Heap) (locs1 : List Loc), Rel Mc' Mm' → LW Zc Zm Mc' Mm' s H1 locs1 → W p l e room_1 s m #[Value.ref b] below meth c H1 locs1 600000 7302250 Q (F0 m 1426 ls [])) : W p l e room_1 s m #[Value.ref b] below meth c H locs 600000 7302250 Q (F0 m 853 ls []) := by
  obtain ⟨hx, hb, hr, hml, hown, hts, hX, hbl, hlocks, hgv⟩ := id C0
  have hbA : ¬ (fun q : Nat => s.heap.size ≤ q) b := Nat.not_le.mpr hbl
  have S : CallFix p m c code 4 s #[Value.ref b] gtb R_law := ⟨hx, hb, hml, hown, fun w hw => hts w (gt_sub w hw)⟩
  obtain ⟨hIc, hZc, hIm, hZm, -⟩ := id hZ
  obtain ⟨r, Mc', Mm', kc, km, hR'⟩ := k_open l hIc hZc hIm hZm hR (((xs (i + (1 : Int32)).toNatClampNeg).toInt64 <<< ((32 : Int32).toInt64 &&& 63)) ||| ((xs (i + (2 : Int32)).toNatClampNeg).toInt64 &&& (4294967295 : Int64))) (xs (i + (3 : Int32)).toNatClampNeg)
  refine lv_aload_n hx hb d_law_853 rfl (lv_at hl 1 rfl) ?_
  refine lv_aload_n hx hb d_law_854 rfl (lv_at hl 0 rfl) ?_
  refine lv_iload_n hx hb d_law_855 rfl (lv_at hl 3 rfl) ?_
  refine lv_iconst (v := (1 : Int32)) hx hb d_law_856 (by decide) ?_
  refine lv_iadd hx hb d_law_857 ?_
  refine va_sld hx hb hX hbl hbA hL.2.2 (hin 1 (by decide)) d_law_858 ?_
  refine lv_i2l hx hb d_law_859 rfl ?_
  refine lv_bipush (v := (32 : Int32)) hx hb d_law_860 (by decide) ?_
  refine lv_lshl hx hb d_law_862 rfl ?_
  refine lv_aload_n hx hb d_law_863 rfl (lv_at hl 0 rfl) ?_
  refine lv_iload_n hx hb d_law_864 rfl (lv_at hl 3 rfl) ?_
  refine lv_iconst (v := (2 : Int32)) hx hb d_law_865 (by decide) ?_
  refine lv_iadd hx hb d_law_866 ?_
  refine va_sld hx hb hX hbl hbA hL.2.2 (hin 2 (by decide)) d_law_867 ?_
  refine lv_i2l hx hb d_law_868 rfl ?_
  refine lv_ldc2 (v := (4294967295 : Int64)) hx hb hown (hts _ (gt_sub _ w6_223)) d_law_869 ?_
  refine lv_land hx hb d_law_872 ?_
  refine lv_lor hx hb d_law_873 ?_
  refine lv_aload_n hx hb d_law_874 rfl (lv_at hl 0 rfl) ?_
  refine lv_iload_n hx hb d_law_875 rfl (lv_at hl 3 rfl) ?_
  refine lv_iconst (v := (3 : Int32)) hx hb d_law_876 (by decide) ?_
  refine lv_iadd hx hb d_law_877 ?_
  refine va_sld hx hb hX hbl hbA hL.2.2 (hin 3 (by decide)) d_law_878 ?_
  refine law_cC (As := [.long (((xs (i + (1 : Int32)).toNatClampNeg).toInt64 <<< ((32 : Int32).toInt64 &&& 63)) ||| ((xs (i + (2 : Int32)).toNatClampNeg).toInt64 &&& (4294967295 : Int64))), .int (xs (i + (3 : Int32)).toNatClampNeg)]) (rest := []) S hZ hL kc (cw_Law_102 S.2.2.2.2 (Nat.le_of_ble_eq_true rfl) (Nat.le_of_ble_eq_true rfl)) rfl hl.1 rfl (Nat.le_of_ble_eq_true rfl) d_law_879 ⟨Nat.le_of_ble_eq_true rfl, Nat.le_of_ble_eq_true rfl⟩ (fun H locs hL => ?_)
  refine lv_aload_n hx hb d_law_882 rfl (lv_at hl 2 rfl) ?_
  refine lv_aload_n hx hb d_law_883 rfl (lv_at hl 0 rfl) ?_
  refine lv_iload_n hx hb d_law_884 rfl (lv_at hl 3 rfl) ?_
  refine lv_iconst (v := (1 : Int32)) hx hb d_law_885 (by decide) ?_
  refine lv_iadd hx hb d_law_886 ?_
  refine va_sld hx hb hX hbl hbA hL.2.2 (hin 1 (by decide)) d_law_887 ?_
  refine lv_i2l hx hb d_law_888 rfl ?_
  refine lv_bipush (v := (32 : Int32)) hx hb d_law_889 (by decide) ?_
  refine lv_lshl hx hb d_law_891 rfl ?_
  refine lv_aload_n hx hb d_law_892 rfl (lv_at hl 0 rfl) ?_
  refine lv_iload_n hx hb d_law_893 rfl (lv_at hl 3 rfl) ?_
  refine lv_iconst (v := (2 : Int32)) hx hb d_law_894 (by decide) ?_
  refine lv_iadd hx hb d_law_895 ?_
  refine va_sld hx hb hX hbl hbA hL.2.2 (hin 2 (by decide)) d_law_896 ?_
  refine lv_i2l hx hb d_law_897 rfl ?_
  refine lv_ldc2 (v := (4294967295 : Int64)) hx hb hown (hts _ (gt_sub _ w6_223)) d_law_898 ?_
  refine lv_land hx hb d_law_901 ?_
  refine lv_lor hx hb d_law_902 ?_
  refine lv_aload_n hx hb d_law_903 rfl (lv_at hl 0 rfl) ?_
  refine lv_iload_n hx hb d_law_904 rfl (lv_at hl 3 rfl) ?_
  refine lv_iconst (v := (3 : Int32)) hx hb d_law_905 (by decide) ?_
  refine lv_iadd hx hb d_law_906 ?_
  refine va_sld hx hb hX hbl hbA hL.2.2 (hin 3 (by decide)) d_law_907 ?_
  refine law_cM (As := [.long (((xs (i + (1 : Int32)).toNatClampNeg).toInt64 <<< ((32 : Int32).toInt64 &&& 63)) ||| ((xs (i + (2 : Int32)).toNatClampNeg).toInt64 &&& (4294967295 : Int64))), .int (xs (i + (3 : Int32)).toNatClampNeg)]) (rest := [.int r]) S hZ hL km (cw_Law_106 S.2.2.2.2 (Nat.le_of_ble_eq_true rfl) (Nat.le_of_ble_eq_true rfl)) rfl hl.1 rfl (Nat.le_of_ble_eq_true rfl) d_law_908 ⟨Nat.le_of_ble_eq_true rfl, Nat.le_of_ble_eq_true rfl⟩ (fun H locs hL => ?_)
  refine lv_icmp_eq (tgt := 1426) hx hb d_law_911 (by decide) (fun _ => ?_) (fun c => absurd rfl c)
  exact K Mc' Mm' H locs hR' hL
