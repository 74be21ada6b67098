/-! the law: each of its cases -/
set_option maxHeartbeats 4000000 in
theorem law_case_21 {p : Program} {e : Env} {s : State} {m : MethodId} {below : List Frame} {meth : Method} {c : Code} (l : Launch) {b L : Nat} {xs : Nat → Int32} {Q : State → Prop} (C0 : lw_At p s m meth c b L xs) {Zc Zm : WD} (hZ : LZ Zc Zm s) {Mc Mm : Mem} (hR : Rel Mc Mm) {H : Heap} {locs : List Loc} (hL : LW Zc Zm Mc Mm s H locs) {i : Int32} (hin : ∀ k, k < 6 → vp_in (i + nI k) L) {ls : Array Slot} (hl : lv_has ls 4 [(0, .ref b), (1, .ref (Zc.2.2.1 138)), (2, .ref (Zm.2.2.1 0)), (3, .int i)])
    (K : ∀ (Mc' Mm' : Mem) (H1 : Heap) (locs1 : List Loc), Rel Mc' Mm' → LW Zc Zm Mc' Mm' s H1 locs1 → W p l e room_1 s m #[Value.ref b] below meth c H1 locs1 600000 7302250 Q (F0 m 1426 ls [])) : W p l e room_1 s m #[Value.ref b] below meth c H locs 600000 7302250 Q (F0 m 916 ls []) := by
  obtain ⟨hx, hb, hr, hml, hown, hts, hX, hbl, hlocks, hgv⟩ := id C0
  have hbA : ¬ (fun q : Nat => s.heap.size ≤ q) b := Nat.not_le.mpr hbl
  have S : CallFix p m c code 4 s #[Value.ref b] gtb R_law := ⟨hx, hb, hml, hown, fun w hw => hts w (gt_sub w hw)⟩
  obtain ⟨hIc, hZc, hIm, hZm, -⟩ := id hZ
  obtain ⟨r, Mc', Mm', kc, km, hR'⟩ := k_sent l hIc hZc hIm hZm hR (xs (i + (1 : Int32)).toNatClampNeg)
  refine lv_aload_n hx hb d_law_916 rfl (lv_at hl 1 rfl) ?_
  refine lv_aload_n hx hb d_law_917 rfl (lv_at hl 0 rfl) ?_
  refine lv_iload_n hx hb d_law_918 rfl (lv_at hl 3 rfl) ?_
  refine lv_iconst (v := (1 : Int32)) hx hb d_law_919 (by decide) ?_
  refine lv_iadd hx hb d_law_920 ?_
  refine va_sld hx hb hX hbl hbA hL.2.2 (hin 1 (by decide)) d_law_921 ?_
  refine law_cC (As := [.int (xs (i + (1 : Int32)).toNatClampNeg)]) (rest := []) S hZ hL kc (cw_Law_107 S.2.2.2.2 (Nat.le_of_ble_eq_true rfl) (Nat.le_of_ble_eq_true rfl)) rfl hl.1 rfl (Nat.le_of_ble_eq_true rfl) d_law_922 ⟨Nat.le_of_ble_eq_true rfl, Nat.le_of_ble_eq_true rfl⟩ (fun H locs hL => ?_)
  refine lv_aload_n hx hb d_law_925 rfl (lv_at hl 2 rfl) ?_
  refine lv_aload_n hx hb d_law_926 rfl (lv_at hl 0 rfl) ?_
  refine lv_iload_n hx hb d_law_927 rfl (lv_at hl 3 rfl) ?_
  refine lv_iconst (v := (1 : Int32)) hx hb d_law_928 (by decide) ?_
  refine lv_iadd hx hb d_law_929 ?_
  refine va_sld hx hb hX hbl hbA hL.2.2 (hin 1 (by decide)) d_law_930 ?_
  refine law_cM (As := [.int (xs (i + (1 : Int32)).toNatClampNeg)]) (rest := [.int r]) S hZ hL km (cw_Law_110 S.2.2.2.2 (Nat.le_of_ble_eq_true rfl) (Nat.le_of_ble_eq_true rfl)) rfl hl.1 rfl (Nat.le_of_ble_eq_true rfl) d_law_931 ⟨Nat.le_of_ble_eq_true rfl, Nat.le_of_ble_eq_true rfl⟩ (fun H locs hL => ?_)
  refine lv_icmp_eq (tgt := 1426) hx hb d_law_934 (by decide) (fun _ => ?_) (fun c => absurd rfl c)
  exact K Mc' Mm' H locs hR' hL
set_option maxHeartbeats 4000000 in
theorem law_case_22 {p : Program} {e : Env} {s : State} {m : MethodId} {below : List Frame} {meth : Method} {c : Code} (l : Launch) {b L : Nat} {xs : Nat → Int32} {Q : State → Prop} (C0 : lw_At p s m meth c b L xs) {Zc Zm : WD} (hZ : LZ Zc Zm s) {Mc Mm : Mem} (hR : Rel Mc Mm) {H : Heap} {locs : List Loc} (hL : LW Zc Zm Mc Mm s H locs) {i : Int32} (hin : ∀ k, k < 6 → vp_in (i + nI k) L) {ls : Array Slot} (hl : lv_has ls 4 [(0, .ref b), (1, .ref (Zc.2.2.1 138)), (2, .ref (Zm.2.2.1 0)), (3, .int i)])
    (K : ∀ (Mc' Mm' : Mem) (H1 : Heap) (locs1 : List Loc), Rel Mc' Mm' → LW Zc Zm Mc' Mm' s H1 locs1 → W p l e room_1 s m #[Value.ref b] below meth c H1 locs1 600000 7302250 Q (F0 m 1426 ls [])) : W p l e room_1 s m #[Value.ref b] below meth c H locs 600000 7302250 Q (F0 m 939 ls []) := by
  obtain ⟨hx, hb, hr, hml, hown, hts, hX, hbl, hlocks, hgv⟩ := id C0
  have hbA : ¬ (fun q : Nat => s.heap.size ≤ q) b := Nat.not_le.mpr hbl
  have S : CallFix p m c code 4 s #[Value.ref b] gtb R_law := ⟨hx, hb, hml, hown, fun w hw => hts w (gt_sub w hw)⟩
  obtain ⟨hIc, hZc, hIm, hZm, -⟩ := id hZ
  obtain ⟨r, Mc', Mm', kc, km, hR'⟩ := k_forged l hIc hZc hIm hZm hR (xs (i + (1 : Int32)).toNatClampNeg)
  refine lv_aload_n hx hb d_law_939 rfl (lv_at hl 1 rfl) ?_
  refine lv_aload_n hx hb d_law_940 rfl (lv_at hl 0 rfl) ?_
  refine lv_iload_n hx hb d_law_941 rfl (lv_at hl 3 rfl) ?_
  refine lv_iconst (v := (1 : Int32)) hx hb d_law_942 (by decide) ?_
  refine lv_iadd hx hb d_law_943 ?_
  refine va_sld hx hb hX hbl hbA hL.2.2 (hin 1 (by decide)) d_law_944 ?_
  refine law_cC (As := [.int (xs (i + (1 : Int32)).toNatClampNeg)]) (rest := []) S hZ hL kc (cw_Law_111 S.2.2.2.2 (Nat.le_of_ble_eq_true rfl) (Nat.le_of_ble_eq_true rfl)) rfl hl.1 rfl (Nat.le_of_ble_eq_true rfl) d_law_945 ⟨Nat.le_of_ble_eq_true rfl, Nat.le_of_ble_eq_true rfl⟩ (fun H locs hL => ?_)
  refine lv_aload_n hx hb d_law_948 rfl (lv_at hl 2 rfl) ?_
  refine lv_aload_n hx hb d_law_949 rfl (lv_at hl 0 rfl) ?_
  refine lv_iload_n hx hb d_law_950 rfl (lv_at hl 3 rfl) ?_
  refine lv_iconst (v := (1 : Int32)) hx hb d_law_951 (by decide) ?_
  refine lv_iadd hx hb d_law_952 ?_
  refine va_sld hx hb hX hbl hbA hL.2.2 (hin 1 (by decide)) d_law_953 ?_
  refine law_cM (As := [.int (xs (i + (1 : Int32)).toNatClampNeg)]) (rest := [.int r]) S hZ hL km (cw_Law_114 S.2.2.2.2 (Nat.le_of_ble_eq_true rfl) (Nat.le_of_ble_eq_true rfl)) rfl hl.1 rfl (Nat.le_of_ble_eq_true rfl) d_law_954 ⟨Nat.le_of_ble_eq_true rfl, Nat.le_of_ble_eq_true rfl⟩ (fun H locs hL => ?_)
  refine lv_icmp_eq (tgt := 1426) hx hb d_law_957 (by decide) (fun _ => ?_) (fun c => absurd rfl c)
  exact K Mc' Mm' H locs hR' hL
set_option maxHeartbeats 4000000 in
theorem law_case_23 {p : Program} {e : Env} {s : State} {m : MethodId} {below : List Frame} {meth : Method} {c : Code} (l : Launch) {b L : Nat} {xs : Nat → Int32} {Q : State → Prop} (C0 : lw_At p s m meth c b L xs) {Zc Zm : WD} (hZ : LZ Zc Zm s) {Mc Mm : Mem} (hR : Rel Mc Mm) {H : Heap} {locs : List Loc} (hL : LW Zc Zm Mc Mm s H locs) {i : Int32} (hin : ∀ k, k < 6 → vp_in (i + nI k) L) {ls : Array Slot} (hl : lv_has ls 4 [(0, .ref b), (1, .ref (Zc.2.2.1 138)), (2, .ref (Zm.2.2.1 0)), (3, .int i)])
    (K : ∀ (Mc' Mm' : Mem) (H1 : Heap) (locs1 : List Loc), Rel Mc' Mm' → LW Zc Zm Mc' Mm' s H1 locs1 → W p l e room_1 s m #[Value.ref b] below meth c H1 locs1 600000 7302250 Q (F0 m 1426 ls [])) : W p l e room_1 s m #[Value.ref b] below meth c H locs 600000 7302250 Q (F0 m 962 ls []) := by
  obtain ⟨hx, hb, hr, hml, hown, hts, hX, hbl, hlocks, hgv⟩ := id C0
  have hbA : ¬ (fun q : Nat => s.heap.size ≤ q) b := Nat.not_le.mpr hbl
  have S : CallFix p m c code 4 s #[Value.ref b] gtb R_law := ⟨hx, hb, hml, hown, fun w hw => hts w (gt_sub w hw)⟩
  obtain ⟨hIc, hZc, hIm, hZm, -⟩ := id hZ
  obtain ⟨r, Mc', Mm', kc, km, hR'⟩ := k_known l hIc hZc hIm hZm hR (xs (i + (1 : Int32)).toNatClampNeg) (xs (i + (2 : Int32)).toNatClampNeg)
  refine lv_aload_n hx hb d_law_962 rfl (lv_at hl 1 rfl) ?_
  refine lv_aload_n hx hb d_law_963 rfl (lv_at hl 0 rfl) ?_
  refine lv_iload_n hx hb d_law_964 rfl (lv_at hl 3 rfl) ?_
  refine lv_iconst (v := (1 : Int32)) hx hb d_law_965 (by decide) ?_
  refine lv_iadd hx hb d_law_966 ?_
  refine va_sld hx hb hX hbl hbA hL.2.2 (hin 1 (by decide)) d_law_967 ?_
  refine lv_aload_n hx hb d_law_968 rfl (lv_at hl 0 rfl) ?_
  refine lv_iload_n hx hb d_law_969 rfl (lv_at hl 3 rfl) ?_
  refine lv_iconst (v := (2 : Int32)) hx hb d_law_970 (by decide) ?_
  refine lv_iadd hx hb d_law_971 ?_
  refine va_sld hx hb hX hbl hbA hL.2.2 (hin 2 (by decide)) d_law_972 ?_
  refine law_cC (As := [.int (xs (i + (1 : Int32)).toNatClampNeg), .int (xs (i + (2 : Int32)).toNatClampNeg)]) (rest := []) S hZ hL kc (cw_Law_115 S.2.2.2.2 (Nat.le_of_ble_eq_true rfl) (Nat.le_of_ble_eq_true rfl)) rfl hl.1 rfl (Nat.le_of_ble_eq_true rfl) d_law_973 ⟨Nat.le_of_ble_eq_true rfl, Nat.le_of_ble_eq_true rfl⟩ (fun H locs hL => ?_)
  refine lv_aload_n hx hb d_law_976 rfl (lv_at hl 2 rfl) ?_
  refine lv_aload_n hx hb d_law_977 rfl (lv_at hl 0 rfl) ?_
  refine lv_iload_n hx hb d_law_978 rfl (lv_at hl 3 rfl) ?_
  refine lv_iconst (v := (1 : Int32)) hx hb d_law_979 (by decide) ?_
  refine lv_iadd hx hb d_law_980 ?_
  refine va_sld hx hb hX hbl hbA hL.2.2 (hin 1 (by decide)) d_law_981 ?_
  refine lv_aload_n hx hb d_law_982 rfl (lv_at hl 0 rfl) ?_
  refine lv_iload_n hx hb d_law_983 rfl (lv_at hl 3 rfl) ?_
  refine lv_iconst (v := (2 : Int32)) hx hb d_law_984 (by decide) ?_
  refine lv_iadd hx hb d_law_985 ?_
  refine va_sld hx hb hX hbl hbA hL.2.2 (hin 2 (by decide)) d_law_986 ?_
  refine law_cM (As := [.int (xs (i + (1 : Int32)).toNatClampNeg), .int (xs (i + (2 : Int32)).toNatClampNeg)]) (rest := [.int r]) S hZ hL km (cw_Law_118 S.2.2.2.2 (Nat.le_of_ble_eq_true rfl) (Nat.le_of_ble_eq_true rfl)) rfl hl.1 rfl (Nat.le_of_ble_eq_true rfl) d_law_987 ⟨Nat.le_of_ble_eq_true rfl, Nat.le_of_ble_eq_true rfl⟩ (fun H locs hL => ?_)
  refine lv_icmp_eq (tgt := 1426) hx hb d_law_990 (by decide) (fun _ => ?_) (fun c => absurd rfl c)
  exact K Mc' Mm' H locs hR' hL
set_option maxHeartbeats 4000000 in
theorem law_case_24 {p : Program} {e : Env} {s : State} {m : MethodId} {below : List Frame} {meth : Method} {c : Code} (l : Launch) {b L : Nat} {xs : Nat → Int32} {Q : State → Prop} (C0 : lw_At p s m meth c b L xs) {Zc Zm : WD} (hZ : LZ Zc Zm s) {Mc Mm : Mem} (hR : Rel Mc Mm) {H : Heap} {locs : List Loc} (hL : LW Zc Zm Mc Mm s H locs) {i : Int32} (hin : ∀ k, k < 6 → vp_in (i + nI k) L) {ls : Array Slot} (hl : lv_has ls 4 [(0, .ref b), (1, .ref (Zc.2.2.1 138)), (2, .ref (Zm.2.2.1 0)), (3, .int i)])
    (K : ∀ (Mc' Mm' : Mem) (H1 : Heap) (locs1 : List Loc), Rel Mc' Mm' → LW Zc Zm Mc' Mm' s H1 locs1 → W p l e room_1 s m #[Value.ref b] below meth c H1 locs1 600000 7302250 Q (F0 m 1426 ls [])) : W p l e room_1 s m #[Value.ref b] below meth c H locs 600000 7302250 Q (F0 m 995 ls []) := by
  obtain ⟨hx, hb, hr, hml, hown, hts, hX, hbl, hlocks, hgv⟩ := id C0
  have hbA : ¬ (fun q : Nat => s.heap.size ≤ q) b := Nat.not_le.mpr hbl
  have S : CallFix p m c code 4 s #[Value.ref b] gtb R_law := ⟨hx, hb, hml, hown, fun w hw => hts w (gt_sub w hw)⟩
  obtain ⟨hIc, hZc, hIm, hZm, -⟩ := id hZ
  obtain ⟨r, Mc', Mm', kc, km, hR'⟩ := k_alike l hIc hZc hIm hZm hR 
  refine lv_aload_n hx hb d_law_995 rfl (lv_at hl 1 rfl) ?_
  refine law_cC (As := []) (rest := []) S hZ hL kc (cw_Law_119 S.2.2.2.2 (Nat.le_of_ble_eq_true rfl) (Nat.le_of_ble_eq_true rfl)) rfl hl.1 rfl (Nat.le_of_ble_eq_true rfl) d_law_996 ⟨Nat.le_of_ble_eq_true rfl, Nat.le_of_ble_eq_true rfl⟩ (fun H locs hL => ?_)
  refine lv_aload_n hx hb d_law_999 rfl (lv_at hl 2 rfl) ?_
  refine law_cM (As := []) (rest := [.int r]) S hZ hL km (cw_Law_122 S.2.2.2.2 (Nat.le_of_ble_eq_true rfl) (Nat.le_of_ble_eq_true rfl)) rfl hl.1 rfl (Nat.le_of_ble_eq_true rfl) d_law_1000 ⟨Nat.le_of_ble_eq_true rfl, Nat.le_of_ble_eq_true rfl⟩ (fun H locs hL => ?_)
  refine lv_icmp_eq (tgt := 1426) hx hb d_law_1003 (by decide) (fun _ => ?_) (fun c => absurd rfl c)
  exact K Mc' Mm' H locs hR' hL
set_option maxHeartbeats 4000000 in
theorem law_case_25 {p : Program} {e : Env} {s : State} {m : MethodId} {below : List Frame} {meth : Method} {c : Code} (l : Launch) {b L : Nat} {xs : Nat → Int32} {Q : State → Prop} (C0 : lw_At p s m meth c b L xs) {Zc Zm : WD} (hZ : LZ Zc Zm s) {Mc Mm : Mem} (hR : Rel Mc Mm) {H : Heap} {locs : List Loc} (hL : LW Zc Zm Mc Mm s H locs) {i : Int32} (hin : ∀ k, k < 6 → vp_in (i + nI k) L) {ls : Array Slot} (hl : lv_has ls 4 [(0, .ref b), (1, .ref (Zc.2.2.1 138)), (2, .ref (Zm.2.2.1 0)), (3, .int i)])
    (K : ∀ (Mc' Mm' : Mem) (H1 : Heap) (locs1 : List Loc), Rel Mc' Mm' → LW Zc Zm Mc' Mm' s H1 locs1 → W p l e room_1 s m #[Value.ref b] below meth c H1 locs1 600000 7302250 Q (F0 m 1426 ls [])) : W p l e room_1 s m #[Value.ref b] below meth c H locs 600000 7302250 Q (F0 m 1008 ls []) := by
  obtain ⟨hx, hb, hr, hml, hown, hts, hX, hbl, hlocks, hgv⟩ := id C0
  have hbA : ¬ (fun q : Nat => s.heap.size ≤ q) b := Nat.not_le.mpr hbl
  have S : CallFix p m c code 4 s #[Value.ref b] gtb R_law := ⟨hx, hb, hml, hown, fun w hw => hts w (gt_sub w hw)⟩
  obtain ⟨hIc, hZc, hIm, hZm, -⟩ := id hZ
  obtain ⟨r, Mc', Mm', kc, km, hR'⟩ := k_valid l hIc hZc hIm hZm hR 
  refine lv_aload_n hx hb d_law_1008 rfl (lv_at hl 1 rfl) ?_
  refine law_cC (As := []) (rest := []) S hZ hL kc (cw_Law_123 S.2.2.2.2 (Nat.le_of_ble_eq_true rfl) (Nat.le_of_ble_eq_true rfl)) rfl hl.1 rfl (Nat.le_of_ble_eq_true rfl) d_law_1009 ⟨Nat.le_of_ble_eq_true rfl, Nat.le_of_ble_eq_true rfl⟩ (fun H locs hL => ?_)
  refine lv_aload_n hx hb d_law_1012 rfl (lv_at hl 2 rfl) ?_
  refine law_cM (As := []) (rest := [.int r]) S hZ hL km (cw_Law_126 S.2.2.2.2 (Nat.le_of_ble_eq_true rfl) (Nat.le_of_ble_eq_true rfl)) rfl hl.1 rfl (Nat.le_of_ble_eq_true rfl) d_law_1013 ⟨Nat.le_of_ble_eq_true rfl, Nat.le_of_ble_eq_true rfl⟩ (fun H locs hL => ?_)
  refine lv_icmp_eq (tgt := 1426) hx hb d_law_1016 (by decide) (fun _ => ?_) (fun c => absurd rfl c)
  exact K Mc' Mm' H locs hR' hL
set_option maxHeartbeats 4000000 in
theorem law_case_26 {p : Program} {e : Env} {s : State} {m : MethodId} {below : List Frame} {meth : Method} {c : Code} (l : Launch) {b L : Nat} {xs : Nat → Int32} {Q : State → Prop} (C0 : lw_At p s m meth c b L xs) {Zc Zm : WD} (hZ : LZ Zc Zm s) {Mc Mm : Mem} (hR : Rel Mc Mm) {H : Heap} {locs : List Loc} (hL : LW Zc Zm Mc Mm s H locs) {i : Int32} (hin : ∀ k, k < 6 → vp_in (i + nI k) L) {ls : Array Slot} (hl : lv_has ls 4 [(0, .ref b), (1, .ref (Zc.2.2.1 138)), (2, .ref (Zm.2.2.1 0)), (3, .int i)])
    (K : ∀ (Mc' Mm' : Mem) (H1 : Heap) (locs1 : List Loc), Rel Mc' Mm' → LW Zc Zm Mc' Mm' s H1 locs1 → W p l e room_1 s m #[Value.ref b] below meth c H1 locs1 600000 7302250 Q (F0 m 1426 ls [])) : W p l e room_1 s m #[Value.ref b] below meth c H locs 600000 7302250 Q (F0 m 1021 ls []) := by
  obtain ⟨hx, hb, hr, hml, hown, hts, hX, hbl, hlocks, hgv⟩ := id C0
  have hbA : ¬ (fun q : Nat => s.heap.size ≤ q) b := Nat.not_le.mpr hbl
  have S : CallFix p m c code 4 s #[Value.ref b] gtb R_law := ⟨hx, hb, hml, hown, fun w hw => hts w (gt_sub w hw)⟩
  obtain ⟨hIc, hZc, hIm, hZm, -⟩ := id hZ
  obtain ⟨r, Mc', Mm', kc, km, hR'⟩ := k_sound l hIc hZc hIm hZm hR 
  refine lv_aload_n hx hb d_law_1021 rfl (lv_at hl 1 rfl) ?_
  refine law_cC (As := []) (rest := []) S hZ hL kc (cw_Law_127 S.2.2.2.2 (Nat.le_of_ble_eq_true rfl) (Nat.le_of_ble_eq_true rfl)) rfl hl.1 rfl (Nat.le_of_ble_eq_true rfl) d_law_1022 ⟨Nat.le_of_ble_eq_true rfl, Nat.le_of_ble_eq_true rfl⟩ (fun H locs hL => ?_)
  refine lv_aload_n hx hb d_law_1025 rfl (lv_at hl 2 rfl) ?_
  refine law_cM (As := []) (rest := [.int r]) S hZ hL km (cw_Law_130 S.2.2.2.2 (Nat.le_of_ble_eq_true rfl) (Nat.le_of_ble_eq_true rfl)) rfl hl.1 rfl (Nat.le_of_ble_eq_true rfl) d_law_1026 ⟨Nat.le_of_ble_eq_true rfl, Nat.le_of_ble_eq_true rfl⟩ (fun H locs hL => ?_)
  refine lv_icmp_eq (tgt := 1426) hx hb d_law_1029 (by decide) (fun _ => ?_) (fun c => absurd rfl c)
  exact K Mc' Mm' H locs hR' hL
set_option maxHeartbeats 4000000 in
theorem law_case_27 {p : Program} {e : Env} {s : State} {m : MethodId} {below : List Frame} {meth : Method} {c : Code} (l : Launch) {b L : Nat} {xs : Nat → Int32} {Q : State → Prop} (C0 : lw_At p s m meth c b L xs) {Zc Zm : WD} (hZ : LZ Zc Zm s) {Mc Mm : Mem} (hR : Rel Mc Mm) {H : Heap} {locs : List Loc} (hL : LW Zc Zm Mc Mm s H locs) {i : Int32} (hin : ∀ k, k < 6 → vp_in (i + nI k) L) {ls : Array Slot} (hl : lv_has ls 4 [(0, .ref b), (1, .ref (Zc.2.2.1 138)), (2, .ref (Zm.2.2.1 0)), (3, .int i)])
    (K : ∀ (Mc' Mm' : Mem) (H1 : Heap) (locs1 : List Loc), Rel Mc' Mm' → LW Zc Zm Mc' Mm' s H1 locs1 → W p l e room_1 s m #[Value.ref b] below meth c H1 locs1 600000 7302250 Q (F0 m 1426 ls [])) : W p l e room_1 s m #[Value.ref b] below meth c H locs 600000 7302250 Q (F0 m 1034 ls []) := by
  obtain ⟨hx, hb, hr, hml, hown, hts, hX, hbl, hlocks, hgv⟩ := id C0
  have hbA : ¬ (fun q : Nat => s.heap.size ≤ q) b := Nat.not_le.mpr hbl
  have S : CallFix p m c code 4 s #[Value.ref b] gtb R_law := ⟨hx, hb, hml, hown, fun w hw => hts w (gt_sub w hw)⟩
  obtain ⟨hIc, hZc, hIm, hZm, -⟩ := id hZ
  obtain ⟨r, Mc', Mm', kc, km, hR'⟩ := k_parted l hIc hZc hIm hZm hR 
  refine lv_aload_n hx hb d_law_1034 rfl (lv_at hl 1 rfl) ?_
  refine law_cC (As := []) (rest := []) S hZ hL kc (cw_Law_131 S.2.2.2.2 (Nat.le_of_ble_eq_true rfl) (Nat.le_of_ble_eq_true rfl)) rfl hl.1 rfl (Nat.le_of_ble_eq_true rfl) d_law_1035 ⟨Nat.le_of_ble_eq_true rfl, Nat.le_of_ble_eq_true rfl⟩ (fun H locs hL => ?_)
  refine lv_aload_n hx hb d_law_1038 rfl (lv_at hl 2 rfl) ?_
  refine law_cM (As := []) (rest := [.int r]) S hZ hL km (cw_Law_134 S.2.2.2.2 (Nat.le_of_ble_eq_true rfl) (Nat.le_of_ble_eq_true rfl)) rfl hl.1 rfl (Nat.le_of_ble_eq_true rfl) d_law_1039 ⟨Nat.le_of_ble_eq_true rfl, Nat.le_of_ble_eq_true rfl⟩ (fun H locs hL => ?_)
  refine lv_icmp_eq (tgt := 1426) hx hb d_law_1042 (by decide) (fun _ => ?_) (fun c => absurd rfl c)
  exact K Mc' Mm' H locs hR' hL
set_option maxHeartbeats 4000000 in
theorem law_case_28 {p : Program} {e : Env} {s : State} {m : MethodId} {below : List Frame} {meth : Method} {c : Code} (l : Launch) {b L : Nat} {xs : Nat → Int32} {Q : State → Prop} (C0 : lw_At p s m meth c b L xs) {Zc Zm : WD} (hZ : LZ Zc Zm s) {Mc Mm : Mem} (hR : Rel Mc Mm) {H : Heap} {locs : List Loc} (hL : LW Zc Zm Mc Mm s H locs) {i : Int32} (hin : ∀ k, k < 6 → vp_in (i + nI k) L) {ls : Array Slot} (hl : lv_has ls 4 [(0, .ref b), (1, .ref (Zc.2.2.1 138)), (2, .ref (Zm.2.2.1 0)), (3, .int i)])
    (K : ∀ (Mc' Mm' : Mem) (H1 : Heap) (locs1 : List Loc), Rel Mc' Mm' → LW Zc Zm Mc' Mm' s H1 locs1 → W p l e room_1 s m #[Value.ref b] below meth c H1 locs1 600000 7302250 Q (F0 m 1426 ls [])) : W p l e room_1 s m #[Value.ref b] below meth c H locs 600000 7302250 Q (F0 m 1047 ls []) := by
  obtain ⟨hx, hb, hr, hml, hown, hts, hX, hbl, hlocks, hgv⟩ := id C0
  have hbA : ¬ (fun q : Nat => s.heap.size ≤ q) b := Nat.not_le.mpr hbl
  have S : CallFix p m c code 4 s #[Value.ref b] gtb R_law := ⟨hx, hb, hml, hown, fun w hw => hts w (gt_sub w hw)⟩
  obtain ⟨hIc, hZc, hIm, hZm, -⟩ := id hZ
  obtain ⟨r, Mc', Mm', kc, km, hR'⟩ := k_slack l hIc hZc hIm hZm hR (xs (i + (1 : Int32)).toNatClampNeg) (xs (i + (2 : Int32)).toNatClampNeg) (xs (i + (3 : Int32)).toNatClampNeg)
  refine lv_aload_n hx hb d_law_1047 rfl (lv_at hl 1 rfl) ?_
  refine lv_aload_n hx hb d_law_1048 rfl (lv_at hl 0 rfl) ?_
  refine lv_iload_n hx hb d_law_1049 rfl (lv_at hl 3 rfl) ?_
  refine lv_iconst (v := (1 : Int32)) hx hb d_law_1050 (by decide) ?_
  refine lv_iadd hx hb d_law_1051 ?_
  refine va_sld hx hb hX hbl hbA hL.2.2 (hin 1 (by decide)) d_law_1052 ?_
  refine lv_aload_n hx hb d_law_1053 rfl (lv_at hl 0 rfl) ?_
  refine lv_iload_n hx hb d_law_1054 rfl (lv_at hl 3 rfl) ?_
  refine lv_iconst (v := (2 : Int32)) hx hb d_law_1055 (by decide) ?_
  refine lv_iadd hx hb d_law_1056 ?_
  refine va_sld hx hb hX hbl hbA hL.2.2 (hin 2 (by decide)) d_law_1057 ?_
  refine lv_aload_n hx hb d_law_1058 rfl (lv_at hl 0 rfl) ?_
  refine lv_iload_n hx hb d_law_1059 rfl (lv_at hl 3 rfl) ?_
  refine lv_iconst (v := (3 : Int32)) hx hb d_law_1060 (by decide) ?_
  refine lv_iadd hx hb d_law_1061 ?_
  refine va_sld hx hb hX hbl hbA hL.2.2 (hin 3 (by decide)) d_law_1062 ?_
  refine law_cC (As := [.int (xs (i + (1 : Int32)).toNatClampNeg), .int (xs (i + (2 : Int32)).toNatClampNeg), .int (xs (i + (3 : Int32)).toNatClampNeg)]) (rest := []) S hZ hL kc (cw_Law_135 S.2.2.2.2 (Nat.le_of_ble_eq_true rfl) (Nat.le_of_ble_eq_true rfl)) rfl hl.1 rfl (Nat.le_of_ble_eq_true rfl) d_law_1063 ⟨Nat.le_of_ble_eq_true rfl, Nat.le_of_ble_eq_true rfl⟩ (fun H locs hL => ?_)
  refine lv_aload_n hx hb d_law_1066 rfl (lv_at hl 2 rfl) ?_
  refine lv_aload_n hx hb d_law_1067 rfl (lv_at hl 0 rfl) ?_
  refine lv_iload_n hx hb d_law_1068 rfl (lv_at hl 3 rfl) ?_
  refine lv_iconst (v := (1 : Int32)) hx hb d_law_1069 (by decide) ?_
  refine lv_iadd hx hb d_law_1070 ?_
  refine va_sld hx hb hX hbl hbA hL.2.2 (hin 1 (by decide)) d_law_1071 ?_
  refine lv_aload_n hx hb d_law_1072 rfl (lv_at hl 0 rfl) ?_
  refine lv_iload_n hx hb d_law_1073 rfl (lv_at hl 3 rfl) ?_
  refine lv_iconst (v := (2 : Int32)) hx hb d_law_1074 (by decide) ?_
  refine lv_iadd hx hb d_law_1075 ?_
  refine va_sld hx hb hX hbl hbA hL.2.2 (hin 2 (by decide)) d_law_1076 ?_
  refine lv_aload_n hx hb d_law_1077 rfl (lv_at hl 0 rfl) ?_
  refine lv_iload_n hx hb d_law_1078 rfl (lv_at hl 3 rfl) ?_
  refine lv_iconst (v := (3 : Int32)) hx hb d_law_1079 (by decide) ?_
  refine lv_iadd hx hb d_law_1080 ?_
  refine va_sld hx hb hX hbl hbA hL.2.2 (hin 3 (by decide)) d_law_1081 ?_
  refine law_cM (As := [.int (xs (i + (1 : Int32)).toNatClampNeg), .int (xs (i + (2 : Int32)).toNatClampNeg), .int (xs (i + (3 : Int32)).toNatClampNeg)]) (rest := [.int r]) S hZ hL km (cw_Law_138 S.2.2.2.2 (Nat.le_of_ble_eq_true rfl) (Nat.le_of_ble_eq_true rfl)) rfl hl.1 rfl (Nat.le_of_ble_eq_true rfl) d_law_1082 ⟨Nat.le_of_ble_eq_true rfl, Nat.le_of_ble_eq_true rfl⟩ (fun H locs hL => ?_)
  refine lv_icmp_eq (tgt := 1426) hx hb d_law_1085 (by decide) (fun _ => ?_) (fun c => absurd rfl c)
  exact K Mc' Mm' H locs hR' hL
set_option maxHeartbeats 4000000 in
theorem law_case_29 {p : Program} {e : Env} {s : State} {m : MethodId} {below : List Frame} {meth : Method} {c : Code} (l : Launch) {b L : Nat} {xs : Nat → Int32} {Q : State → Prop} (C0 : lw_At p s m meth c b L xs) {Zc Zm : WD} (hZ : LZ Zc Zm s) {Mc Mm : Mem} (hR : Rel Mc Mm) {H : Heap} {locs : List Loc} (hL : LW Zc Zm Mc Mm s H locs) {i : Int32} (hin : ∀ k, k < 6 → vp_in (i + nI k) L) {ls : Array Slot} (hl : lv_has ls 4 [(0, .ref b), (1, .ref (Zc.2.2.1 138)), (2, .ref (Zm.2.2.1 0)), (3, .int i)])
    (K : ∀ (Mc' Mm' : Mem) (H1 : Heap) (locs1 : List Loc), Rel Mc' Mm' → LW Zc Zm Mc' Mm' s H1 locs1 → W p l e room_1 s m #[Value.ref b] below meth c H1 locs1 600000 7302250 Q (F0 m 1426 ls [])) : W p l e room_1 s m #[Value.ref b] below meth c H locs 600000 7302250 Q (F0 m 1090 ls []) := by
  obtain ⟨hx, hb, hr, hml, hown, hts, hX, hbl, hlocks, hgv⟩ := id C0
  have hbA : ¬ (fun q : Nat => s.heap.size ≤ q) b := Nat.not_le.mpr hbl
  have S : CallFix p m c code 4 s #[Value.ref b] gtb R_law := ⟨hx, hb, hml, hown, fun w hw => hts w (gt_sub w hw)⟩
  obtain ⟨hIc, hZc, hIm, hZm, -⟩ := id hZ
  obtain ⟨r, Mc', Mm', kc, km, hR'⟩ := k_crucial l hIc hZc hIm hZm hR (xs (i + (1 : Int32)).toNatClampNeg) (xs (i + (2 : Int32)).toNatClampNeg)
  refine lv_aload_n hx hb d_law_1090 rfl (lv_at hl 1 rfl) ?_
  refine lv_aload_n hx hb d_law_1091 rfl (lv_at hl 0 rfl) ?_
  refine lv_iload_n hx hb d_law_1092 rfl (lv_at hl 3 rfl) ?_
  refine lv_iconst (v := (1 : Int32)) hx hb d_law_1093 (by decide) ?_
  refine lv_iadd hx hb d_law_1094 ?_
  refine va_sld hx hb hX hbl hbA hL.2.2 (hin 1 (by decide)) d_law_1095 ?_
  refine lv_aload_n hx hb d_law_1096 rfl (lv_at hl 0 rfl) ?_
  refine lv_iload_n hx hb d_law_1097 rfl (lv_at hl 3 rfl) ?_
  refine lv_iconst (v := (2 : Int32)) hx hb d_law_1098 (by decide) ?_
  refine lv_iadd hx hb d_law_1099 ?_
  refine va_sld hx hb hX hbl hbA hL.2.2 (hin 2 (by decide)) d_law_1100 ?_
  refine law_cC (As := [.int (xs (i + (1 : Int32)).toNatClampNeg), .int (xs (i + (2 : Int32)).toNatClampNeg)]) (rest := []) S hZ hL kc (cw_Law_139 S.2.2.2.2 (Nat.le_of_ble_eq_true rfl) (Nat.le_of_ble_eq_true rfl)) rfl hl.1 rfl (Nat.le_of_ble_eq_true rfl) d_law_1101 ⟨Nat.le_of_ble_eq_true rfl, Nat.le_of_ble_eq_true rfl⟩ (fun H locs hL => ?_)
  refine lv_aload_n hx hb d_law_1104 rfl (lv_at hl 2 rfl) ?_
  refine lv_aload_n hx hb d_law_1105 rfl (lv_at hl 0 rfl) ?_
  refine lv_iload_n hx hb d_law_1106 rfl (lv_at hl 3 rfl) ?_
  refine lv_iconst (v := (1 : Int32)) hx hb d_law_1107 (by decide) ?_
  refine lv_iadd hx hb d_law_1108 ?_
  refine va_sld hx hb hX hbl hbA hL.2.2 (hin 1 (by decide)) d_law_1109 ?_
  refine lv_aload_n hx hb d_law_1110 rfl (lv_at hl 0 rfl) ?_
  refine lv_iload_n hx hb d_law_1111 rfl (lv_at hl 3 rfl) ?_
  refine lv_iconst (v := (2 : Int32)) hx hb d_law_1112 (by decide) ?_
  refine lv_iadd hx hb d_law_1113 ?_
  refine va_sld hx hb hX hbl hbA hL.2.2 (hin 2 (by decide)) d_law_1114 ?_
  refine law_cM (As := [.int (xs (i + (1 : Int32)).toNatClampNeg), .int (xs (i + (2 : Int32)).toNatClampNeg)]) (rest := [.int r]) S hZ hL km (cw_Law_142 S.2.2.2.2 (Nat.le_of_ble_eq_true rfl) (Nat.le_of_ble_eq_true rfl)) rfl hl.1 rfl (Nat.le_of_ble_eq_true rfl) d_law_1115 ⟨Nat.le_of_ble_eq_true rfl, Nat.le_of_ble_eq_true rfl⟩ (fun H locs hL => ?_)
  refine lv_icmp_eq (tgt := 1426) hx hb d_law_1118 (by decide) (fun _ => ?_) (fun c => absurd rfl c)
  exact K Mc' Mm' H locs hR' hL
set_option maxHeartbeats 4000000 in
theorem law_case_30 {p : Program} {e : Env} {s : State} {m : MethodId} {below : List Frame} {meth : Method} {c : Code} (l : Launch) {b L : Nat} {xs : Nat → Int32} {Q : State → Prop} (C0 : lw_At p s m meth c b L xs) {Zc Zm : WD} (hZ : LZ Zc Zm s) {Mc Mm : Mem} (hR : Rel Mc Mm) {H : Heap} {locs : List Loc} (hL : LW Zc Zm Mc Mm s H locs) {i : Int32} (hin : ∀ k, k < 6 → vp_in (i + nI k) L) {ls : Array Slot} (hl : lv_has ls 4 [(0, .ref b), (1, .ref (Zc.2.2.1 138)), (2, .ref (Zm.2.2.1 0)), (3, .int i)])
    (K : ∀ (Mc' Mm' : Mem) (H1 : Heap) (locs1 : List Loc), Rel Mc' Mm' → LW Zc Zm Mc' Mm' s H1 locs1 → W p l e room_1 s m #[Value.ref b] below meth c H1 locs1 600000 7302250 Q (F0 m 1426 ls [])) : W p l e room_1 s m #[Value.ref b] below meth c H locs 600000 7302250 Q (F0 m 1123 ls []) := by
  obtain ⟨hx, hb, hr, hml, hown, hts, hX, hbl, hlocks, hgv⟩ := id C0
  have hbA : ¬ (fun q : Nat => s.heap.size ≤ q) b := Nat.not_le.mpr hbl
  have S : CallFix p m c code 4 s #[Value.ref b] gtb R_law := ⟨hx, hb, hml, hown, fun w hw => hts w (gt_sub w hw)⟩
  obtain ⟨hIc, hZc, hIm, hZm, -⟩ := id hZ
  obtain ⟨r, Mc', Mm', kc, km, hR'⟩ := k_least l hIc hZc hIm hZm hR 
  refine lv_aload_n hx hb d_law_1123 rfl (lv_at hl 1 rfl) ?_
  refine law_cC (As := []) (rest := []) S hZ hL kc (cw_Law_143 S.2.2.2.2 (Nat.le_of_ble_eq_true rfl) (Nat.le_of_ble_eq_true rfl)) rfl hl.1 rfl (Nat.le_of_ble_eq_true rfl) d_law_1124 ⟨Nat.le_of_ble_eq_true rfl, Nat.le_of_ble_eq_true rfl⟩ (fun H locs hL => ?_)
  refine lv_aload_n hx hb d_law_1127 rfl (lv_at hl 2 rfl) ?_
  refine law_cM (As := []) (rest := [.int r]) S hZ hL km (cw_Law_146 S.2.2.2.2 (Nat.le_of_ble_eq_true rfl) (Nat.le_of_ble_eq_true rfl)) rfl hl.1 rfl (Nat.le_of_ble_eq_true rfl) d_law_1128 ⟨Nat.le_of_ble_eq_true rfl, Nat.le_of_ble_eq_true rfl⟩ (fun H locs hL => ?_)
  refine lv_icmp_eq (tgt := 1426) hx hb d_law_1131 (by decide) (fun _ => ?_) (fun c => absurd rfl c)
  exact K Mc' Mm' H locs hR' hL
set_option maxHeartbeats 4000000 in
theorem law_case_31 {p : Program} {e : Env} {s : State} {m : MethodId} {below : List Frame} {meth : Method} {c : Code} (l : Launch) {b L : Nat} {xs : Nat → Int32} {Q : State → Prop} (C0 : lw_At p s m meth c b L xs) {Zc Zm : WD} (hZ : LZ Zc Zm s) {Mc Mm : Mem} (hR : Rel Mc Mm) {H : Heap} {locs : List Loc} (hL : LW Zc Zm Mc Mm s H locs) {i : Int32} (hin : ∀ k, k < 6 → vp_in (i + nI k) L) {ls : Array Slot} (hl : lv_has ls 4 [(0, .ref b), (1, .ref (Zc.2.2.1 138)), (2, .ref (Zm.2.2.1 0)), (3, .int i)])
    (K : ∀ (Mc' Mm' : Mem) (H1 : Heap) (locs1 : List Loc), Rel Mc' Mm' → LW Zc Zm Mc' Mm' s H1 locs1 → W p l e room_1 s m #[Value.ref b] below meth c H1 locs1 600000 7302250 Q (F0 m 1426 ls [])) : W p l e room_1 s m #[Value.ref b] below meth c H locs 600000 7302250 Q (F0 m 1136 ls []) := by
  obtain ⟨hx, hb, hr, hml, hown, hts, hX, hbl, hlocks, hgv⟩ := id C0
  have hbA : ¬ (fun q : Nat => s.heap.size ≤ q) b := Nat.not_le.mpr hbl
  have S : CallFix p m c code 4 s #[Value.ref b] gtb R_law := ⟨hx, hb, hml, hown, fun w hw => hts w (gt_sub w hw)⟩
  obtain ⟨hIc, hZc, hIm, hZm, -⟩ := id hZ
  obtain ⟨r, Mc', Mm', kc, km, hR'⟩ := k_holders l hIc hZc hIm hZm hR (xs (i + (1 : Int32)).toNatClampNeg) (xs (i + (2 : Int32)).toNatClampNeg)
  refine lv_aload_n hx hb d_law_1136 rfl (lv_at hl 1 rfl) ?_
  refine lv_aload_n hx hb d_law_1137 rfl (lv_at hl 0 rfl) ?_
  refine lv_iload_n hx hb d_law_1138 rfl (lv_at hl 3 rfl) ?_
  refine lv_iconst (v := (1 : Int32)) hx hb d_law_1139 (by decide) ?_
  refine lv_iadd hx hb d_law_1140 ?_
  refine va_sld hx hb hX hbl hbA hL.2.2 (hin 1 (by decide)) d_law_1141 ?_
  refine lv_aload_n hx hb d_law_1142 rfl (lv_at hl 0 rfl) ?_
  refine lv_iload_n hx hb d_law_1143 rfl (lv_at hl 3 rfl) ?_
  refine lv_iconst (v := (2 : Int32)) hx hb d_law_1144 (by decide) ?_
  refine lv_iadd hx hb d_law_1145 ?_
  refine va_sld hx hb hX hbl hbA hL.2.2 (hin 2 (by decide)) d_law_1146 ?_
  refine law_cC (As := [.int (xs (i + (1 : Int32)).toNatClampNeg), .int (xs (i + (2 : Int32)).toNatClampNeg)]) (rest := []) S hZ hL kc (cw_Law_147 S.2.2.2.2 (Nat.le_of_ble_eq_true rfl) (Nat.le_of_ble_eq_true rfl)) rfl hl.1 rfl (Nat.le_of_ble_eq_true rfl) d_law_1147 ⟨Nat.le_of_ble_eq_true rfl, Nat.le_of_ble_eq_true rfl⟩ (fun H locs hL => ?_)
  refine lv_aload_n hx hb d_law_1150 rfl (lv_at hl 2 rfl) ?_
  refine lv_aload_n hx hb d_law_1151 rfl (lv_at hl 0 rfl) ?_
  refine lv_iload_n hx hb d_law_1152 rfl (lv_at hl 3 rfl) ?_
  refine lv_iconst (v := (1 : Int32)) hx hb d_law_1153 (by decide) ?_
  refine lv_iadd hx hb d_law_1154 ?_
  refine va_sld hx hb hX hbl hbA hL.2.2 (hin 1 (by decide)) d_law_1155 ?_
  refine lv_aload_n hx hb d_law_1156 rfl (lv_at hl 0 rfl) ?_
  refine lv_iload_n hx hb d_law_1157 rfl (lv_at hl 3 rfl) ?_
  refine lv_iconst (v := (2 : Int32)) hx hb d_law_1158 (by decide) ?_
  refine lv_iadd hx hb d_law_1159 ?_
  refine va_sld hx hb hX hbl hbA hL.2.2 (hin 2 (by decide)) d_law_1160 ?_
  refine law_cM (As := [.int (xs (i + (1 : Int32)).toNatClampNeg), .int (xs (i + (2 : Int32)).toNatClampNeg)]) (rest := [.int r]) S hZ hL km (cw_Law_150 S.2.2.2.2 (Nat.le_of_ble_eq_true rfl) (Nat.le_of_ble_eq_true rfl)) rfl hl.1 rfl (Nat.le_of_ble_eq_true rfl) d_law_1161 ⟨Nat.le_of_ble_eq_true rfl, Nat.le_of_ble_eq_true rfl⟩ (fun H locs hL => ?_)
  refine lv_icmp_eq (tgt := 1426) hx hb d_law_1164 (by decide) (fun _ => ?_) (fun c => absurd rfl c)
  exact K Mc' Mm' H locs hR' hL
set_option maxHeartbeats 4000000 in
theorem law_case_32 {p : Program} {e : Env} {s : State} {m : MethodId} {below : List Frame} {meth : Method} {c : Code} (l : Launch) {b L : Nat} {xs : Nat → Int32} {Q : State → Prop} (C0 : lw_At p s m meth c b L xs) {Zc Zm : WD} (hZ : LZ Zc Zm s) {Mc Mm : Mem} (hR : Rel Mc Mm) {H : Heap} {locs : List Loc} (hL : LW Zc Zm Mc Mm s H locs) {i : Int32} (hin : ∀ k, k < 6 → vp_in (i + nI k) L) {ls : Array Slot} (hl : lv_has ls 4 [(0, .ref b), (1, .ref (Zc.2.2.1 138)), (2, .ref (Zm.2.2.1 0)), (3, .int i)])
    (K : ∀ (Mc' Mm' : Mem) (H1 : Heap) (locs1 : List Loc), Rel Mc' Mm' → LW Zc Zm Mc' Mm' s H1 locs1 → W p l e room_1 s m #[Value.ref b] below meth c H1 locs1 600000 7302250 Q (F0 m 1426 ls [])) : W p l e room_1 s m #[Value.ref b] below meth c H locs 600000 7302250 Q (F0 m 1169 ls []) := by
  obtain ⟨hx, hb, hr, hml, hown, hts, hX, hbl, hlocks, hgv⟩ := id C0
  have hbA : ¬ (fun q : Nat => s.heap.size ≤ q) b := Nat.not_le.mpr hbl
  have S : CallFix p m c code 4 s #[Value.ref b] gtb R_law := ⟨hx, hb, hml, hown, fun w hw => hts w (gt_sub w hw)⟩
  obtain ⟨hIc, hZc, hIm, hZm, -⟩ := id hZ
  obtain ⟨r, Mc', Mm', kc, km, hR'⟩ := k_path l hIc hZc hIm hZm hR (xs (i + (1 : Int32)).toNatClampNeg) (xs (i + (2 : Int32)).toNatClampNeg) (xs (i + (3 : Int32)).toNatClampNeg)
  refine lv_aload_n hx hb d_law_1169 rfl (lv_at hl 1 rfl) ?_
  refine lv_aload_n hx hb d_law_1170 rfl (lv_at hl 0 rfl) ?_
  refine lv_iload_n hx hb d_law_1171 rfl (lv_at hl 3 rfl) ?_
  refine lv_iconst (v := (1 : Int32)) hx hb d_law_1172 (by decide) ?_
  refine lv_iadd hx hb d_law_1173 ?_
  refine va_sld hx hb hX hbl hbA hL.2.2 (hin 1 (by decide)) d_law_1174 ?_
  refine lv_aload_n hx hb d_law_1175 rfl (lv_at hl 0 rfl) ?_
  refine lv_iload_n hx hb d_law_1176 rfl (lv_at hl 3 rfl) ?_
  refine lv_iconst (v := (2 : Int32)) hx hb d_law_1177 (by decide) ?_
  refine lv_iadd hx hb d_law_1178 ?_
  refine va_sld hx hb hX hbl hbA hL.2.2 (hin 2 (by decide)) d_law_1179 ?_
  refine lv_aload_n hx hb d_law_1180 rfl (lv_at hl 0 rfl) ?_
  refine lv_iload_n hx hb d_law_1181 rfl (lv_at hl 3 rfl) ?_
  refine lv_iconst (v := (3 : Int32)) hx hb d_law_1182 (by decide) ?_
  refine lv_iadd hx hb d_law_1183 ?_
  refine va_sld hx hb hX hbl hbA hL.2.2 (hin 3 (by decide)) d_law_1184 ?_
  refine law_cC (As := [.int (xs (i + (1 : Int32)).toNatClampNeg), .int (xs (i + (2 : Int32)).toNatClampNeg), .int (xs (i + (3 : Int32)).toNatClampNeg)]) (rest := []) S hZ hL kc (cw_Law_151 S.2.2.2.2 (Nat.le_of_ble_eq_true rfl) (Nat.le_of_ble_eq_true rfl)) rfl hl.1 rfl (Nat.le_of_ble_eq_true rfl) d_law_1185 ⟨Nat.le_of_ble_eq_true rfl, Nat.le_of_ble_eq_true rfl⟩ (fun H locs hL => ?_)
  refine lv_aload_n hx hb d_law_1188 rfl (lv_at hl 2 rfl) ?_
  refine lv_aload_n hx hb d_law_1189 rfl (lv_at hl 0 rfl) ?_
  refine lv_iload_n hx hb d_law_1190 rfl (lv_at hl 3 rfl) ?_
  refine lv_iconst (v := (1 : Int32)) hx hb d_law_1191 (by decide) ?_
  refine lv_iadd hx hb d_law_1192 ?_
  refine va_sld hx hb hX hbl hbA hL.2.2 (hin 1 (by decide)) d_law_1193 ?_
  refine lv_aload_n hx hb d_law_1194 rfl (lv_at hl 0 rfl) ?_
  refine lv_iload_n hx hb d_law_1195 rfl (lv_at hl 3 rfl) ?_
  refine lv_iconst (v := (2 : Int32)) hx hb d_law_1196 (by decide) ?_
  refine lv_iadd hx hb d_law_1197 ?_
  refine va_sld hx hb hX hbl hbA hL.2.2 (hin 2 (by decide)) d_law_1198 ?_
  refine lv_aload_n hx hb d_law_1199 rfl (lv_at hl 0 rfl) ?_
  refine lv_iload_n hx hb d_law_1200 rfl (lv_at hl 3 rfl) ?_
  refine lv_iconst (v := (3 : Int32)) hx hb d_law_1201 (by decide) ?_
  refine lv_iadd hx hb d_law_1202 ?_
  refine va_sld hx hb hX hbl hbA hL.2.2 (hin 3 (by decide)) d_law_1203 ?_
  refine law_cM (As := [.int (xs (i + (1 : Int32)).toNatClampNeg), .int (xs (i + (2 : Int32)).toNatClampNeg), .int (xs (i + (3 : Int32)).toNatClampNeg)]) (rest := [.int r]) S hZ hL km (cw_Law_154 S.2.2.2.2 (Nat.le_of_ble_eq_true rfl) (Nat.le_of_ble_eq_true rfl)) rfl hl.1 rfl (Nat.le_of_ble_eq_true rfl) d_law_1204 ⟨Nat.le_of_ble_eq_true rfl, Nat.le_of_ble_eq_true rfl⟩ (fun H locs hL => ?_)
  refine lv_icmp_eq (tgt := 1426) hx hb d_law_1207 (by decide) (fun _ => ?_) (fun c => absurd rfl c)
  exact K Mc' Mm' H locs hR' hL
set_option maxHeartbeats 4000000 in
theorem law_case_33 {p : Program} {e : Env} {s : State} {m : MethodId} {below : List Frame} {meth : Method} {c : Code} (l : Launch) {b L : Nat} {xs : Nat → Int32} {Q : State → Prop} (C0 : lw_At p s m meth c b L xs) {Zc Zm : WD} (hZ : LZ Zc Zm s) {Mc Mm : Mem} (hR : Rel Mc Mm) {H : Heap} {locs : List Loc} (hL : LW Zc Zm Mc Mm s H locs) {i : Int32} (hin : ∀ k, k < 6 → vp_in (i + nI k) L) {ls : Array Slot} (hl : lv_has ls 4 [(0, .ref b), (1, .ref (Zc.2.2.1 138)), (2, .ref (Zm.2.2.1 0)), (3, .int i)])
    (K : ∀ (Mc' Mm' : Mem) (H1 : Heap) (locs1 : List Loc), Rel Mc' Mm' → LW Zc Zm Mc' Mm' s H1 locs1 → W p l e room_1 s m #[Value.ref b] below meth c H1 locs1 600000 7302250 Q (F0 m 1426 ls [])) : W p l e room_1 s m #[Value.ref b] below meth c H locs 600000 7302250 Q (F0 m 1212 ls []) := by
  obtain ⟨hx, hb, hr, hml, hown, hts, hX, hbl, hlocks, hgv⟩ := id C0
  have hbA : ¬ (fun q : Nat => s.heap.size ≤ q) b := Nat.not_le.mpr hbl
  have S : CallFix p m c code 4 s #[Value.ref b] gtb R_law := ⟨hx, hb, hml, hown, fun w hw => hts w (gt_sub w hw)⟩
  obtain ⟨hIc, hZc, hIm, hZm, -⟩ := id hZ
  obtain ⟨r, Mc', Mm', kc, km, hR'⟩ := k_caught l hIc hZc hIm hZm hR (xs (i + (1 : Int32)).toNatClampNeg)
  refine lv_aload_n hx hb d_law_1212 rfl (lv_at hl 1 rfl) ?_
  refine lv_aload_n hx hb d_law_1213 rfl (lv_at hl 0 rfl) ?_
  refine lv_iload_n hx hb d_law_1214 rfl (lv_at hl 3 rfl) ?_
  refine lv_iconst (v := (1 : Int32)) hx hb d_law_1215 (by decide) ?_
  refine lv_iadd hx hb d_law_1216 ?_
  refine va_sld hx hb hX hbl hbA hL.2.2 (hin 1 (by decide)) d_law_1217 ?_
  refine law_cC (As := [.int (xs (i + (1 : Int32)).toNatClampNeg)]) (rest := []) S hZ hL kc (cw_Law_155 S.2.2.2.2 (Nat.le_of_ble_eq_true rfl) (Nat.le_of_ble_eq_true rfl)) rfl hl.1 rfl (Nat.le_of_ble_eq_true rfl) d_law_1218 ⟨Nat.le_of_ble_eq_true rfl, Nat.le_of_ble_eq_true rfl⟩ (fun H locs hL => ?_)
  refine lv_aload_n hx hb d_law_1221 rfl (lv_at hl 2 rfl) ?_
  refine lv_aload_n hx hb d_law_1222 rfl (lv_at hl 0 rfl) ?_
  refine lv_iload_n hx hb d_law_1223 rfl (lv_at hl 3 rfl) ?_
  refine lv_iconst (v := (1 : Int32)) hx hb d_law_1224 (by decide) ?_
  refine lv_iadd hx hb d_law_1225 ?_
  refine va_sld hx hb hX hbl hbA hL.2.2 (hin 1 (by decide)) d_law_1226 ?_
  refine law_cM (As := [.int (xs (i + (1 : Int32)).toNatClampNeg)]) (rest := [.int r]) S hZ hL km (cw_Law_158 S.2.2.2.2 (Nat.le_of_ble_eq_true rfl) (Nat.le_of_ble_eq_true rfl)) rfl hl.1 rfl (Nat.le_of_ble_eq_true rfl) d_law_1227 ⟨Nat.le_of_ble_eq_true rfl, Nat.le_of_ble_eq_true rfl⟩ (fun H locs hL => ?_)
  refine lv_icmp_eq (tgt := 1426) hx hb d_law_1230 (by decide) (fun _ => ?_) (fun c => absurd rfl c)
  exact K Mc' Mm' H locs hR' hL
set_option maxHeartbeats 4000000 in
theorem law_case_34 {p : Program} {e : Env} {s : State} {m : MethodId} {below : List Frame} {meth : Method} {c : Code} (l : Launch) {b L : Nat} {xs : Nat → Int32} {Q : State → Prop} (C0 : lw_At p s m meth c b L xs) {Zc Zm : WD} (hZ : LZ Zc Zm s) {Mc Mm : Mem} (hR : Rel Mc Mm) {H : Heap} {locs : List Loc} (hL : LW Zc Zm Mc Mm s H locs) {i : Int32} (hin : ∀ k, k < 6 → vp_in (i + nI k) L) {ls : Array Slot} (hl : lv_has ls 4 [(0, .ref b), (1, .ref (Zc.2.2.1 138)), (2, .ref (Zm.2.2.1 0)), (3, .int i)])
    (K : ∀ (Mc' Mm' : Mem) (H1 : Heap) (locs1 : List Loc), Rel Mc' Mm' → LW Zc Zm Mc' Mm' s H1 locs1 → W p l e room_1 s m #[Value.ref b] below meth c H1 locs1 600000 7302250 Q (F0 m 1426 ls [])) : W p l e room_1 s m #[Value.ref b] below meth c H locs 600000 7302250 Q (F0 m 1235 ls []) := by
  obtain ⟨hx, hb, hr, hml, hown, hts, hX, hbl, hlocks, hgv⟩ := id C0
  have hbA : ¬ (fun q : Nat => s.heap.size ≤ q) b := Nat.not_le.mpr hbl
  have S : CallFix p m c code 4 s #[Value.ref b] gtb R_law := ⟨hx, hb, hml, hown, fun w hw => hts w (gt_sub w hw)⟩
  obtain ⟨hIc, hZc, hIm, hZm, -⟩ := id hZ
  obtain ⟨r, Mc', Mm', kc, km, hR'⟩ := k_bits l hIc hZc hIm hZm hR (xs (i + (1 : Int32)).toNatClampNeg)
  refine lv_aload_n hx hb d_law_1235 rfl (lv_at hl 1 rfl) ?_
  refine lv_aload_n hx hb d_law_1236 rfl (lv_at hl 0 rfl) ?_
  refine lv_iload_n hx hb d_law_1237 rfl (lv_at hl 3 rfl) ?_
  refine lv_iconst (v := (1 : Int32)) hx hb d_law_1238 (by decide) ?_
  refine lv_iadd hx hb d_law_1239 ?_
  refine va_sld hx hb hX hbl hbA hL.2.2 (hin 1 (by decide)) d_law_1240 ?_
  refine law_cC (As := [.int (xs (i + (1 : Int32)).toNatClampNeg)]) (rest := []) S hZ hL kc (cw_Law_159 S.2.2.2.2 (Nat.le_of_ble_eq_true rfl) (Nat.le_of_ble_eq_true rfl)) rfl hl.1 rfl (Nat.le_of_ble_eq_true rfl) d_law_1241 ⟨Nat.le_of_ble_eq_true rfl, Nat.le_of_ble_eq_true rfl⟩ (fun H locs hL => ?_)
  refine lv_aload_n hx hb d_law_1244 rfl (lv_at hl 2 rfl) ?_
  refine lv_aload_n hx hb d_law_1245 rfl (lv_at hl 0 rfl) ?_
  refine lv_iload_n hx hb d_law_1246 rfl (lv_at hl 3 rfl) ?_
  refine lv_iconst (v := (1 : Int32)) hx hb d_law_1247 (by decide) ?_
  refine lv_iadd hx hb d_law_1248 ?_
  refine va_sld hx hb hX hbl hbA hL.2.2 (hin 1 (by decide)) d_law_1249 ?_
  refine law_cM (As := [.int (xs (i + (1 : Int32)).toNatClampNeg)]) (rest := [.int r]) S hZ hL km (cw_Law_162 S.2.2.2.2 (Nat.le_of_ble_eq_true rfl) (Nat.le_of_ble_eq_true rfl)) rfl hl.1 rfl (Nat.le_of_ble_eq_true rfl) d_law_1250 ⟨Nat.le_of_ble_eq_true rfl, Nat.le_of_ble_eq_true rfl⟩ (fun H locs hL => ?_)
  refine lv_icmp_eq (tgt := 1426) hx hb d_law_1253 (by decide) (fun _ => ?_) (fun c => absurd rfl c)
  exact K Mc' Mm' H locs hR' hL
set_option maxHeartbeats 4000000 in
theorem law_case_35 {p : Program} {e : Env} {s : State} {m : MethodId} {below : List Frame} {meth : Method} {c : Code} (l : Launch) {b L : Nat} {xs : Nat → Int32} {Q : State → Prop} (C0 : lw_At p s m meth c b L xs) {Zc Zm : WD} (hZ : LZ Zc Zm s) {Mc Mm : Mem} (hR : Rel Mc Mm) {H : Heap} {locs : List Loc} (hL : LW Zc Zm Mc Mm s H locs) {i : Int32} (hin : ∀ k, k < 6 → vp_in (i + nI k) L) {ls : Array Slot} (hl : lv_has ls 4 [(0, .ref b), (1, .ref (Zc.2.2.1 138)), (2, .ref (Zm.2.2.1 0)), (3, .int i)])
    (K : ∀ (Mc' Mm' : Mem) (H1 : Heap) (locs1 : List Loc), Rel Mc' Mm' → LW Zc Zm Mc' Mm' s H1 locs1 → W p l e room_1 s m #[Value.ref b] below meth c H1 locs1 600000 7302250 Q (F0 m 1426 ls [])) : W p l e room_1 s m #[Value.ref b] below meth c H locs 600000 7302250 Q (F0 m 1258 ls []) := by
  obtain ⟨hx, hb, hr, hml, hown, hts, hX, hbl, hlocks, hgv⟩ := id C0
  have hbA : ¬ (fun q : Nat => s.heap.size ≤ q) b := Nat.not_le.mpr hbl
  have S : CallFix p m c code 4 s #[Value.ref b] gtb R_law := ⟨hx, hb, hml, hown, fun w hw => hts w (gt_sub w hw)⟩
  obtain ⟨hIc, hZc, hIm, hZm, -⟩ := id hZ
  obtain ⟨r, Mc', Mm', kc, km, hR'⟩ := k_load l hIc hZc hIm hZm hR (xs (i + (1 : Int32)).toNatClampNeg) (xs (i + (2 : Int32)).toNatClampNeg)
  refine lv_aload_n hx hb d_law_1258 rfl (lv_at hl 1 rfl) ?_
  refine lv_aload_n hx hb d_law_1259 rfl (lv_at hl 0 rfl) ?_
  refine lv_iload_n hx hb d_law_1260 rfl (lv_at hl 3 rfl) ?_
  refine lv_iconst (v := (1 : Int32)) hx hb d_law_1261 (by decide) ?_
  refine lv_iadd hx hb d_law_1262 ?_
  refine va_sld hx hb hX hbl hbA hL.2.2 (hin 1 (by decide)) d_law_1263 ?_
  refine lv_aload_n hx hb d_law_1264 rfl (lv_at hl 0 rfl) ?_
  refine lv_iload_n hx hb d_law_1265 rfl (lv_at hl 3 rfl) ?_
  refine lv_iconst (v := (2 : Int32)) hx hb d_law_1266 (by decide) ?_
  refine lv_iadd hx hb d_law_1267 ?_
  refine va_sld hx hb hX hbl hbA hL.2.2 (hin 2 (by decide)) d_law_1268 ?_
  refine law_cC (As := [.int (xs (i + (1 : Int32)).toNatClampNeg), .int (xs (i + (2 : Int32)).toNatClampNeg)]) (rest := []) S hZ hL kc (cw_Law_163 S.2.2.2.2 (Nat.le_of_ble_eq_true rfl) (Nat.le_of_ble_eq_true rfl)) rfl hl.1 rfl (Nat.le_of_ble_eq_true rfl) d_law_1269 ⟨Nat.le_of_ble_eq_true rfl, Nat.le_of_ble_eq_true rfl⟩ (fun H locs hL => ?_)
  refine lv_aload_n hx hb d_law_1272 rfl (lv_at hl 2 rfl) ?_
  refine lv_aload_n hx hb d_law_1273 rfl (lv_at hl 0 rfl) ?_
  refine lv_iload_n hx hb d_law_1274 rfl (lv_at hl 3 rfl) ?_
  refine lv_iconst (v := (1 : Int32)) hx hb d_law_1275 (by decide) ?_
  refine lv_iadd hx hb d_law_1276 ?_
  refine va_sld hx hb hX hbl hbA hL.2.2 (hin 1 (by decide)) d_law_1277 ?_
  refine lv_aload_n hx hb d_law_1278 rfl (lv_at hl 0 rfl) ?_
  refine lv_iload_n hx hb d_law_1279 rfl (lv_at hl 3 rfl) ?_
  refine lv_iconst (v := (2 : Int32)) hx hb d_law_1280 (by decide) ?_
  refine lv_iadd hx hb d_law_1281 ?_
  refine va_sld hx hb hX hbl hbA hL.2.2 (hin 2 (by decide)) d_law_1282 ?_
  refine law_cM (As := [.int (xs (i + (1 : Int32)).toNatClampNeg), .int (xs (i + (2 : Int32)).toNatClampNeg)]) (rest := [.int r]) S hZ hL km (cw_Law_166 S.2.2.2.2 (Nat.le_of_ble_eq_true rfl) (Nat.le_of_ble_eq_true rfl)) rfl hl.1 rfl (Nat.le_of_ble_eq_true rfl) d_law_1283 ⟨Nat.le_of_ble_eq_true rfl, Nat.le_of_ble_eq_true rfl⟩ (fun H locs hL => ?_)
  refine lv_icmp_eq (tgt := 1426) hx hb d_law_1286 (by decide) (fun _ => ?_) (fun c => absurd rfl c)
  exact K Mc' Mm' H locs hR' hL
set_option maxHeartbeats 4000000 in
theorem law_case_36 {p : Program} {e : Env} {s : State} {m : MethodId} {below : List Frame} {meth : Method} {c : Code} (l : Launch) {b L : Nat} {xs : Nat → Int32} {Q : State → Prop} (C0 : lw_At p s m meth c b L xs) {Zc Zm : WD} (hZ : LZ Zc Zm s) {Mc Mm : Mem} (hR : Rel Mc Mm) {H : Heap} {locs : List Loc} (hL : LW Zc Zm Mc Mm s H locs) {i : Int32} (hin : ∀ k, k < 6 → vp_in (i + nI k) L) {ls : Array Slot} (hl : lv_has ls 4 [(0, .ref b), (1, .ref (Zc.2.2.1 138)), (2, .ref (Zm.2.2.1 0)), (3, .int i)])
    (K : ∀ (Mc' Mm' : Mem) (H1 : Heap) (locs1 : List Loc), Rel Mc' Mm' → LW Zc Zm Mc' Mm' s H1 locs1 → W p l e room_1 s m #[Value.ref b] below meth c H1 locs1 600000 7302250 Q (F0 m 1426 ls [])) : W p l e room_1 s m #[Value.ref b] below meth c H locs 600000 7302250 Q (F0 m 1291 ls []) := by
  obtain ⟨hx, hb, hr, hml, hown, hts, hX, hbl, hlocks, hgv⟩ := id C0
  have hbA : ¬ (fun q : Nat => s.heap.size ≤ q) b := Nat.not_le.mpr hbl
  have S : CallFix p m c code 4 s #[Value.ref b] gtb R_law := ⟨hx, hb, hml, hown, fun w hw => hts w (gt_sub w hw)⟩
  obtain ⟨hIc, hZc, hIm, hZm, -⟩ := id hZ
  obtain ⟨r, Mc', Mm', kc, km, hR'⟩ := k_calm l hIc hZc hIm hZm hR (xs (i + (1 : Int32)).toNatClampNeg)
  refine lv_aload_n hx hb d_law_1291 rfl (lv_at hl 1 rfl) ?_
  refine lv_aload_n hx hb d_law_1292 rfl (lv_at hl 0 rfl) ?_
  refine lv_iload_n hx hb d_law_1293 rfl (lv_at hl 3 rfl) ?_
  refine lv_iconst (v := (1 : Int32)) hx hb d_law_1294 (by decide) ?_
  refine lv_iadd hx hb d_law_1295 ?_
  refine va_sld hx hb hX hbl hbA hL.2.2 (hin 1 (by decide)) d_law_1296 ?_
  refine law_cC (As := [.int (xs (i + (1 : Int32)).toNatClampNeg)]) (rest := []) S hZ hL kc (cw_Law_167 S.2.2.2.2 (Nat.le_of_ble_eq_true rfl) (Nat.le_of_ble_eq_true rfl)) rfl hl.1 rfl (Nat.le_of_ble_eq_true rfl) d_law_1297 ⟨Nat.le_of_ble_eq_true rfl, Nat.le_of_ble_eq_true rfl⟩ (fun H locs hL => ?_)
  refine lv_aload_n hx hb d_law_1300 rfl (lv_at hl 2 rfl) ?_
  refine lv_aload_n hx hb d_law_1301 rfl (lv_at hl 0 rfl) ?_
  refine lv_iload_n hx hb d_law_1302 rfl (lv_at hl 3 rfl) ?_
  refine lv_iconst (v := (1 : Int32)) hx hb d_law_1303 (by decide) ?_
  refine lv_iadd hx hb d_law_1304 ?_
  refine va_sld hx hb hX hbl hbA hL.2.2 (hin 1 (by decide)) d_law_1305 ?_
  refine law_cM (As := [.int (xs (i + (1 : Int32)).toNatClampNeg)]) (rest := [.int r]) S hZ hL km (cw_Law_170 S.2.2.2.2 (Nat.le_of_ble_eq_true rfl) (Nat.le_of_ble_eq_true rfl)) rfl hl.1 rfl (Nat.le_of_ble_eq_true rfl) d_law_1306 ⟨Nat.le_of_ble_eq_true rfl, Nat.le_of_ble_eq_true rfl⟩ (fun H locs hL => ?_)
  refine lv_icmp_eq (tgt := 1426) hx hb d_law_1309 (by decide) (fun _ => ?_) (fun c => absurd rfl c)
  exact K Mc' Mm' H locs hR' hL
set_option maxHeartbeats 4000000 in
theorem law_case_37 {p : Program} {e : Env} {s : State} {m : MethodId} {below : List Frame} {meth : Method} {c : Code} (l : Launch) {b L : Nat} {xs : Nat → Int32} {Q : State → Prop} (C0 : lw_At p s m meth c b L xs) {Zc Zm : WD} (hZ : LZ Zc Zm s) {Mc Mm : Mem} (hR : Rel Mc Mm) {H : Heap} {locs : List Loc} (hL : LW Zc Zm Mc Mm s H locs) {i : Int32} (hin : ∀ k, k < 6 → vp_in (i + nI k) L) {ls : Array Slot} (hl : lv_has ls 4 [(0, .ref b), (1, .ref (Zc.2.2.1 138)), (2, .ref (Zm.2.2.1 0)), (3, .int i)])
    (K : ∀ (Mc' Mm' : Mem) (H1 : Heap) (locs1 : List Loc), Rel Mc' Mm' → LW Zc Zm Mc' Mm' s H1 locs1 → W p l e room_1 s m #[Value.ref b] below meth c H1 locs1 600000 7302250 Q (F0 m 1426 ls [])) : W p l e room_1 s m #[Value.ref b] below meth c H locs 600000 7302250 Q (F0 m 1314 ls []) := by
  obtain ⟨hx, hb, hr, hml, hown, hts, hX, hbl, hlocks, hgv⟩ := id C0
  have hbA : ¬ (fun q : Nat => s.heap.size ≤ q) b := Nat.not_le.mpr hbl
  have S : CallFix p m c code 4 s #[Value.ref b] gtb R_law := ⟨hx, hb, hml, hown, fun w hw => hts w (gt_sub w hw)⟩
  obtain ⟨hIc, hZc, hIm, hZm, -⟩ := id hZ
  obtain ⟨r, Mc', Mm', kc, km, hR'⟩ := k_heal l hIc hZc hIm hZm hR 
  refine lv_aload_n hx hb d_law_1314 rfl (lv_at hl 1 rfl) ?_
  refine law_cC (As := []) (rest := []) S hZ hL kc (cw_Law_171 S.2.2.2.2 (Nat.le_of_ble_eq_true rfl) (Nat.le_of_ble_eq_true rfl)) rfl hl.1 rfl (Nat.le_of_ble_eq_true rfl) d_law_1315 ⟨Nat.le_of_ble_eq_true rfl, Nat.le_of_ble_eq_true rfl⟩ (fun H locs hL => ?_)
  refine lv_aload_n hx hb d_law_1318 rfl (lv_at hl 2 rfl) ?_
  refine law_cM (As := []) (rest := [.int r]) S hZ hL km (cw_Law_174 S.2.2.2.2 (Nat.le_of_ble_eq_true rfl) (Nat.le_of_ble_eq_true rfl)) rfl hl.1 rfl (Nat.le_of_ble_eq_true rfl) d_law_1319 ⟨Nat.le_of_ble_eq_true rfl, Nat.le_of_ble_eq_true rfl⟩ (fun H locs hL => ?_)
  refine lv_icmp_eq (tgt := 1426) hx hb d_law_1322 (by decide) (fun _ => ?_) (fun c => absurd rfl c)
  exact K Mc' Mm' H locs hR' hL
set_option maxHeartbeats 4000000 in
theorem law_case_38 {p : Program} {e : Env} {s : State} {m : MethodId} {below : List Frame} {meth : Method} {c : Code} (l : Launch) {b L : Nat} {xs : Nat → Int32} {Q : State → Prop} (C0 : lw_At p s m meth c b L xs) {Zc Zm : WD} (hZ : LZ Zc Zm s) {Mc Mm : Mem} (hR : Rel Mc Mm) {H : Heap} {locs : List Loc} (hL : LW Zc Zm Mc Mm s H locs) {i : Int32} (hin : ∀ k, k < 6 → vp_in (i + nI k) L) {ls : Array Slot} (hl : lv_has ls 4 [(0, .ref b), (1, .ref (Zc.2.2.1 138)), (2, .ref (Zm.2.2.1 0)), (3, .int i)])
    (K : ∀ (Mc' Mm' : Mem) (H1 : Heap) (locs1 : List Loc), Rel Mc' Mm' → LW Zc Zm Mc' Mm' s H1 locs1 → W p l e room_1 s m #[Value.ref b] below meth c H1 locs1 600000 7302250 Q (F0 m 1426 ls [])) : W p l e room_1 s m #[Value.ref b] below meth c H locs 600000 7302250 Q (F0 m 1327 ls []) := by
  obtain ⟨hx, hb, hr, hml, hown, hts, hX, hbl, hlocks, hgv⟩ := id C0
  have hbA : ¬ (fun q : Nat => s.heap.size ≤ q) b := Nat.not_le.mpr hbl
  have S : CallFix p m c code 4 s #[Value.ref b] gtb R_law := ⟨hx, hb, hml, hown, fun w hw => hts w (gt_sub w hw)⟩
  obtain ⟨hIc, hZc, hIm, hZm, -⟩ := id hZ
  obtain ⟨r, Mc', Mm', kc, km, hR'⟩ := k_count l hIc hZc hIm hZm hR (xs (i + (1 : Int32)).toNatClampNeg)
  refine lv_aload_n hx hb d_law_1327 rfl (lv_at hl 1 rfl) ?_
  refine lv_aload_n hx hb d_law_1328 rfl (lv_at hl 0 rfl) ?_
  refine lv_iload_n hx hb d_law_1329 rfl (lv_at hl 3 rfl) ?_
  refine lv_iconst (v := (1 : Int32)) hx hb d_law_1330 (by decide) ?_
  refine lv_iadd hx hb d_law_1331 ?_
  refine va_sld hx hb hX hbl hbA hL.2.2 (hin 1 (by decide)) d_law_1332 ?_
  refine law_cC (As := [.int (xs (i + (1 : Int32)).toNatClampNeg)]) (rest := []) S hZ hL kc (cw_Law_175 S.2.2.2.2 (Nat.le_of_ble_eq_true rfl) (Nat.le_of_ble_eq_true rfl)) rfl hl.1 rfl (Nat.le_of_ble_eq_true rfl) d_law_1333 ⟨Nat.le_of_ble_eq_true rfl, Nat.le_of_ble_eq_true rfl⟩ (fun H locs hL => ?_)
  refine lv_aload_n hx hb d_law_1336 rfl (lv_at hl 2 rfl) ?_
  refine lv_aload_n hx hb d_law_1337 rfl (lv_at hl 0 rfl) ?_
  refine lv_iload_n hx hb d_law_1338 rfl (lv_at hl 3 rfl) ?_
  refine lv_iconst (v := (1 : Int32)) hx hb d_law_1339 (by decide) ?_
  refine lv_iadd hx hb d_law_1340 ?_
  refine va_sld hx hb hX hbl hbA hL.2.2 (hin 1 (by decide)) d_law_1341 ?_
  refine law_cM (As := [.int (xs (i + (1 : Int32)).toNatClampNeg)]) (rest := [.int r]) S hZ hL km (cw_Law_178 S.2.2.2.2 (Nat.le_of_ble_eq_true rfl) (Nat.le_of_ble_eq_true rfl)) rfl hl.1 rfl (Nat.le_of_ble_eq_true rfl) d_law_1342 ⟨Nat.le_of_ble_eq_true rfl, Nat.le_of_ble_eq_true rfl⟩ (fun H locs hL => ?_)
  refine lv_icmp_eq (tgt := 1426) hx hb d_law_1345 (by decide) (fun _ => ?_) (fun c => absurd rfl c)
  exact K Mc' Mm' H locs hR' hL
set_option maxHeartbeats 4000000 in
theorem law_case_39 {p : Program} {e : Env} {s : State} {m : MethodId} {below : List Frame} {meth : Method} {c : Code} (l : Launch) {b L : Nat} {xs : Nat → Int32} {Q : State → Prop} (C0 : lw_At p s m meth c b L xs) {Zc Zm : WD} (hZ : LZ Zc Zm s) {Mc Mm : Mem} (hR : Rel Mc Mm) {H : Heap} {locs : List Loc} (hL : LW Zc Zm Mc Mm s H locs) {i : Int32} (hin : ∀ k, k < 6 → vp_in (i + nI k) L) {ls : Array Slot} (hl : lv_has ls 4 [(0, .ref b), (1, .ref (Zc.2.2.1 138)), (2, .ref (Zm.2.2.1 0)), (3, .int i)])
    (K : ∀ (Mc' Mm' : Mem) (H1 : Heap) (locs1 : List Loc), Rel Mc' Mm' → LW Zc Zm Mc' Mm' s H1 locs1 → W p l e room_1 s m #[Value.ref b] below meth c H1 locs1 600000 7302250 Q (F0 m 1426 ls [])) : W p l e room_1 s m #[Value.ref b] below meth c H locs 600000 7302250 Q (F0 m 1350 ls []) := by
  obtain ⟨hx, hb, hr, hml, hown, hts, hX, hbl, hlocks, hgv⟩ := id C0
  have hbA : ¬ (fun q : Nat => s.heap.size ≤ q) b := Nat.not_le.mpr hbl
  have S : CallFix p m c code 4 s #[Value.ref b] gtb R_law := ⟨hx, hb, hml, hown, fun w hw => hts w (gt_sub w hw)⟩
  obtain ⟨hIc, hZc, hIm, hZm, -⟩ := id hZ
  obtain ⟨r, Mc', Mm', kc, km, hR'⟩ := k_planned l hIc hZc hIm hZm hR (xs (i + (1 : Int32)).toNatClampNeg) (xs (i + (2 : Int32)).toNatClampNeg)
  refine lv_aload_n hx hb d_law_1350 rfl (lv_at hl 1 rfl) ?_
  refine lv_aload_n hx hb d_law_1351 rfl (lv_at hl 0 rfl) ?_
  refine lv_iload_n hx hb d_law_1352 rfl (lv_at hl 3 rfl) ?_
  refine lv_iconst (v := (1 : Int32)) hx hb d_law_1353 (by decide) ?_
  refine lv_iadd hx hb d_law_1354 ?_
  refine va_sld hx hb hX hbl hbA hL.2.2 (hin 1 (by decide)) d_law_1355 ?_
  refine lv_aload_n hx hb d_law_1356 rfl (lv_at hl 0 rfl) ?_
  refine lv_iload_n hx hb d_law_1357 rfl (lv_at hl 3 rfl) ?_
  refine lv_iconst (v := (2 : Int32)) hx hb d_law_1358 (by decide) ?_
  refine lv_iadd hx hb d_law_1359 ?_
  refine va_sld hx hb hX hbl hbA hL.2.2 (hin 2 (by decide)) d_law_1360 ?_
  refine law_cC (As := [.int (xs (i + (1 : Int32)).toNatClampNeg), .int (xs (i + (2 : Int32)).toNatClampNeg)]) (rest := []) S hZ hL kc (cw_Law_179 S.2.2.2.2 (Nat.le_of_ble_eq_true rfl) (Nat.le_of_ble_eq_true rfl)) rfl hl.1 rfl (Nat.le_of_ble_eq_true rfl) d_law_1361 ⟨Nat.le_of_ble_eq_true rfl, Nat.le_of_ble_eq_true rfl⟩ (fun H locs hL => ?_)
  refine lv_aload_n hx hb d_law_1364 rfl (lv_at hl 2 rfl) ?_
  refine lv_aload_n hx hb d_law_1365 rfl (lv_at hl 0 rfl) ?_
  refine lv_iload_n hx hb d_law_1366 rfl (lv_at hl 3 rfl) ?_
  refine lv_iconst (v := (1 : Int32)) hx hb d_law_1367 (by decide) ?_
  refine lv_iadd hx hb d_law_1368 ?_
  refine va_sld hx hb hX hbl hbA hL.2.2 (hin 1 (by decide)) d_law_1369 ?_
  refine lv_aload_n hx hb d_law_1370 rfl (lv_at hl 0 rfl) ?_
  refine lv_iload_n hx hb d_law_1371 rfl (lv_at hl 3 rfl) ?_
  refine lv_iconst (v := (2 : Int32)) hx hb d_law_1372 (by decide) ?_
  refine lv_iadd hx hb d_law_1373 ?_
  refine va_sld hx hb hX hbl hbA hL.2.2 (hin 2 (by decide)) d_law_1374 ?_
  refine law_cM (As := [.int (xs (i + (1 : Int32)).toNatClampNeg), .int (xs (i + (2 : Int32)).toNatClampNeg)]) (rest := [.int r]) S hZ hL km (cw_Law_182 S.2.2.2.2 (Nat.le_of_ble_eq_true rfl) (Nat.le_of_ble_eq_true rfl)) rfl hl.1 rfl (Nat.le_of_ble_eq_true rfl) d_law_1375 ⟨Nat.le_of_ble_eq_true rfl, Nat.le_of_ble_eq_true rfl⟩ (fun H locs hL => ?_)
  refine lv_icmp_eq (tgt := 1426) hx hb d_law_1378 (by decide) (fun _ => ?_) (fun c => absurd rfl c)
  exact K Mc' Mm' H locs hR' hL
set_option maxHeartbeats 4000000 in
theorem law_case_40 {p : Program} {e : Env} {s : State} {m : MethodId} {below : List Frame} {meth : Method} {c : Code} (l : Launch) {b L : Nat} {xs : Nat → Int32} {Q : State → Prop} (C0 : lw_At p s m meth c b L xs) {Zc Zm : WD} (hZ : LZ Zc Zm s) {Mc Mm : Mem} (hR : Rel Mc Mm) {H : Heap} {locs : List Loc} (hL : LW Zc Zm Mc Mm s H locs) {i : Int32} (hin : ∀ k, k < 6 → vp_in (i + nI k) L) {ls : Array Slot} (hl : lv_has ls 4 [(0, .ref b), (1, .ref (Zc.2.2.1 138)), (2, .ref (Zm.2.2.1 0)), (3, .int i)])
    (K : ∀ (Mc' Mm' : Mem) (H1 : Heap) (locs1 : List Loc), Rel Mc' Mm' → LW Zc Zm Mc' Mm' s H1 locs1 → W p l e room_1 s m #[Value.ref b] below meth c H1 locs1 600000 7302250 Q (F0 m 1426 ls [])) : W p l e room_1 s m #[Value.ref b] below meth c H locs 600000 7302250 Q (F0 m 1383 ls []) := by
  obtain ⟨hx, hb, hr, hml, hown, hts, hX, hbl, hlocks, hgv⟩ := id C0
  have hbA : ¬ (fun q : Nat => s.heap.size ≤ q) b := Nat.not_le.mpr hbl
  have S : CallFix p m c code 4 s #[Value.ref b] gtb R_law := ⟨hx, hb, hml, hown, fun w hw => hts w (gt_sub w hw)⟩
  obtain ⟨hIc, hZc, hIm, hZm, -⟩ := id hZ
  obtain ⟨r, Mc', Mm', kc, km, hR'⟩ := k_fault l hIc hZc hIm hZm hR (xs (i + (1 : Int32)).toNatClampNeg) (xs (i + (2 : Int32)).toNatClampNeg) (xs (i + (3 : Int32)).toNatClampNeg)
  refine lv_aload_n hx hb d_law_1383 rfl (lv_at hl 1 rfl) ?_
  refine lv_aload_n hx hb d_law_1384 rfl (lv_at hl 0 rfl) ?_
  refine lv_iload_n hx hb d_law_1385 rfl (lv_at hl 3 rfl) ?_
  refine lv_iconst (v := (1 : Int32)) hx hb d_law_1386 (by decide) ?_
  refine lv_iadd hx hb d_law_1387 ?_
  refine va_sld hx hb hX hbl hbA hL.2.2 (hin 1 (by decide)) d_law_1388 ?_
  refine lv_aload_n hx hb d_law_1389 rfl (lv_at hl 0 rfl) ?_
  refine lv_iload_n hx hb d_law_1390 rfl (lv_at hl 3 rfl) ?_
  refine lv_iconst (v := (2 : Int32)) hx hb d_law_1391 (by decide) ?_
  refine lv_iadd hx hb d_law_1392 ?_
  refine va_sld hx hb hX hbl hbA hL.2.2 (hin 2 (by decide)) d_law_1393 ?_
  refine lv_aload_n hx hb d_law_1394 rfl (lv_at hl 0 rfl) ?_
  refine lv_iload_n hx hb d_law_1395 rfl (lv_at hl 3 rfl) ?_
  refine lv_iconst (v := (3 : Int32)) hx hb d_law_1396 (by decide) ?_
  refine lv_iadd hx hb d_law_1397 ?_
  refine va_sld hx hb hX hbl hbA hL.2.2 (hin 3 (by decide)) d_law_1398 ?_
  refine law_cC (As := [.int (xs (i + (1 : Int32)).toNatClampNeg), .int (xs (i + (2 : Int32)).toNatClampNeg), .int (xs (i + (3 : Int32)).toNatClampNeg)]) (rest := []) S hZ hL kc (cw_Law_183 S.2.2.2.2 (Nat.le_of_ble_eq_true rfl) (Nat.le_of_ble_eq_true rfl)) rfl hl.1 rfl (Nat.le_of_ble_eq_true rfl) d_law_1399 ⟨Nat.le_of_ble_eq_true rfl, Nat.le_of_ble_eq_true rfl⟩ (fun H locs hL => ?_)
  refine lv_aload_n hx hb d_law_1402 rfl (lv_at hl 2 rfl) ?_
  refine lv_aload_n hx hb d_law_1403 rfl (lv_at hl 0 rfl) ?_
  refine lv_iload_n hx hb d_law_1404 rfl (lv_at hl 3 rfl) ?_
  refine lv_iconst (v := (1 : Int32)) hx hb d_law_1405 (by decide) ?_
  refine lv_iadd hx hb d_law_1406 ?_
  refine va_sld hx hb hX hbl hbA hL.2.2 (hin 1 (by decide)) d_law_1407 ?_
  refine lv_aload_n hx hb d_law_1408 rfl (lv_at hl 0 rfl) ?_
  refine lv_iload_n hx hb d_law_1409 rfl (lv_at hl 3 rfl) ?_
  refine lv_iconst (v := (2 : Int32)) hx hb d_law_1410 (by decide) ?_
  refine lv_iadd hx hb d_law_1411 ?_
  refine va_sld hx hb hX hbl hbA hL.2.2 (hin 2 (by decide)) d_law_1412 ?_
  refine lv_aload_n hx hb d_law_1413 rfl (lv_at hl 0 rfl) ?_
  refine lv_iload_n hx hb d_law_1414 rfl (lv_at hl 3 rfl) ?_
  refine lv_iconst (v := (3 : Int32)) hx hb d_law_1415 (by decide) ?_
  refine lv_iadd hx hb d_law_1416 ?_
  refine va_sld hx hb hX hbl hbA hL.2.2 (hin 3 (by decide)) d_law_1417 ?_
  refine law_cM (As := [.int (xs (i + (1 : Int32)).toNatClampNeg), .int (xs (i + (2 : Int32)).toNatClampNeg), .int (xs (i + (3 : Int32)).toNatClampNeg)]) (rest := [.int r]) S hZ hL km (cw_Law_186 S.2.2.2.2 (Nat.le_of_ble_eq_true rfl) (Nat.le_of_ble_eq_true rfl)) rfl hl.1 rfl (Nat.le_of_ble_eq_true rfl) d_law_1418 ⟨Nat.le_of_ble_eq_true rfl, Nat.le_of_ble_eq_true rfl⟩ (fun H locs hL => ?_)
  refine lv_icmp_eq (tgt := 1426) hx hb d_law_1421 (by decide) (fun _ => ?_) (fun c => absurd rfl c)
  exact K Mc' Mm' H locs hR' hL
