/-! the law's loop -/
theorem vp_nI {j n : Nat} (h : j < n) (hn : n ≤ 2147483648) : vp_in (nI j) n := by
  refine vp_c ?_
  rintro (h1 | h1)
  · exact nI_pos (by omega) h1
  · rw [nI_clamp (by omega)] at h1
    omega
theorem sw41 (v : Int32) : (∃ k : Nat, k < 41 ∧ v = nI k) ∨ (v.toInt < 0 ∨ 40 < v.toInt) := by
  rcases i32r v 41 (by decide) with h | h
  · right
    rcases h with h | h
    · left
      rw [Int32.lt_iff_toInt_lt] at h
      exact h
    · right
      rw [Int32.le_iff_toInt_le, nI_toInt (by decide)] at h
      omega
  · exact Or.inl h
set_option maxHeartbeats 4000000 in
theorem law_loop {p : Program} {e : Env} {s : State} {m : MethodId} {below : List Frame} {meth : Method} {c : Code} (l : Launch) {b L : Nat} {xs : Nat → Int32} (hL3 : L ≤ 3072) (C0 : lw_At p s m meth c b L xs) {Zc Zm : WD} (hZ : LZ Zc Zm s) : ∀ (n j : Nat), j ≤ L → L - j < n → ∀ (Mc Mm : Mem) (H : Heap) (locs : List Loc) (ls : Array Slot), Rel Mc Mm → LW Zc Zm Mc Mm s H locs → lv_has ls 4 [(0, .ref b), (1, .ref (Zc.2.2.1 138)), (2, .ref (Zm.2.2.1 0)), (3, .int (nI j))] → W p l e room_1 s m #[Value.ref b] below meth c H locs 600000 7302250 (lw_Z below #[Value.ref b] s) (F0 m 18 ls []) := by
  have C0' := C0
  obtain ⟨hx, hb, hr, hml, hown, hts, hX, hbl, hlocks, hgv⟩ := id C0
  have hbA : ¬ (fun q : Nat => s.heap.size ≤ q) b := Nat.not_le.mpr hbl
  intro n
  induction n with
  | zero => intro j h1 h2; omega
  | succ n ih =>
    intro j hj hn Mc Mm H locs ls hR hL hl
    refine lv_iload_n hx hb d_law_18 rfl (lv_at hl 3 rfl) ?_
    refine lv_aload_n hx hb d_law_19 rfl (lv_at hl 0 rfl) ?_
    refine va_slen hx hb hX hbl hbA hL.2.2 d_law_20 ?_
    refine lv_bipush (v := (6 : Int32)) hx hb d_law_21 (by decide) ?_
    refine lv_isub hx hb d_law_23 ?_
    have eL : Int32.ofNat L = nI L := rfl
    rw [eL]
    refine lv_icmp_gt (tgt := 1432) hx hb d_law_24 (by decide) (fun hc => ?_) (fun hc => ?_)
    · refine lv_iconst (v := (1 : Int32)) hx hb d_law_1432 (by decide) ?_
      refine va_forget (fun q hq => hL.2.2.2.2 q hq) ?_
      exact lw_ret hx hb hr hlocks d_law_1433
    · have h6 : j + 6 ≤ L := by
        by_cases w : 6 ≤ L
        · rw [show nI L - 6 = nI (L - 6) from pk_sub (b := 6) w] at hc
          refine Nat.le_of_not_lt (fun q => hc (nI_lt (by omega) (by omega)))
        · refine absurd ?_ hc
          rw [Int32.lt_iff_toInt_lt, nI_toInt (by omega)]
          have e6 : ∀ k, k < 6 → (nI k - 6).toInt < 0 := by decide
          have := e6 L (by omega)
          omega
      have hin : ∀ k, k < 6 → vp_in (nI j + nI k) L := fun k hk => by
        rw [nI_add]
        exact vp_nI (by omega) (by omega)
      refine lv_aload_n hx hb d_law_27 rfl (lv_at hl 0 rfl) ?_
      refine lv_iload_n hx hb d_law_28 rfl (lv_at hl 3 rfl) ?_
      refine va_sld hx hb hX hbl hbA hL.2.2 (vp_nI (by omega) (by omega)) d_law_29 ?_
      refine lv_bipush (v := (63 : Int32)) hx hb d_law_30 (by decide) ?_
      refine lv_iand hx hb d_law_32 ?_
      have K : ∀ (Mc' Mm' : Mem) (H1 : Heap) (locs1 : List Loc), Rel Mc' Mm' → LW Zc Zm Mc' Mm' s H1 locs1 → W p l e room_1 s m #[Value.ref b] below meth c H1 locs1 600000 7302250 (lw_Z below #[Value.ref b] s) (F0 m 1426 ls []) := by
        intro Mc' Mm' H1 locs1 hR' hL'
        refine lv_iinc (v := nI (j + 6)) (lv' := [(3, .int (nI (j + 6))), (0, .ref b), (1, .ref (Zc.2.2.1 138)), (2, .ref (Zm.2.2.1 0))]) hx hb d_law_1426 hl (k := 3) rfl (by rw [← nI_add]; rfl) (by decide) rfl (fun ls hl => ?_)
        refine lv_goto (tgt := 18) hx hb d_law_1429 (by decide) ?_
        exact ih (j + 6) h6 (by omega) Mc' Mm' H1 locs1 ls hR' hL' (lv_sub hl [1, 2, 3, 0] rfl)
      generalize (xs (nI j).toNatClampNeg &&& (63 : Int32)) = v
      rcases sw41 v with ⟨k, hk, rfl⟩ | ho
      · rcases (show k = 0 ∨ k = 1 ∨ k = 2 ∨ k = 3 ∨ k = 4 ∨ k = 5 ∨ k = 6 ∨ k = 7 ∨ k = 8 ∨ k = 9 ∨ k = 10 ∨ k = 11 ∨ k = 12 ∨ k = 13 ∨ k = 14 ∨ k = 15 ∨ k = 16 ∨ k = 17 ∨ k = 18 ∨ k = 19 ∨ k = 20 ∨ k = 21 ∨ k = 22 ∨ k = 23 ∨ k = 24 ∨ k = 25 ∨ k = 26 ∨ k = 27 ∨ k = 28 ∨ k = 29 ∨ k = 30 ∨ k = 31 ∨ k = 32 ∨ k = 33 ∨ k = 34 ∨ k = 35 ∨ k = 36 ∨ k = 37 ∨ k = 38 ∨ k = 39 ∨ k = 40 by omega) with rfl | rfl | rfl | rfl | rfl | rfl | rfl | rfl | rfl | rfl | rfl | rfl | rfl | rfl | rfl | rfl | rfl | rfl | rfl | rfl | rfl | rfl | rfl | rfl | rfl | rfl | rfl | rfl | rfl | rfl | rfl | rfl | rfl | rfl | rfl | rfl | rfl | rfl | rfl | rfl | rfl
        · refine lv_tableIn (tgt := 212) hx hb d_law_33 (by decide) (by decide) rfl (by decide) ?_
          exact law_case_0 l C0' hZ hR hL hin hl K
        · refine lv_tableIn (tgt := 275) hx hb d_law_33 (by decide) (by decide) rfl (by decide) ?_
          exact law_case_1 l C0' hZ hR hL hin hl K
        · refine lv_tableIn (tgt := 298) hx hb d_law_33 (by decide) (by decide) rfl (by decide) ?_
          exact law_case_2 l C0' hZ hR hL hin hl K
        · refine lv_tableIn (tgt := 311) hx hb d_law_33 (by decide) (by decide) rfl (by decide) ?_
          exact law_case_3 l C0' hZ hR hL hin hl K
        · refine lv_tableIn (tgt := 344) hx hb d_law_33 (by decide) (by decide) rfl (by decide) ?_
          exact law_case_4 l C0' hZ hR hL hin hl K
        · refine lv_tableIn (tgt := 367) hx hb d_law_33 (by decide) (by decide) rfl (by decide) ?_
          exact law_case_5 l C0' hZ hR hL hin hl K
        · refine lv_tableIn (tgt := 430) hx hb d_law_33 (by decide) (by decide) rfl (by decide) ?_
          exact law_case_6 l C0' hZ hR hL hin hl K
        · refine lv_tableIn (tgt := 463) hx hb d_law_33 (by decide) (by decide) rfl (by decide) ?_
          exact law_case_7 l C0' hZ hR hL hin hl K
        · refine lv_tableIn (tgt := 506) hx hb d_law_33 (by decide) (by decide) rfl (by decide) ?_
          exact law_case_8 l C0' hZ hR hL hin hl K
        · refine lv_tableIn (tgt := 559) hx hb d_law_33 (by decide) (by decide) rfl (by decide) ?_
          exact law_case_9 l C0' hZ hR hL hin hl K
        · refine lv_tableIn (tgt := 572) hx hb d_law_33 (by decide) (by decide) rfl (by decide) ?_
          exact law_case_10 l C0' hZ hR hL hin hl K
        · refine lv_tableIn (tgt := 605) hx hb d_law_33 (by decide) (by decide) rfl (by decide) ?_
          exact law_case_11 l C0' hZ hR hL hin hl K
        · refine lv_tableIn (tgt := 618) hx hb d_law_33 (by decide) (by decide) rfl (by decide) ?_
          exact law_case_12 l C0' hZ hR hL hin hl K
        · refine lv_tableIn (tgt := 641) hx hb d_law_33 (by decide) (by decide) rfl (by decide) ?_
          exact law_case_13 l C0' hZ hR hL hin hl K
        · refine lv_tableIn (tgt := 664) hx hb d_law_33 (by decide) (by decide) rfl (by decide) ?_
          exact law_case_14 l C0' hZ hR hL hin hl K
        · refine lv_tableIn (tgt := 697) hx hb d_law_33 (by decide) (by decide) rfl (by decide) ?_
          exact law_case_15 l C0' hZ hR hL hin hl K
        · refine lv_tableIn (tgt := 720) hx hb d_law_33 (by decide) (by decide) rfl (by decide) ?_
          exact law_case_16 l C0' hZ hR hL hin hl K
        · refine lv_tableIn (tgt := 763) hx hb d_law_33 (by decide) (by decide) rfl (by decide) ?_
          exact law_case_17 l C0' hZ hR hL hin hl K
        · refine lv_tableIn (tgt := 796) hx hb d_law_33 (by decide) (by decide) rfl (by decide) ?_
          exact law_case_18 l C0' hZ hR hL hin hl K
        · refine lv_tableIn (tgt := 829) hx hb d_law_33 (by decide) (by decide) rfl (by decide) ?_
          exact law_case_19 l C0' hZ hR hL hin hl K
        · refine lv_tableIn (tgt := 853) hx hb d_law_33 (by decide) (by decide) rfl (by decide) ?_
          exact law_case_20 l C0' hZ hR hL hin hl K
        · refine lv_tableIn (tgt := 916) hx hb d_law_33 (by decide) (by decide) rfl (by decide) ?_
          exact law_case_21 l C0' hZ hR hL hin hl K
        · refine lv_tableIn (tgt := 939) hx hb d_law_33 (by decide) (by decide) rfl (by decide) ?_
          exact law_case_22 l C0' hZ hR hL hin hl K
        · refine lv_tableIn (tgt := 962) hx hb d_law_33 (by decide) (by decide) rfl (by decide) ?_
          exact law_case_23 l C0' hZ hR hL hin hl K
        · refine lv_tableIn (tgt := 995) hx hb d_law_33 (by decide) (by decide) rfl (by decide) ?_
          exact law_case_24 l C0' hZ hR hL hin hl K
        · refine lv_tableIn (tgt := 1008) hx hb d_law_33 (by decide) (by decide) rfl (by decide) ?_
          exact law_case_25 l C0' hZ hR hL hin hl K
        · refine lv_tableIn (tgt := 1021) hx hb d_law_33 (by decide) (by decide) rfl (by decide) ?_
          exact law_case_26 l C0' hZ hR hL hin hl K
        · refine lv_tableIn (tgt := 1034) hx hb d_law_33 (by decide) (by decide) rfl (by decide) ?_
          exact law_case_27 l C0' hZ hR hL hin hl K
        · refine lv_tableIn (tgt := 1047) hx hb d_law_33 (by decide) (by decide) rfl (by decide) ?_
          exact law_case_28 l C0' hZ hR hL hin hl K
        · refine lv_tableIn (tgt := 1090) hx hb d_law_33 (by decide) (by decide) rfl (by decide) ?_
          exact law_case_29 l C0' hZ hR hL hin hl K
        · refine lv_tableIn (tgt := 1123) hx hb d_law_33 (by decide) (by decide) rfl (by decide) ?_
          exact law_case_30 l C0' hZ hR hL hin hl K
        · refine lv_tableIn (tgt := 1136) hx hb d_law_33 (by decide) (by decide) rfl (by decide) ?_
          exact law_case_31 l C0' hZ hR hL hin hl K
        · refine lv_tableIn (tgt := 1169) hx hb d_law_33 (by decide) (by decide) rfl (by decide) ?_
          exact law_case_32 l C0' hZ hR hL hin hl K
        · refine lv_tableIn (tgt := 1212) hx hb d_law_33 (by decide) (by decide) rfl (by decide) ?_
          exact law_case_33 l C0' hZ hR hL hin hl K
        · refine lv_tableIn (tgt := 1235) hx hb d_law_33 (by decide) (by decide) rfl (by decide) ?_
          exact law_case_34 l C0' hZ hR hL hin hl K
        · refine lv_tableIn (tgt := 1258) hx hb d_law_33 (by decide) (by decide) rfl (by decide) ?_
          exact law_case_35 l C0' hZ hR hL hin hl K
        · refine lv_tableIn (tgt := 1291) hx hb d_law_33 (by decide) (by decide) rfl (by decide) ?_
          exact law_case_36 l C0' hZ hR hL hin hl K
        · refine lv_tableIn (tgt := 1314) hx hb d_law_33 (by decide) (by decide) rfl (by decide) ?_
          exact law_case_37 l C0' hZ hR hL hin hl K
        · refine lv_tableIn (tgt := 1327) hx hb d_law_33 (by decide) (by decide) rfl (by decide) ?_
          exact law_case_38 l C0' hZ hR hL hin hl K
        · refine lv_tableIn (tgt := 1350) hx hb d_law_33 (by decide) (by decide) rfl (by decide) ?_
          exact law_case_39 l C0' hZ hR hL hin hl K
        · refine lv_tableIn (tgt := 1383) hx hb d_law_33 (by decide) (by decide) rfl (by decide) ?_
          exact law_case_40 l C0' hZ hR hL hin hl K
      · refine lv_tableOut (tgt := 1426) hx hb d_law_33 ho (by decide) ?_
        exact K Mc Mm H locs hR hL
