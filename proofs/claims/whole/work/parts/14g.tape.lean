/-! feed, end -/
theorem i32_nI (x : Int32) : ∃ n : Nat, x = nI n := ⟨x.toBitVec.toNat, by
  apply Int32.toBitVec_inj.1
  show x.toBitVec = BitVec.ofNat 32 x.toBitVec.toNat
  rw [BitVec.ofNat_toNat, BitVec.setWidth_eq]⟩
theorem ch_256 : ∀ b, b < 256 → vp_nar .char (((nI b).toUInt32 % 65536).toInt32) = nI b := by decide +kernel
theorem by_256 : ∀ b, b < 256 → vp_nar .byte ((nI b).toInt8.toInt32) = sbI b := by decide +kernel
theorem i8_mod (n : Nat) : (nI n).toInt8 = (nI (n % 256)).toInt8 := by
  have e : ∀ m, (nI m).toInt8 = Int8.ofNat m := fun m => Int32.toInt8_ofNat
  rw [e, e]
  apply Int8.toBitVec_inj.1
  show BitVec.ofNat 8 n = BitVec.ofNat 8 (n % 256)
  apply BitVec.eq_of_toNat_eq
  rw [BitVec.toNat_ofNat, BitVec.toNat_ofNat]
  omega
theorem byte_of (y : Int32) : ∃ b, b < 256 ∧ vp_nar .char (((y &&& 255).toUInt32 % 65536).toInt32) = nI b ∧ vp_nar .byte (y.toInt8.toInt32) = sbI b := by
  obtain ⟨n, rfl⟩ := i32_nI y
  refine ⟨n % 256, Nat.mod_lt _ (by decide), ?_, ?_⟩
  · rw [show (255 : Int32) = nI (2 ^ 8 - 1) from rfl, fa_mask]
    exact ch_256 _ (Nat.mod_lt _ (by decide))
  · rw [i8_mod]
    exact by_256 _ (Nat.mod_lt _ (by decide))
def svI (i : Nat) : Int32 := if i = 0 then 24 else if i = 1 then 16 else if i = 2 then 8 else if i = 3 then 0 else -8
theorem svI_next : ∀ i, i < 4 → svI i + (-8) = svI (i + 1) ∧ ¬ svI i < 0 := by decide
def RelTn (tl : Nat) (B : Nat → Nat) (Mc Mm : Mem) : Prop := Mc 136 2 = nI tl ∧ Mm 0 8 = nI tl ∧ ∀ i, i < tl → B i < 256 ∧ Mc 137 i = nI (B i) ∧ Mm 7 i = sbI (B i)
def FrT (Mc Mm Mc' Mm' : Mem) : Prop := (∀ a, a ≠ 136 → a ≠ 137 → Mc' a = Mc a) ∧ (∀ b, b ≠ 2 → Mc' 136 b = Mc 136 b) ∧ (∀ a, a ≠ 0 → a ≠ 7 → Mm' a = Mm a) ∧ ∀ b, b ≠ 8 → Mm' 0 b = Mm 0 b
theorem FrT.tr {Mc Mm Mc' Mm' Mc'' Mm'' : Mem} (h : FrT Mc Mm Mc' Mm') (h' : FrT Mc' Mm' Mc'' Mm'') : FrT Mc Mm Mc'' Mm'' := ⟨fun a e1 e2 => (h'.1 a e1 e2).trans (h.1 a e1 e2), fun b e => (h'.2.1 b e).trans (h.2.1 b e), fun a e1 e2 => (h'.2.2.1 a e1 e2).trans (h.2.2.1 a e1 e2), fun b e => (h'.2.2.2 b e).trans (h.2.2.2 b e)⟩
theorem put_sp {Mc Mm : Mem} {tl : Nat} {B : Nat → Nat} (x : Int32) (ht : tl + 4 ≤ 400) (h : RelTn tl B Mc Mm) : ∃ Mc' Mm' B', f_Tape_append Mc x = some Mc' ∧ f_MM_puts Mm x = some Mm' ∧ RelTn (tl + 4) B' Mc' Mm' ∧ FrT Mc Mm Mc' Mm' := by
  obtain ⟨h1, h2, h3⟩ := h
  have hb := fun i => byte_of (x >>> (svI i &&& 31))
  obtain ⟨c, hc⟩ : ∃ c : Nat → Nat, ∀ i, c i < 256 ∧ vp_nar .char ((((x >>> (svI i &&& 31)) &&& 255).toUInt32 % 65536).toInt32) = nI (c i) ∧ vp_nar .byte ((x >>> (svI i &&& 31)).toInt8.toInt32) = sbI (c i) := ⟨fun i => Classical.choose (hb i), fun i => Classical.choose_spec (hb i)⟩
  obtain ⟨A, a1, a2, a3, a4, a5⟩ : ∃ A, f_Tape_append Mc x = some A ∧ (∀ a, a ≠ 136 → a ≠ 137 → A a = Mc a) ∧ (∀ b, b ≠ 2 → A 136 b = Mc 136 b) ∧ A 136 2 = nI (tl + 4) ∧ ∀ j, j < tl + 4 → A 137 j = if j < tl then Mc 137 j else nI (c (j - tl)) := by
    unfold f_Tape_append f_Tape_append_J3
    rw [bnd_id]
    unfold f_Tape_append_W3
    suffices hh : ∃ A, loop (fun t => f_Tape_append_L3 x t.1 t.2) ((fun (i : Nat) (s : Mem) => (svI i, s)) 0 Mc) = some A ∧ ((∀ a, a ≠ 136 → a ≠ 137 → A a = Mc a) ∧ (∀ b, b ≠ 2 → A 136 b = Mc 136 b) ∧ A 136 2 = nI (tl + 4) ∧ ∀ j, j < tl + 4 → A 137 j = if j < tl then Mc 137 j else nI (c (j - tl))) by exact hh
    refine loop_enc (fun i s => (svI i, s)) 4 (fun i A => (∀ a, a ≠ 136 → a ≠ 137 → A a = Mc a) ∧ (∀ b, b ≠ 2 → A 136 b = Mc 136 b) ∧ A 136 2 = nI (tl + i) ∧ ∀ j, j < tl + i → A 137 j = if j < tl then Mc 137 j else nI (c (j - tl))) _ ?_ ?_ 0 Mc (Nat.zero_le _) ⟨fun _ _ _ => rfl, fun _ _ => rfl, h1, fun j hj => by rw [if_pos (by omega)]⟩
    · rintro i N hi ⟨g1, g2, g3, g4⟩
      obtain ⟨s1, s2⟩ := svI_next i hi
      refine Or.inl ⟨upM (upM N 137 (tl + i) (nI (c i))) 136 2 (nI (tl + i + 1)), ?_, fun a e1 e2 => by rw [upM_row e1, upM_row e2, g1 a e1 e2], fun b e => by rw [upM_ne (by omega), upM_row (by decide), g2 b e], upM_eq, fun j hj => ?_⟩
      · show f_Tape_append_L3 x (svI i) N = _
        unfold f_Tape_append_L3
        rw [if_neg s2, g3, show (400 : Int32) = nI 400 from rfl, if_neg (nI_ge (by omega) (by decide)), gIn_nI (by omega) (by decide), (hc i).2.1, nI_clamp (by omega), lt1_eq, upM_row (by decide), g3, lt1_eq, s1, ← nI_succ]
      · rw [upM_row (by decide)]
        by_cases e : j = tl + i
        · rw [e, upM_eq, if_neg (by omega), Nat.add_sub_cancel_left]
        · rw [upM_ne (fun _ => e)]
          exact g4 j (by omega)
    · rintro N ⟨g1, g2, g3, g4⟩
      refine ⟨N, ?_, g1, g2, g3, g4⟩
      show f_Tape_append_L3 x (svI 4) N = _
      unfold f_Tape_append_L3
      rw [if_pos (by decide)]
  obtain ⟨E, b1, b2, b3, b4, b5⟩ : ∃ A, f_MM_puts Mm x = some A ∧ (∀ a, a ≠ 0 → a ≠ 7 → A a = Mm a) ∧ (∀ b, b ≠ 8 → A 0 b = Mm 0 b) ∧ A 0 8 = nI (tl + 4) ∧ ∀ j, j < tl + 4 → A 7 j = if j < tl then Mm 7 j else sbI (c (j - tl)) := by
    unfold f_MM_puts f_MM_puts_J3
    rw [bnd_id]
    unfold f_MM_puts_W3
    suffices hh : ∃ A, loop (fun t => f_MM_puts_L3 x t.1 t.2) ((fun (i : Nat) (s : Mem) => (svI i, s)) 0 Mm) = some A ∧ ((∀ a, a ≠ 0 → a ≠ 7 → A a = Mm a) ∧ (∀ b, b ≠ 8 → A 0 b = Mm 0 b) ∧ A 0 8 = nI (tl + 4) ∧ ∀ j, j < tl + 4 → A 7 j = if j < tl then Mm 7 j else sbI (c (j - tl))) by exact hh
    refine loop_enc (fun i s => (svI i, s)) 4 (fun i A => (∀ a, a ≠ 0 → a ≠ 7 → A a = Mm a) ∧ (∀ b, b ≠ 8 → A 0 b = Mm 0 b) ∧ A 0 8 = nI (tl + i) ∧ ∀ j, j < tl + i → A 7 j = if j < tl then Mm 7 j else sbI (c (j - tl))) _ ?_ ?_ 0 Mm (Nat.zero_le _) ⟨fun _ _ _ => rfl, fun _ _ => rfl, h2, fun j hj => by rw [if_pos (by omega)]⟩
    · rintro i N hi ⟨g1, g2, g3, g4⟩
      obtain ⟨s1, s2⟩ := svI_next i hi
      refine Or.inl ⟨upM (upM N 7 (tl + i) (sbI (c i))) 0 8 (nI (tl + i + 1)), ?_, fun a e1 e2 => by rw [upM_row e1, upM_row e2, g1 a e1 e2], fun b e => by rw [upM_ne (by omega), upM_row (by decide), g2 b e], upM_eq, fun j hj => ?_⟩
      · show f_MM_puts_L3 x (svI i) N = _
        unfold f_MM_puts_L3
        rw [if_neg s2, g3, gIn_nI (by omega) (by decide), (hc i).2.2, nI_clamp (by omega), lt1_eq, upM_row (by decide), g3, lt1_eq, s1, ← nI_succ]
      · rw [upM_row (by decide)]
        by_cases e : j = tl + i
        · rw [e, upM_eq, if_neg (by omega), Nat.add_sub_cancel_left]
        · rw [upM_ne (fun _ => e)]
          exact g4 j (by omega)
    · rintro N ⟨g1, g2, g3, g4⟩
      refine ⟨N, ?_, g1, g2, g3, g4⟩
      show f_MM_puts_L3 x (svI 4) N = _
      unfold f_MM_puts_L3
      rw [if_pos (by decide)]
  refine ⟨A, E, fun j => if j < tl then B j else c (j - tl), a1, b1, ⟨a4, b4, fun j hj => ?_⟩, a2, a3, b2, b3⟩
  show (if j < tl then B j else c (j - tl)) < 256 ∧ A 137 j = nI (if j < tl then B j else c (j - tl)) ∧ E 7 j = sbI (if j < tl then B j else c (j - tl))
  rw [a5 j hj, b5 j hj]
  by_cases e : j < tl
  · rw [if_pos e, if_pos e, if_pos e]
    exact h3 j e
  · rw [if_neg e, if_neg e, if_neg e]
    exact ⟨(hc _).1, rfl, rfl⟩
theorem Rel.tape {Mc Mm Mc' Mm' : Mem} (h : Rel Mc Mm) (hf : FrT Mc Mm Mc' Mm') (hT : RelT Mc' Mm') : Rel Mc' Mm' := by
  obtain ⟨⟨R, h1⟩, h2, h3, h4⟩ := h
  obtain ⟨f1, f2, f3, f4⟩ := hf
  refine ⟨⟨R, h1.cg (fun a ha => f1 a (by omega) (by omega)) (fun a _ ha => f1 a (by omega) (by omega)) ?_ ?_⟩, h2.cg (fun a _ ha => f1 a (by omega) (by omega)) (by rw [f1 138 (by decide) (by decide)]) (f1 139 (by decide) (by decide)) (f4 6 (by decide)) (f3 4 (by decide) (by decide)), h3.cg (fun a _ ha => f1 a (by omega) (by omega)) (by rw [f1 138 (by decide) (by decide)]) (f1 140 (by decide) (by decide)) (f3 5 (by decide) (by decide)) (f3 6 (by decide) (by decide)), hT⟩
  · rw [f3 1 (by decide) (by decide)]
    exact h1.2.2.1
  · rw [f4 28 (by decide)]
    exact h1.2.2.2.2.1
theorem a_feed {Mc Mm : Mem} (h : Rel Mc Mm) (x1 x2 x3 x4 x5 : Int32) : Act (f_MC_feed Mc x1 x2 x3 x4 x5) (f_MM_feed Mm x1 x2 x3 x4 x5) := by
  have hrel := h
  obtain ⟨-, -, -, ⟨tl, B, t0, t1, t2, t3⟩⟩ := h
  unfold f_MC_feed f_MM_feed
  rw [t1, t2, show (20 : Int32) = nI 20 from rfl, show (400 : Int32) = nI 400 from rfl, nI_add]
  by_cases w : tl + 20 ≤ 400
  · obtain ⟨A1, E1, B1, a1, e1, r1, f1⟩ := put_sp x1 (by omega) ⟨t1, t2, t3⟩
    obtain ⟨A2, E2, B2, a2, e2, r2, f2⟩ := put_sp x2 (by omega) r1
    obtain ⟨A3, E3, B3, a3, e3, r3, f3⟩ := put_sp x3 (by omega) r2
    obtain ⟨A4, E4, B4, a4, e4, r4, f4⟩ := put_sp x4 (by omega) r3
    obtain ⟨A5, E5, B5, a5, e5, r5, f5⟩ := put_sp x5 (by omega) r4
    rw [if_pos ((nI_leI (by omega) (by decide)).mpr w), if_pos ((nI_leI (by omega) (by decide)).mpr w), a1, bnd_some, a2, bnd_some, a3, bnd_some, a4, bnd_some, a5, bnd_some, e1, bnd_some, e2, bnd_some, e3, bnd_some, e4, bnd_some, e5, bnd_some, r5.1, r5.2.1]
    exact ⟨_, A5, E5, rfl, rfl, hrel.tape (f1.tr (f2.tr (f3.tr (f4.tr f5)))) ⟨_, B5, by omega, r5.1, r5.2.1, r5.2.2⟩⟩
  · rw [if_neg (nI_ge (by omega) (by omega)), if_neg (nI_ge (by omega) (by omega))]
    exact Act.no hrel rfl rfl
theorem a_end {Mc Mm : Mem} (h : Rel Mc Mm) (x1 : Int32) : Act (f_MC_end Mc x1) (f_MM_end Mm x1) := by
  have hrel := h
  obtain ⟨-, -, -, ⟨tl, B, t0, t1, t2, t3⟩⟩ := h
  unfold f_MC_end f_MM_end
  rw [t1, t2]
  rcases i32c x1 with w | ⟨n, hn, rfl⟩
  · rw [if_pos w, if_pos w]
    exact Act.no hrel rfl rfl
  · rw [if_neg (nI_pos hn), if_neg (nI_pos hn)]
    by_cases w : n ≤ tl
    · rw [if_pos ((nI_leI hn (by omega)).mpr w), if_pos ((nI_leI hn (by omega)).mpr w), lt1_eq, lt1_eq]
      refine ⟨_, _, _, rfl, rfl, hrel.tape ⟨fun a e1 _ => upM_row e1, fun b e => upM_ne (fun _ => e), fun a e1 _ => upM_row e1, fun b e => upM_ne (fun _ => e)⟩ ⟨n, B, by omega, upM_eq, upM_eq, fun i hi => ?_⟩⟩
      rw [upM_row (by decide), upM_row (by decide)]
      exact t3 i (by omega)
    · rw [if_neg (nI_ge (by omega) hn), if_neg (nI_ge (by omega) hn)]
      exact Act.no hrel rfl rfl
