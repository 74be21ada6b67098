/-! words in the reference; numbers in both -/
theorem sb_255 : ∀ b, b < 256 → sbI b &&& 255 = nI b := by decide +kernel
def sgI (tl : Nat) (B : Nat → Nat) (s : Nat) : Int32 := if s < tl then nI (B s) else -1
def hdB (tl : Nat) (B : Nat → Nat) (s : Nat) : Bool := decide (s < tl) && dgB B s
theorem M_sign {tl : Nat} {B : Nat → Nat} (ht : tl ≤ 400) (hB : ∀ j, j < tl → B j < 256) {i w : Nat} {N : Mem} (h : TM tl B i w N) : f_MM_sign N = some (sgI tl B i) := by
  obtain ⟨h1, h2, h3, h4, h5⟩ := h
  unfold f_MM_sign sgI
  rw [h1, h3]
  by_cases z : i < tl
  · rw [if_neg (nI_ge z (by omega)), if_pos z, gIn_nI (by omega) (by decide), nI_clamp (by omega), h5 _ z, sb_255 _ (hB _ z)]
  · rw [if_pos ((nI_leI (by omega) (by omega)).mpr (by omega)), if_neg z]
theorem M_next {tl : Nat} {B : Nat → Nat} (ht : tl ≤ 400) (hB : ∀ j, j < tl → B j < 256) {i w : Nat} {N : Mem} (h : TM tl B i w N) : f_MM_next N = some (sgI tl B (runN (blB B) tl i), upM N 0 9 (nI (runN (blB B) tl i))) := by
  have h3 := h.2.2.1
  have h4 := h.2.2.2.1
  unfold f_MM_next f_MM_next_J0
  rw [bnd_id]
  unfold f_MM_next_W0
  have lp := run_loop (body := fun t => f_MM_next_L0 t) (blB B) h4 (fun k => upM N 0 9 (nI (i + k))) (fun k => (sgI tl B (i + k), upM N 0 9 (nI (i + k)))) (fun k hk hp => by
    show f_MM_next_L0 (upM N 0 9 (nI (i + k))) = _
    unfold f_MM_next_L0
    rw [M_sign ht hB (h.to (by omega)), bnd_some, if_pos (by unfold sgI; rw [if_pos hk]; unfold blB at hp; rw [of_decide_eq_true hp]; rfl), lt1_eq, upM_eq, upM_2, ← nI_succ, Nat.add_assoc]) (fun k hk hp => by
    show f_MM_next_L0 (upM N 0 9 (nI (i + k))) = _
    unfold f_MM_next_L0
    rw [M_sign ht hB (h.to (by omega)), bnd_some, bnd_some, if_neg (fun q => ?_)]
    unfold sgI at q
    by_cases z : i + k < tl
    · rw [if_pos z] at q
      have hb := hB _ z
      have := (nI_eq (b := 32) (by omega) (by omega)).mp q
      have hp := hp z
      unfold blB at hp
      rw [decide_eq_true this] at hp
      cases hp
    · rw [if_neg z] at q
      exact absurd q (by decide))
  obtain ⟨r1, -⟩ := runN_sp (blB B) h4
  rw [show i + (runN (blB B) tl i - i) = runN (blB B) tl i by omega] at lp
  rw [← lp]
  show loop _ N = loop _ (upM N 0 9 (nI (i + 0)))
  rw [upM_self (by rw [Nat.add_zero]; exact h3)]
theorem in_dg {tl : Nat} {B : Nat → Nat} (hB : ∀ j, j < tl → B j < 256) (s : Nat) : f_MM_in (sgI tl B s).toInt64 (48 : Int64) (57 : Int64) = hdB tl B s := by
  rw [M_in, Int32.toInt_toInt64, show (48 : Int64).toInt = 48 from rfl, show (57 : Int64).toInt = 57 from rfl]
  unfold sgI hdB dgB
  by_cases z : s < tl
  · have hb := hB _ z
    rw [if_pos z, nI_toInt (by omega), decide_eq_true z, Bool.true_and]
    by_cases c : 48 ≤ B s ∧ B s ≤ 57
    · rw [decide_eq_true c, decide_eq_true (show (48 : Int) ≤ (B s : Int) by omega), decide_eq_true (show (B s : Int) ≤ 57 by omega)]
      rfl
    · rw [decide_eq_false c, Bool.eq_false_iff]
      intro q
      simp only [Bool.and_eq_true, decide_eq_true_eq] at q
      omega
  · rw [if_neg z, decide_eq_false z]
    rfl
theorem M_isDigit {tl : Nat} {B : Nat → Nat} (ht : tl ≤ 400) (hB : ∀ j, j < tl → B j < 256) {i w : Nat} {N : Mem} (h : TM tl B i w N) : f_MM_isDigit N = some (hdB tl B (runN (blB B) tl i), upM N 0 9 (nI (runN (blB B) tl i))) := by
  unfold f_MM_isDigit
  rw [M_next ht hB h, bnd2_some, in_dg hB]
theorem sb_lt : ∀ b, b < 256 → (decide ((97 : Int64).toInt ≤ (sbI b).toInt) && decide ((sbI b).toInt ≤ (122 : Int64).toInt)) = decide (97 ≤ b ∧ b ≤ 122) := by decide +kernel
theorem M_word {tl : Nat} {B : Nat → Nat} (ht : tl ≤ 400) (hB : ∀ j, j < tl → B j < 256) {i w a : Nat} {N : Mem} (h : TM tl B i w N) (ha : a < 10) : f_MM_takes a N = some (wdB B a (runN (blB B) tl i) (runN (ltB B) tl (runN (blB B) tl i)), upM N 0 9 (nI (if wdB B a (runN (blB B) tl i) (runN (ltB B) tl (runN (blB B) tl i)) = true then runN (ltB B) tl (runN (blB B) tl i) else runN (blB B) tl i))) := by
  have hn := M_next ht hB h
  obtain ⟨r1, r2, r3, r4⟩ := runN_sp (blB B) h.2.2.2.1
  obtain ⟨s, hs⟩ : ∃ s, s = runN (blB B) tl i := ⟨_, rfl⟩
  rw [← hs] at hn r1 r2 r3 r4 ⊢
  obtain ⟨q1, q2, q3, q4⟩ := runN_sp (ltB B) r2
  obtain ⟨e, he⟩ : ∃ e, e = runN (ltB B) tl s := ⟨_, rfl⟩
  rw [← he] at q1 q2 q3 q4 ⊢
  have hl := len_9 a ha
  obtain ⟨A, hA⟩ : ∃ A, A = upM N 0 9 (nI s) := ⟨_, rfl⟩
  have hT : TM tl B s w A := by rw [hA]; exact h.to r2
  obtain ⟨t1, t2, t3, t4, t5⟩ := hT
  unfold f_MM_takes
  rw [hn, bnd2_some, ← hA]
  unfold f_MM_takes_J7
  have w7 : f_MM_takes_W7 a A 0 = some (nI (e - s)) := by
    unfold f_MM_takes_W7
    have lp := run_loop (body := fun t => f_MM_takes_L7 a A t) (ltB B) t4 (fun k => nI k) (fun k => nI k) (fun k hk hp => by
      unfold f_MM_takes_L7
      unfold ltB at hp
      rw [t1, t3, nI_add, if_neg (nI_ge hk (by omega)), gIn_nI (by omega) (by decide), nI_clamp (by omega), t5 _ hk, M_in, Int32.toInt_toInt64, sb_lt _ (hB _ hk), hp, gT, ← nI_succ]) (fun k hk hp => by
      unfold f_MM_takes_L7
      rw [t1, t3, nI_add]
      by_cases z : s + k < tl
      · have hp := hp z
        unfold ltB at hp
        rw [if_neg (nI_ge z (by omega)), gIn_nI (by omega) (by decide), nI_clamp (by omega), t5 _ z, M_in, Int32.toInt_toInt64, sb_lt _ (hB _ z), hp, gF]
      · rw [if_pos ((nI_leI (by omega) (by omega)).mpr (by omega))])
    rw [← he] at lp
    exact lp
  rw [w7, bnd_some]
  unfold f_MM_takes_J50 f_Str_length f_MM_takes_J63 f_MM_takes_J67
  have fin : ∀ b : Bool, f_MM_takes_J110 a A (nI (e - s)) (bI b) = some (b, upM N 0 9 (nI (if b = true then e else s))) := fun b => by
    unfold f_MM_takes_J110 f_MM_takes_J124
    rw [t3]
    cases b
    · rw [if_pos (show bI false = 0 from rfl), lt1_eq, if_pos (show bI false = 0 from rfl), hA, upM_2]
      rw [show nI s + 0 = nI s from by rw [show (0 : Int32) = nI 0 from rfl, nI_add, Nat.add_zero]]
      rfl
    · rw [if_neg (show ¬ bI true = 0 by decide), lt1_eq, if_neg (show ¬ bI true = 0 by decide), if_pos (show bI true = 1 from rfl), hA, upM_2, nI_add, show s + (e - s) = e by omega]
      rfl
  have w67 : ∀ b0 : Bool, (b0 = true → e - s = lenS.getD a 0) → f_MM_takes_W67 a A (nI (e - s)) (bI b0, 0) = some (bI (b0 && !anyB (fun k => !decide (nI (B (s + k)) = chS a k)) (e - s))) := by
    intro b0 hb0
    unfold f_MM_takes_W67
    suffices hh : ∃ r, loop (fun t => f_MM_takes_L67 a A (nI (e - s)) t.1 t.2) ((fun (k : Nat) (s : Bool) => (bI s, nI k)) 0 b0) = some r ∧ r = bI (b0 && !anyB (fun k => !decide (nI (B (s + k)) = chS a k)) (e - s)) by
      obtain ⟨r, e1, e2⟩ := hh
      rw [← e2]
      exact e1
    refine loop_enc (fun k s => (bI s, nI k)) (e - s) (fun k b => (b = true → b0 = true ∧ ∀ j, j < k → nI (B (s + j)) = chS a j) ∧ (b = false → b0 = false ∨ ∃ j, j < k ∧ ¬ nI (B (s + j)) = chS a j)) _ ?_ ?_ 0 b0 (Nat.zero_le _) ⟨fun z => ⟨z, fun j hj => absurd hj (Nat.not_lt_zero j)⟩, fun z => Or.inl z⟩
    · rintro k b hk ⟨g1, g2⟩
      cases b with
      | false =>
        right
        refine ⟨0, ?_, ?_⟩
        · show f_MM_takes_L67 a A (nI (e - s)) (bI false) (nI k) = _
          unfold f_MM_takes_L67
          rw [if_neg (nI_ge hk (by omega)), if_pos (show bI false = 0 from rfl)]
          rfl
        · rcases g2 rfl with z | ⟨j, j1, j2⟩
          · rw [z]; rfl
          · rw [anyB_iff.mpr ⟨j, by omega, by simp [j2]⟩, Bool.not_true, Bool.and_false]
            rfl
      | true =>
        left
        obtain ⟨g3, g4⟩ := g1 rfl
        have hk' : k < lenS.getD a 0 := by have := hb0 g3; omega
        have lt := q3 (s + k) (by omega) (by omega)
        unfold ltB at lt
        have lt := of_decide_eq_true lt
        refine ⟨decide (nI (B (s + k)) = chS a k), ?_, fun z => ⟨g3, fun j hj => ?_⟩, fun z => Or.inr ⟨k, by omega, of_decide_eq_false z⟩⟩
        · show f_MM_takes_L67 a A (nI (e - s)) (bI true) (nI k) = _
          unfold f_MM_takes_L67 f_Str_charAt
          rw [if_neg (nI_ge hk (by omega)), if_neg (show ¬ bI true = 0 by decide), t3, nI_add, gIn_nI (by omega) (by decide), gIn_nI hk' (by omega), bnd_some, nI_clamp (show s + k < 2 ^ 31 by omega), nI_clamp (show k < 2 ^ 31 by omega), t5 _ (by omega), show sbI (B (s + k)) = nI (B (s + k)) from if_pos (by omega), ← nI_succ]
          by_cases q : nI (B (s + k)) = chS a k
          · rw [if_pos q, decide_eq_true q]; rfl
          · rw [if_neg q, decide_eq_false q]; rfl
        · by_cases e : j = k
          · rw [e]; exact of_decide_eq_true z
          · exact g4 j (by omega)
    · rintro b ⟨g1, g2⟩
      refine ⟨bI b, ?_, ?_⟩
      · show f_MM_takes_L67 a A (nI (e - s)) (bI b) (nI (e - s)) = _
        unfold f_MM_takes_L67
        rw [if_pos ((nI_leI (by omega) (by omega)).mpr (Nat.le_refl _))]
      · cases b with
        | true =>
          obtain ⟨g3, g4⟩ := g1 rfl
          rw [g3, anyB_f.mpr (fun j hj => by simp [g4 j hj])]
          rfl
        | false =>
          rcases g2 rfl with z | ⟨j, j1, j2⟩
          · rw [z]; rfl
          · rw [anyB_iff.mpr ⟨j, by omega, by simp [j2]⟩, Bool.not_true, Bool.and_false]
  unfold wdB
  by_cases z : e - s = lenS.getD a 0
  · rw [if_pos (by rw [z]), show f_MM_takes_W67 a A (nI (e - s)) (1, 0) = _ from w67 true (fun _ => z), bnd_some, fin, decide_eq_true z, ← z]
  · rw [if_neg (fun q => z ((nI_eq (by omega) (by omega)).mp q)), show f_MM_takes_W67 a A (nI (e - s)) (0, 0) = _ from w67 false (fun q => by cases q), bnd_some, fin, decide_eq_false z, Bool.false_and, Bool.false_and]
