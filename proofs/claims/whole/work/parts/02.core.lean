/-! THE WORLD OF ROWS: the memory of an object with all that hangs on it is a table of rows of ints, M k i; the k-th cell lies at the address ad k, and what the heap holds there is a function cg k of the k-th row alone. No method but the constructors makes anything: so every contract is over the whole table. -/
abbrev Mem : Type := Nat → Nat → Int32
def upM (M : Mem) (k i : Nat) (x : Int32) : Mem := fun a => if a = k then upd (M k) i x else M a
def bI (b : Bool) : Int32 := if b then 1 else 0
/-- (how many cells, what a cell is of its row, addresses, classes, array classes) -/
abbrev WD : Type := Nat × (Nat → (Nat → Int32) → va_E) × (Nat → Nat) × va_G × List (ClassId × FieldType)
-- names and fields of the five classes
def R_Play : String := "MarkedChains$Play"
def T_Play : u_T := fun k => match k with
  | 0 => ("MarkedChains$Play", "parties", "I", false)
  | 1 => ("MarkedChains$Play", "liars", "I", false)
  | 2 => ("MarkedChains$Play", "planCount", "I", false)
  | 3 => ("MarkedChains$Play", "omitCount", "I", false)
  | 4 => ("MarkedChains$Play", "lateCount", "I", false)
  | 5 => ("MarkedChains$Play", "settings", "[I", true)
  | 6 => ("MarkedChains$Play", "planRoute", "[I", true)
  | 7 => ("MarkedChains$Play", "planValue", "[I", true)
  | 8 => ("MarkedChains$Play", "planChain", "[I", true)
  | 9 => ("MarkedChains$Play", "omitRoute", "[I", true)
  | 10 => ("MarkedChains$Play", "lateRoute", "[I", true)
  | _ => ("MarkedChains$Play", "lateBy", "[I", true)
def ty_Play : Nat → FieldType := fun k => match k with
  | 0 => .int
  | 1 => .int
  | 2 => .int
  | 3 => .int
  | 4 => .int
  | _ => .array .int
def R_Run : String := "MarkedChains$Run"
def T_Run : u_T := fun k => match k with
  | 0 => ("MarkedChains$Run", "of", "LMarkedChains$Play;", true)
  | 1 => ("MarkedChains$Run", "rounds", "I", false)
  | 2 => ("MarkedChains$Run", "plansAllowed", "I", false)
  | 3 => ("MarkedChains$Run", "forgedPlans", "I", false)
  | 4 => ("MarkedChains$Run", "letters", "I", false)
  | 5 => ("MarkedChains$Run", "delay", "[I", true)
  | 6 => ("MarkedChains$Run", "route", "[I", true)
  | 7 => ("MarkedChains$Run", "value", "[I", true)
  | 8 => ("MarkedChains$Run", "chain", "[I", true)
  | 9 => ("MarkedChains$Run", "comes", "[I", true)
  | 10 => ("MarkedChains$Run", "use", "[I", true)
  | 11 => ("MarkedChains$Run", "gotRound", "[I", true)
  | 12 => ("MarkedChains$Run", "gotFrom", "[I", true)
  | 13 => ("MarkedChains$Run", "gotChain", "[I", true)
  | 14 => ("MarkedChains$Run", "usable", "[I", true)
  | _ => ("MarkedChains$Run", "sets", "[I", true)
def ty_Run : Nat → FieldType := fun k => match k with
  | 0 => .object "MarkedChains$Play"
  | 1 => .int
  | 2 => .int
  | 3 => .int
  | 4 => .int
  | _ => .array .int
def R_Tape : String := "MarkedChains$Tape"
def T_Tape : u_T := fun k => match k with
  | 0 => ("MarkedChains$Tape", "bytes", "[C", true)
  | 1 => ("MarkedChains$Tape", "told", "LMarkedChains$Play;", true)
  | 2 => ("MarkedChains$Tape", "length", "I", false)
  | 3 => ("MarkedChains$Tape", "wrong", "I", false)
  | 4 => ("MarkedChains$Tape", "at", "I", false)
  | _ => ("MarkedChains$Tape", "began", "I", false)
def ty_Tape : Nat → FieldType := fun k => match k with
  | 0 => .array .char
  | 1 => .object "MarkedChains$Play"
  | _ => .int
def R_MC : String := "MarkedChains"
def T_MC : u_T := fun k => match k with
  | 0 => ("MarkedChains", "play", "LMarkedChains$Play;", true)
  | 1 => ("MarkedChains", "tape", "LMarkedChains$Tape;", true)
  | 2 => ("MarkedChains", "now", "LMarkedChains$Run;", true)
  | 3 => ("MarkedChains", "trial", "LMarkedChains$Run;", true)
  | 4 => ("MarkedChains", "past", "[LMarkedChains$Play;", true)
  | 5 => ("MarkedChains", "shelves", "[LMarkedChains$Play;", true)
  | 6 => ("MarkedChains", "pastCount", "I", false)
  | _ => ("MarkedChains", "shelvesKept", "I", false)
def ty_MC : Nat → FieldType := fun k => match k with
  | 0 => .object "MarkedChains$Play"
  | 1 => .object "MarkedChains$Tape"
  | 2 => .object "MarkedChains$Run"
  | 3 => .object "MarkedChains$Run"
  | 4 => .array (.object "MarkedChains$Play")
  | 5 => .array (.object "MarkedChains$Play")
  | _ => .int
def R_MM : String := "MarkedChainsModel"
def T_MM : u_T := fun k => match k with
  | 0 => ("MarkedChainsModel", "now", "[I", true)
  | 1 => ("MarkedChainsModel", "heard", "[I", true)
  | 2 => ("MarkedChainsModel", "aside", "[I", true)
  | 3 => ("MarkedChainsModel", "past", "[I", true)
  | 4 => ("MarkedChainsModel", "shelf", "[I", true)
  | 5 => ("MarkedChainsModel", "isKept", "[Z", true)
  | 6 => ("MarkedChainsModel", "pastMany", "I", false)
  | 7 => ("MarkedChainsModel", "tape", "[B", true)
  | 8 => ("MarkedChainsModel", "taped", "I", false)
  | 9 => ("MarkedChainsModel", "at", "I", false)
  | 10 => ("MarkedChainsModel", "fault", "I", false)
  | 11 => ("MarkedChainsModel", "numberAt", "I", false)
  | 12 => ("MarkedChainsModel", "told", "[I", true)
  | 13 => ("MarkedChainsModel", "round", "[I", true)
  | 14 => ("MarkedChainsModel", "from", "[I", true)
  | 15 => ("MarkedChainsModel", "to", "[I", true)
  | 16 => ("MarkedChainsModel", "value", "[I", true)
  | 17 => ("MarkedChainsModel", "many", "[I", true)
  | 18 => ("MarkedChainsModel", "comes", "[I", true)
  | 19 => ("MarkedChainsModel", "counts", "[I", true)
  | 20 => ("MarkedChainsModel", "mark", "[I", true)
  | 21 => ("MarkedChainsModel", "sent", "I", false)
  | 22 => ("MarkedChainsModel", "extracted", "[I", true)
  | 23 => ("MarkedChainsModel", "by", "[I", true)
  | 24 => ("MarkedChainsModel", "usable", "[I", true)
  | 25 => ("MarkedChainsModel", "forgedSet", "I", false)
  | 26 => ("MarkedChainsModel", "otherSet", "I", false)
  | 27 => ("MarkedChainsModel", "was", "[I", true)
  | 28 => ("MarkedChainsModel", "extraRound", "I", false)
  | 29 => ("MarkedChainsModel", "extraFrom", "I", false)
  | 30 => ("MarkedChainsModel", "extraTo", "I", false)
  | _ => ("MarkedChainsModel", "extraBy", "I", false)
def ty_MM : Nat → FieldType := fun k => match k with
  | 5 => .array .boolean
  | 6 => .int
  | 7 => .array .byte
  | 8 => .int
  | 9 => .int
  | 10 => .int
  | 11 => .int
  | 21 => .int
  | 25 => .int
  | 26 => .int
  | 28 => .int
  | 29 => .int
  | 30 => .int
  | 31 => .int
  | _ => .array .int
theorem n_Play : ∀ a, a < 12 → ∀ b, b < 12 → a ≠ b → (T_Play a).2.1 ≠ (T_Play b).2.1 := by decide +kernel
theorem t_Play_ok : ∀ k, k < 12 → parseFieldDescriptor (T_Play k).2.2.1 = some (ty_Play k) := by decide +kernel
theorem n_Run : ∀ a, a < 16 → ∀ b, b < 16 → a ≠ b → (T_Run a).2.1 ≠ (T_Run b).2.1 := by decide +kernel
theorem t_Run_ok : ∀ k, k < 16 → parseFieldDescriptor (T_Run k).2.2.1 = some (ty_Run k) := by decide +kernel
theorem n_Tape : ∀ a, a < 6 → ∀ b, b < 6 → a ≠ b → (T_Tape a).2.1 ≠ (T_Tape b).2.1 := by decide +kernel
theorem t_Tape_ok : ∀ k, k < 6 → parseFieldDescriptor (T_Tape k).2.2.1 = some (ty_Tape k) := by decide +kernel
theorem n_MC : ∀ a, a < 8 → ∀ b, b < 8 → a ≠ b → (T_MC a).2.1 ≠ (T_MC b).2.1 := by decide +kernel
theorem t_MC_ok : ∀ k, k < 8 → parseFieldDescriptor (T_MC k).2.2.1 = some (ty_MC k) := by decide +kernel
theorem n_MM : ∀ a, a < 32 → ∀ b, b < 32 → a ≠ b → (T_MM a).2.1 ≠ (T_MM b).2.1 := by decide +kernel
theorem t_MM_ok : ∀ k, k < 32 → parseFieldDescriptor (T_MM k).2.2.1 = some (ty_MM k) := by decide +kernel
abbrev classes : List vw_C := [(R_Play, T_Play, 12), (R_Run, T_Run, 16), (R_Tape, T_Tape, 6), (R_MC, T_MC, 8), (R_MM, T_MM, 32)]
-- every word of the tables is a good one, and lies where it lies
set_option maxRecDepth 100000 in
theorem tb_all1 : tables_1_1.all goodWord = true := by decide +kernel
set_option maxRecDepth 100000 in
theorem tb_all2 : tables_1_2.all goodWord = true := by decide +kernel
set_option maxRecDepth 100000 in
theorem tb_all3 : tables_1_3.all goodWord = true := by decide +kernel
set_option maxRecDepth 100000 in
theorem tb_all4 : tables_1_4.all goodWord = true := by decide +kernel
set_option maxRecDepth 100000 in
theorem tb_all5 : tables_1_5.all goodWord = true := by decide +kernel
set_option maxRecDepth 100000 in
theorem tb_all6 : tables_1_6.all goodWord = true := by decide +kernel
theorem tb_sels (l : List (MethodName × Nat)) : (k2_sels l).all goodWord = true := by
  induction l with
  | nil => rfl
  | cons a l ih =>
    show (goodWord (Cond.selects a.1.cls a.1 a.1) && (k2_sels l).all goodWord) = true
    rw [ih]
    rfl
theorem tb_good : ∀ w ∈ lw_tbl, (w.onTables && w.keeps) = true ∨ ∃ ty, w = .arrayClass ty := by
  have h : lw_tbl.all goodWord = true := by
    show (k2_sels lw_privs ++ tables_1).all goodWord = true
    rw [List.all_append, tb_sels]
    show (true && (tables_1_1 ++ (tables_1_2 ++ (tables_1_3 ++ (tables_1_4 ++ (tables_1_5 ++ tables_1_6))))).all goodWord) = true
    simp only [List.all_append, tb_all1, tb_all2, tb_all3, tb_all4, tb_all5, tb_all6, Bool.and_self]
  intro w hw
  exact good_of_word (List.all_eq_true.mp h w hw)
theorem tm0 {w : Cond} (h : w ∈ k2_sels lw_privs) : w ∈ lw_tbl := List.mem_append_left _ h
theorem tmT {w : Cond} (h : w ∈ tables_1) : w ∈ lw_tbl := List.mem_append_right _ h
theorem tm1 {w : Cond} (i : Nat) (h : tables_1_1[i]? = some w) : w ∈ lw_tbl := tmT (List.mem_append_left _ (List.mem_of_getElem? h))
theorem tm2 {w : Cond} (i : Nat) (h : tables_1_2[i]? = some w) : w ∈ lw_tbl := tmT (List.mem_append_right _ (List.mem_append_left _ (List.mem_of_getElem? h)))
theorem tm3 {w : Cond} (i : Nat) (h : tables_1_3[i]? = some w) : w ∈ lw_tbl := tmT (List.mem_append_right _ (List.mem_append_right _ (List.mem_append_left _ (List.mem_of_getElem? h))))
theorem tm4 {w : Cond} (i : Nat) (h : tables_1_4[i]? = some w) : w ∈ lw_tbl := tmT (List.mem_append_right _ (List.mem_append_right _ (List.mem_append_right _ (List.mem_append_left _ (List.mem_of_getElem? h)))))
theorem tm5 {w : Cond} (i : Nat) (h : tables_1_5[i]? = some w) : w ∈ lw_tbl := tmT (List.mem_append_right _ (List.mem_append_right _ (List.mem_append_right _ (List.mem_append_right _ (List.mem_append_left _ (List.mem_of_getElem? h))))))
theorem tm6 {w : Cond} (i : Nat) (h : tables_1_6[i]? = some w) : w ∈ lw_tbl := tmT (List.mem_append_right _ (List.mem_append_right _ (List.mem_append_right _ (List.mem_append_right _ (List.mem_append_right _ (List.mem_of_getElem? h))))))
theorem tmS (j : Nat) {q : MethodName × Nat} (h : lw_privs[j]? = some q) : Cond.selects q.1.cls q.1 q.1 ∈ lw_tbl := tm0 (List.mem_map.mpr ⟨q, List.mem_of_getElem? h, rfl⟩)
theorem tb_of {P : Cond → Prop} {T : List Cond} (n : Nat) (h : ∀ i, i < n → ∃ w, T[i]? = some w ∧ P w) (hn : T.length ≤ n) : ∀ w ∈ T, P w := by
  intro w hw
  obtain ⟨i, hi⟩ := List.mem_iff_getElem?.mp hw
  have hl : i < T.length := (List.getElem?_eq_some_iff.mp hi).1
  obtain ⟨w', h1, h2⟩ := h i (Nat.lt_of_lt_of_le hl hn)
  rw [hi] at h1
  cases h1
  exact h2
-- the cells
def wW (Z : WD) (M : Mem) : va_W := (List.range Z.1).map (fun k => (Z.2.2.1 k, Z.2.1 k (M k)))
def wA (Z : WD) : Nat → Prop := fun q => ∃ k, k < Z.1 ∧ q = Z.2.2.1 k
def wI (Z : WD) : Prop := ∀ i j, i < Z.1 → j < Z.1 → Z.2.2.1 i = Z.2.2.1 j → i = j
def wK (Z : WD) (s : State) : Prop := va_K Z.2.2.2.1 classes Z.2.2.2.2 s
def wP (Z : WD) (M : Mem) (H : Heap) : Prop := va_P Z.2.2.2.1 classes (wW Z M) H
def wPre (Z : WD) (M : Mem) : State → Prop := fun U => wP Z M U.heap ∧ wK Z U
def wPost (Z : WD) (M : Mem) : Unit → State → Prop := fun _ t => wP Z M t.heap
def HW (Z : WD) (M : Mem) (s : State) (H : Heap) (locs : List Loc) : Prop := wP Z M H ∧ va_S (wA Z) s.heap H locs
theorem wW_get (Z : WD) (M : Mem) {k : Nat} (h : k < Z.1) : (wW Z M)[k]? = some (Z.2.2.1 k, Z.2.1 k (M k)) := by
  unfold wW
  rw [List.getElem?_map, List.getElem?_range h]
  rfl
theorem wW_len (Z : WD) (M : Mem) : (wW Z M).length = Z.1 := by
  unfold wW
  rw [List.length_map, List.length_range]
theorem wW_set (Z : WD) (M : Mem) {k : Nat} (h : k < Z.1) (row : Nat → Int32) : (wW Z M).set k (Z.2.2.1 k, Z.2.1 k row) = wW Z (fun a => if a = k then row else M a) := by
  apply List.ext_getElem?
  intro i
  rcases Nat.lt_or_ge i Z.1 with hi | hi
  · rw [wW_get Z _ hi]
    by_cases e : i = k
    · subst e
      rw [List.getElem?_set_self (by rw [wW_len]; exact h)]
      simp
    · rw [List.getElem?_set_ne (fun q => e q.symm), wW_get Z _ hi]
      simp [e]
  · rw [List.getElem?_eq_none (by rw [List.length_set, wW_len]; exact hi), List.getElem?_eq_none (by rw [wW_len]; exact hi)]
theorem wW_D {Z : WD} (hI : wI Z) (M : Mem) : va_D (wA Z) (wW Z M) := by
  have key : ∀ (k : Nat) (q : Nat × va_E), (wW Z M)[k]? = some q → k < Z.1 ∧ q.1 = Z.2.2.1 k := by
    intro k q hq
    have hk : k < Z.1 := by
      have := (List.getElem?_eq_some_iff.mp hq).1
      rwa [wW_len] at this
    rw [wW_get Z M hk] at hq
    cases hq
    exact ⟨hk, rfl⟩
  refine ⟨fun i j p q hp hq e => ?_, fun k q hq => ?_⟩
  · obtain ⟨h1, h2⟩ := key i p hp
    obtain ⟨h3, h4⟩ := key j q hq
    exact hI i j h1 h3 (by rw [← h2, ← h4, e])
  · obtain ⟨h1, h2⟩ := key k q hq
    exact ⟨k, h1, h2⟩
theorem wP.set {Z : WD} {M : Mem} {k : Nat} (h : k < Z.1) {row : Nat → Int32} {e : va_E} (he : e = Z.2.1 k row) {H : Heap} (hp : va_P Z.2.2.2.1 classes ((wW Z M).set k (Z.2.2.1 k, e)) H) : wP Z (fun a => if a = k then row else M a) H := by
  rw [he, wW_set Z M h row] at hp
  exact hp
/-- the cell k is an array of n of this type -/
def AA (ty : FieldType) (Z : WD) (k n : Nat) : Prop := k < Z.1 ∧ ∃ (cA : ClassId) (t : Nat), (∀ row, Z.2.1 k row = .inl (cA, n, .inl row)) ∧ Z.2.2.2.2[t]? = some (cA, ty)
section Rows
variable {p : Program} {l : Launch} {e : Env} {R : Room} {s : State} {m : MethodId} {args : Array Value} {below : List Frame} {meth : Method} {c : Code} {H : Heap} {locs : List Loc} {cells slots : Nat} {Q : State → Prop}
variable {cc : ByteArray} {pc : Nat} {ls : Array Slot} {rest : List Value} {Z : WD} {M : Mem}
theorem q_iald (hx : p.tables.exec = Jvm.exec) (hb : c.code = cc) (hK : wK Z s) (hH : HW Z M s H locs) {k n : Nat} (hk : AA .int Z k n) {i : Int32} (hin : vp_in i n) (hdg : decode cc pc = .ok (.iaload, 1))
    (kk : W p l e R s m args below meth c H locs cells slots Q (F0 m (pc + 1) ls (.int (M k i.toNatClampNeg) :: rest))) : W p l e R s m args below meth c H locs cells slots Q (F0 m pc ls (.int i :: .ref (Z.2.2.1 k) :: rest)) := by
  obtain ⟨hk, cA, t, hg, ht⟩ := hk
  exact va_iald hx hb hK hH.1 k t ((wW_get Z M hk).trans (by rw [hg])) ht hin hdg kk
theorem q_cald (hx : p.tables.exec = Jvm.exec) (hb : c.code = cc) (hK : wK Z s) (hH : HW Z M s H locs) {k n : Nat} (hk : AA .char Z k n) {i : Int32} (hin : vp_in i n) (hdg : decode cc pc = .ok (.caload, 1))
    (kk : W p l e R s m args below meth c H locs cells slots Q (F0 m (pc + 1) ls (.int (M k i.toNatClampNeg) :: rest))) : W p l e R s m args below meth c H locs cells slots Q (F0 m pc ls (.int i :: .ref (Z.2.2.1 k) :: rest)) := by
  obtain ⟨hk, cA, t, hg, ht⟩ := hk
  exact va_cald hx hb hK hH.1 k t ((wW_get Z M hk).trans (by rw [hg])) ht hin hdg kk
theorem q_bald (hx : p.tables.exec = Jvm.exec) (hb : c.code = cc) (hK : wK Z s) (hH : HW Z M s H locs) {k n : Nat} (hk : AA .byte Z k n) {i : Int32} (hin : vp_in i n) (hdg : decode cc pc = .ok (.baload, 1))
    (kk : W p l e R s m args below meth c H locs cells slots Q (F0 m (pc + 1) ls (.int (M k i.toNatClampNeg) :: rest))) : W p l e R s m args below meth c H locs cells slots Q (F0 m pc ls (.int i :: .ref (Z.2.2.1 k) :: rest)) := by
  obtain ⟨hk, cA, t, hg, ht⟩ := hk
  exact va_bald hx hb hK hH.1 k t ((wW_get Z M hk).trans (by rw [hg])) ht hin hdg kk
theorem q_zald (hx : p.tables.exec = Jvm.exec) (hb : c.code = cc) (hK : wK Z s) (hH : HW Z M s H locs) {k n : Nat} (hk : AA .boolean Z k n) {i : Int32} (hin : vp_in i n) (hdg : decode cc pc = .ok (.baload, 1))
    (kk : W p l e R s m args below meth c H locs cells slots Q (F0 m (pc + 1) ls (.int (M k i.toNatClampNeg) :: rest))) : W p l e R s m args below meth c H locs cells slots Q (F0 m pc ls (.int i :: .ref (Z.2.2.1 k) :: rest)) := by
  obtain ⟨hk, cA, t, hg, ht⟩ := hk
  exact va_zald hx hb hK hH.1 k t ((wW_get Z M hk).trans (by rw [hg])) ht hin hdg kk
theorem q_alen (hx : p.tables.exec = Jvm.exec) (hb : c.code = cc) (hK : wK Z s) (hH : HW Z M s H locs) {k n : Nat} (hk : AA .int Z k n) (hdg : decode cc pc = .ok (.arraylength, 1))
    (kk : W p l e R s m args below meth c H locs cells slots Q (F0 m (pc + 1) ls (.int (nI n) :: rest))) : W p l e R s m args below meth c H locs cells slots Q (F0 m pc ls (.ref (Z.2.2.1 k) :: rest)) := by
  obtain ⟨hk, cA, t, hg, ht⟩ := hk
  exact va_alen hx hb hK hH.1 k t ((wW_get Z M hk).trans (by rw [hg])) ht rfl hdg kk
theorem q_iast (hx : p.tables.exec = Jvm.exec) (hb : c.code = cc) (hK : wK Z s) (hI : wI Z) (hH : HW Z M s H locs) {k n : Nat} (hk : AA .int Z k n) {i x : Int32} (hin : vp_in i n) (hdg : decode cc pc = .ok (.iastore, 1))
    (kk : ∀ (H1 : Heap) (locs1 : List Loc), HW Z (upM M k i.toNatClampNeg x) s H1 locs1 → W p l e R s m args below meth c H1 locs1 cells slots Q (F0 m (pc + 1) ls rest)) : W p l e R s m args below meth c H locs cells slots Q (F0 m pc ls (.int x :: .int i :: .ref (Z.2.2.1 k) :: rest)) := by
  obtain ⟨hk, cA, t, hg, ht⟩ := hk
  exact va_iast hx hb hK hH.1 (wW_D hI M) hH.2 k t ((wW_get Z M hk).trans (by rw [hg])) ht hin hdg (fun H1 locs1 h1 _ h3 => kk H1 locs1 ⟨wP.set hk (hg _).symm h1, h3⟩)
theorem q_cast (hx : p.tables.exec = Jvm.exec) (hb : c.code = cc) (hK : wK Z s) (hI : wI Z) (hH : HW Z M s H locs) {k n : Nat} (hk : AA .char Z k n) {i x : Int32} (hin : vp_in i n) (hdg : decode cc pc = .ok (.castore, 1))
    (kk : ∀ (H1 : Heap) (locs1 : List Loc), HW Z (upM M k i.toNatClampNeg (vp_nar .char x)) s H1 locs1 → W p l e R s m args below meth c H1 locs1 cells slots Q (F0 m (pc + 1) ls rest)) : W p l e R s m args below meth c H locs cells slots Q (F0 m pc ls (.int x :: .int i :: .ref (Z.2.2.1 k) :: rest)) := by
  obtain ⟨hk, cA, t, hg, ht⟩ := hk
  exact va_cast hx hb hK hH.1 (wW_D hI M) hH.2 k t ((wW_get Z M hk).trans (by rw [hg])) ht hin hdg (fun H1 locs1 h1 _ h3 => kk H1 locs1 ⟨wP.set hk (hg _).symm h1, h3⟩)
theorem q_bast (hx : p.tables.exec = Jvm.exec) (hb : c.code = cc) (hK : wK Z s) (hI : wI Z) (hH : HW Z M s H locs) {k n : Nat} (hk : AA .byte Z k n) {i x : Int32} (hin : vp_in i n) (hdg : decode cc pc = .ok (.bastore, 1))
    (kk : ∀ (H1 : Heap) (locs1 : List Loc), HW Z (upM M k i.toNatClampNeg (vp_nar .byte x)) s H1 locs1 → W p l e R s m args below meth c H1 locs1 cells slots Q (F0 m (pc + 1) ls rest)) : W p l e R s m args below meth c H locs cells slots Q (F0 m pc ls (.int x :: .int i :: .ref (Z.2.2.1 k) :: rest)) := by
  obtain ⟨hk, cA, t, hg, ht⟩ := hk
  exact va_bast hx hb hK hH.1 (wW_D hI M) hH.2 k t ((wW_get Z M hk).trans (by rw [hg])) ht hin hdg (fun H1 locs1 h1 _ h3 => kk H1 locs1 ⟨wP.set hk (hg _).symm h1, h3⟩)
theorem q_zast (hx : p.tables.exec = Jvm.exec) (hb : c.code = cc) (hK : wK Z s) (hI : wI Z) (hH : HW Z M s H locs) {k n : Nat} (hk : AA .boolean Z k n) {i x : Int32} (hin : vp_in i n) (hdg : decode cc pc = .ok (.bastore, 1))
    (kk : ∀ (H1 : Heap) (locs1 : List Loc), HW Z (upM M k i.toNatClampNeg (vp_nar .boolean x)) s H1 locs1 → W p l e R s m args below meth c H1 locs1 cells slots Q (F0 m (pc + 1) ls rest)) : W p l e R s m args below meth c H locs cells slots Q (F0 m pc ls (.int x :: .int i :: .ref (Z.2.2.1 k) :: rest)) := by
  obtain ⟨hk, cA, t, hg, ht⟩ := hk
  exact va_zast hx hb hK hH.1 (wW_D hI M) hH.2 k t ((wW_get Z M hk).trans (by rw [hg])) ht hin hdg (fun H1 locs1 h1 _ h3 => kk H1 locs1 ⟨wP.set hk (hg _).symm h1, h3⟩)
/-- a field is read: the cell k is an object of the class ci, its f-th field the value v -/
theorem q_get (hx : p.tables.exec = Jvm.exec) (hb : c.code = cc) (ht : ∀ w ∈ lw_tbl, w.before args s = true) {own C : String} {T : u_T} {N ci index : Nat} (hin : ∀ w ∈ u_ws C T N, w ∈ lw_tbl) (hown : s.vm.findClass own = some m.cls) (hK : wK Z s) (hH : HW Z M s H locs) {k : Nat} (hk : k < Z.1) {fs : List Value} (he : Z.2.1 k (M k) = .inr (ci, fs)) (hc : classes[ci]? = some (C, T, N)) (f : Nat) (hf : f < N) (hlink : Cond.fieldLink own index (T f).1 (T f).2.1 (T f).2.2.1 ∈ lw_tbl) {v : Value} (hv : fs[f]? = some v) (hdg : decode cc pc = .ok (.getfield index, 3))
    (kk : W p l e R s m args below meth c H locs cells slots Q (F0 m (pc + 3) ls (v :: rest))) : W p l e R s m args below meth c H locs cells slots Q (F0 m pc ls (.ref (Z.2.2.1 k) :: rest)) :=
  va_get hx hb ht hin hown hK hH.1 k ((wW_get Z M hk).trans (by rw [he])) hc f hf (ht _ hlink) (fun _ h => h) hv hdg kk
/-- an int field is written -/
theorem q_put (hx : p.tables.exec = Jvm.exec) (hb : c.code = cc) (ht : ∀ w ∈ lw_tbl, w.before args s = true) {own C : String} {T : u_T} {N ci index : Nat} (hin : ∀ w ∈ u_ws C T N, w ∈ lw_tbl) {ty0 : Nat → FieldType} (hty : ∀ k, k < N → parseFieldDescriptor (T k).2.2.1 = some (ty0 k)) (hnm : ∀ a, a < N → ∀ b, b < N → a ≠ b → (T a).2.1 ≠ (T b).2.1) (hown : s.vm.findClass own = some m.cls) (hK : wK Z s) (hI : wI Z) (hH : HW Z M s H locs) {k : Nat} (hk : k < Z.1) {fs : List Value} (he : Z.2.1 k (M k) = .inr (ci, fs)) (hc : classes[ci]? = some (C, T, N)) (f : Nat) (hf : f < N) (hlink : Cond.fieldLink own index (T f).1 (T f).2.1 (T f).2.2.1 ∈ lw_tbl) (hfin : (T f).2.2.2 = false) (hd : parseFieldDescriptor (T f).2.2.1 = some .int) (hl : f < fs.length) {x : Int32} (hs : Z.2.1 k (upd (M k) f x) = .inr (ci, fs.set f (.int x))) (hdg : decode cc pc = .ok (.putfield index, 3))
    (kk : ∀ (H1 : Heap) (locs1 : List Loc), HW Z (upM M k f x) s H1 locs1 → W p l e R s m args below meth c H1 locs1 cells slots Q (F0 m (pc + 3) ls rest)) : W p l e R s m args below meth c H locs cells slots Q (F0 m pc ls (.int x :: .ref (Z.2.2.1 k) :: rest)) :=
  va_put hx hb ht hin ty0 hty hnm hown hK hH.1 (wW_D hI M) hH.2 k ((wW_get Z M hk).trans (by rw [he])) hc f hf (ht _ hlink) (fun _ h => h) hfin hd (vp_nar_int x) rfl hl hdg (fun H1 locs1 h1 _ h3 => kk H1 locs1 ⟨wP.set hk hs.symm h1, h3⟩)
theorem q_recv (hK : wK Z s) (hH : HW Z M s H locs) {k ci : Nat} (hk : k < Z.1) {fs : List Value} (he : Z.2.1 k (M k) = .inr (ci, fs)) {q : vw_C} (hc : classes[ci]? = some q) : ∃ cell : Cell, H[Z.2.2.1 k]? = some cell ∧ cell.vm.isStatics = false ∧ s.vm.findClass q.1 = some cell.cls :=
  va_recv hK hH.1 hc ((wW_get Z M hk).trans (by rw [he]))
end Rows
