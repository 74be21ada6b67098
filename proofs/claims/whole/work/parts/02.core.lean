/-! THE WORLD OF ROWS: the memory of an object with all that hangs on it is a table of rows of ints, M k i; the k-th cell lies at the address ad k, and what the heap holds there is a function cg k of the k-th row alone. No method but the constructors makes anything: so every contract is over the whole table. -/
abbrev Mem : Type := Nat → Nat → Int32
def upM (M : Mem) (k i : Nat) (x : Int32) : Mem := fun a => if a = k then upd (M k) i x else M a
def bI (b : Bool) : Int32 := if b then 1 else 0
/-- (how many cells, what a cell is of its row, addresses, classes, array classes, where the literals lie, where their bytes) -/
abbrev WD : Type := Nat × (Nat → (Nat → Int32) → va_E) × (Nat → Nat) × va_G × List (ClassId × FieldType) × (Nat → Nat) × (Nat → Nat)
-- names and fields of the five classes
def R_Play : String := "MarkedChains$Play"
def T_Play : u_T := fun k => match k with
  | 0 => ("MarkedChains$Play", "parties", "I", false)
  | 1 => ("MarkedChains$Play", "liars", "I", false)
  | 2 => ("MarkedChains$Play", "planCount", "I", false)
  | 3 => ("MarkedChains$Play", "omitCount", "I", false)
  | 4 => ("MarkedChains$Play", "lateCount", "I", false)
  | 5 => ("MarkedChains$Play", "settings", "[I", true)
  | 6 => ("MarkedChains$Play", "planRoute", "[I", true)
  | 7 => ("MarkedChains$Play", "planValue", "[I", true)
  | 8 => ("MarkedChains$Play", "planChain", "[I", true)
  | 9 => ("MarkedChains$Play", "omitRoute", "[I", true)
  | 10 => ("MarkedChains$Play", "lateRoute", "[I", true)
  | _ => ("MarkedChains$Play", "lateBy", "[I", true)
def ty_Play : Nat → FieldType := fun k => match k with
  | 0 => .int
  | 1 => .int
  | 2 => .int
  | 3 => .int
  | 4 => .int
  | _ => .array .int
def R_Run : String := "MarkedChains$Run"
def T_Run : u_T := fun k => match k with
  | 0 => ("MarkedChains$Run", "of", "LMarkedChains$Play;", true)
  | 1 => ("MarkedChains$Run", "rounds", "I", false)
  | 2 => ("MarkedChains$Run", "plansAllowed", "I", false)
  | 3 => ("MarkedChains$Run", "forgedPlans", "I", false)
  | 4 => ("MarkedChains$Run", "letters", "I", false)
  | 5 => ("MarkedChains$Run", "delay", "[I", true)
  | 6 => ("MarkedChains$Run", "route", "[I", true)
  | 7 => ("MarkedChains$Run", "value", "[I", true)
  | 8 => ("MarkedChains$Run", "chain", "[I", true)
  | 9 => ("MarkedChains$Run", "comes", "[I", true)
  | 10 => ("MarkedChains$Run", "use", "[I", true)
  | 11 => ("MarkedChains$Run", "gotRound", "[I", true)
  | 12 => ("MarkedChains$Run", "gotFrom", "[I", true)
  | 13 => ("MarkedChains$Run", "gotChain", "[I", true)
  | 14 => ("MarkedChains$Run", "usable", "[I", true)
  | _ => ("MarkedChains$Run", "sets", "[I", true)
def ty_Run : Nat → FieldType := fun k => match k with
  | 0 => .object "MarkedChains$Play"
  | 1 => .int
  | 2 => .int
  | 3 => .int
  | 4 => .int
  | _ => .array .int
def R_Tape : String := "MarkedChains$Tape"
def T_Tape : u_T := fun k => match k with
  | 0 => ("MarkedChains$Tape", "bytes", "[C", true)
  | 1 => ("MarkedChains$Tape", "told", "LMarkedChains$Play;", true)
  | 2 => ("MarkedChains$Tape", "length", "I", false)
  | 3 => ("MarkedChains$Tape", "wrong", "I", false)
  | 4 => ("MarkedChains$Tape", "at", "I", false)
  | _ => ("MarkedChains$Tape", "began", "I", false)
def ty_Tape : Nat → FieldType := fun k => match k with
  | 0 => .array .char
  | 1 => .object "MarkedChains$Play"
  | _ => .int
def R_MC : String := "MarkedChains"
def T_MC : u_T := fun k => match k with
  | 0 => ("MarkedChains", "play", "LMarkedChains$Play;", true)
  | 1 => ("MarkedChains", "tape", "LMarkedChains$Tape;", true)
  | 2 => ("MarkedChains", "now", "LMarkedChains$Run;", true)
  | 3 => ("MarkedChains", "trial", "LMarkedChains$Run;", true)
  | 4 => ("MarkedChains", "past", "[LMarkedChains$Play;", true)
  | 5 => ("MarkedChains", "shelves", "[LMarkedChains$Play;", true)
  | 6 => ("MarkedChains", "pastCount", "I", false)
  | _ => ("MarkedChains", "shelvesKept", "I", false)
def ty_MC : Nat → FieldType := fun k => match k with
  | 0 => .object "MarkedChains$Play"
  | 1 => .object "MarkedChains$Tape"
  | 2 => .object "MarkedChains$Run"
  | 3 => .object "MarkedChains$Run"
  | 4 => .array (.object "MarkedChains$Play")
  | 5 => .array (.object "MarkedChains$Play")
  | _ => .int
def R_MM : String := "MarkedChainsModel"
def T_MM : u_T := fun k => match k with
  | 0 => ("MarkedChainsModel", "now", "[I", true)
  | 1 => ("MarkedChainsModel", "heard", "[I", true)
  | 2 => ("MarkedChainsModel", "aside", "[I", true)
  | 3 => ("MarkedChainsModel", "past", "[I", true)
  | 4 => ("MarkedChainsModel", "shelf", "[I", true)
  | 5 => ("MarkedChainsModel", "isKept", "[Z", true)
  | 6 => ("MarkedChainsModel", "pastMany", "I", false)
  | 7 => ("MarkedChainsModel", "tape", "[B", true)
  | 8 => ("MarkedChainsModel", "taped", "I", false)
  | 9 => ("MarkedChainsModel", "at", "I", false)
  | 10 => ("MarkedChainsModel", "fault", "I", false)
  | 11 => ("MarkedChainsModel", "numberAt", "I", false)
  | 12 => ("MarkedChainsModel", "told", "[I", true)
  | 13 => ("MarkedChainsModel", "round", "[I", true)
  | 14 => ("MarkedChainsModel", "from", "[I", true)
  | 15 => ("MarkedChainsModel", "to", "[I", true)
  | 16 => ("MarkedChainsModel", "value", "[I", true)
  | 17 => ("MarkedChainsModel", "many", "[I", true)
  | 18 => ("MarkedChainsModel", "comes", "[I", true)
  | 19 => ("MarkedChainsModel", "counts", "[I", true)
  | 20 => ("MarkedChainsModel", "mark", "[I", true)
  | 21 => ("MarkedChainsModel", "sent", "I", false)
  | 22 => ("MarkedChainsModel", "extracted", "[I", true)
  | 23 => ("MarkedChainsModel", "by", "[I", true)
  | 24 => ("MarkedChainsModel", "usable", "[I", true)
  | 25 => ("MarkedChainsModel", "forgedSet", "I", false)
  | 26 => ("MarkedChainsModel", "otherSet", "I", false)
  | 27 => ("MarkedChainsModel", "was", "[I", true)
  | 28 => ("MarkedChainsModel", "extraRound", "I", false)
  | 29 => ("MarkedChainsModel", "extraFrom", "I", false)
  | 30 => ("MarkedChainsModel", "extraTo", "I", false)
  | _ => ("MarkedChainsModel", "extraBy", "I", false)
def ty_MM : Nat → FieldType := fun k => match k with
  | 5 => .array .boolean
  | 6 => .int
  | 7 => .array .byte
  | 8 => .int
  | 9 => .int
  | 10 => .int
  | 11 => .int
  | 21 => .int
  | 25 => .int
  | 26 => .int
  | 28 => .int
  | 29 => .int
  | 30 => .int
  | 31 => .int
  | _ => .array .int
theorem n_Play : ∀ a, a < 12 → ∀ b, b < 12 → a ≠ b → (T_Play a).2.1 ≠ (T_Play b).2.1 := by decide +kernel
theorem t_Play_ok : ∀ k, k < 12 → parseFieldDescriptor (T_Play k).2.2.1 = some (ty_Play k) := by decide +kernel
theorem n_Run : ∀ a, a < 16 → ∀ b, b < 16 → a ≠ b → (T_Run a).2.1 ≠ (T_Run b).2.1 := by decide +kernel
theorem t_Run_ok : ∀ k, k < 16 → parseFieldDescriptor (T_Run k).2.2.1 = some (ty_Run k) := by decide +kernel
theorem n_Tape : ∀ a, a < 6 → ∀ b, b < 6 → a ≠ b → (T_Tape a).2.1 ≠ (T_Tape b).2.1 := by decide +kernel
theorem t_Tape_ok : ∀ k, k < 6 → parseFieldDescriptor (T_Tape k).2.2.1 = some (ty_Tape k) := by decide +kernel
theorem n_MC : ∀ a, a < 8 → ∀ b, b < 8 → a ≠ b → (T_MC a).2.1 ≠ (T_MC b).2.1 := by decide +kernel
theorem t_MC_ok : ∀ k, k < 8 → parseFieldDescriptor (T_MC k).2.2.1 = some (ty_MC k) := by decide +kernel
theorem n_MM : ∀ a, a < 32 → ∀ b, b < 32 → a ≠ b → (T_MM a).2.1 ≠ (T_MM b).2.1 := by decide +kernel
theorem t_MM_ok : ∀ k, k < 32 → parseFieldDescriptor (T_MM k).2.2.1 = some (ty_MM k) := by decide +kernel
abbrev classes : List vw_C := [(R_Play, T_Play, 12), (R_Run, T_Run, 16), (R_Tape, T_Tape, 6), (R_MC, T_MC, 8), (R_MM, T_MM, 32)]
-- every word of the tables is a good one, and lies where it lies
def gtb : List Cond := lw_tbl.filter goodWord
theorem gt_of {w : Cond} (h : w ∈ lw_tbl) (hg : goodWord w = true) : w ∈ gtb := List.mem_filter.mpr ⟨h, hg⟩
theorem gt_good : ∀ w ∈ gtb, (w.onTables && w.keeps) = true ∨ ∃ ty, w = .arrayClass ty := fun _ hw => good_of_word (List.mem_filter.mp hw).2
theorem gt_sub : ∀ w ∈ gtb, w ∈ lw_tbl := fun _ hw => (List.mem_filter.mp hw).1
theorem tm0 {w : Cond} (h : w ∈ k2_sels lw_privs) : w ∈ lw_tbl := List.mem_append_left _ h
theorem tmT {w : Cond} (h : w ∈ tables_1) : w ∈ lw_tbl := List.mem_append_right _ h
theorem tm1 {w : Cond} (i : Nat) (h : tables_1_1[i]? = some w) : w ∈ lw_tbl := tmT (List.mem_append_left _ (List.mem_of_getElem? h))
theorem tm2 {w : Cond} (i : Nat) (h : tables_1_2[i]? = some w) : w ∈ lw_tbl := tmT (List.mem_append_right _ (List.mem_append_left _ (List.mem_of_getElem? h)))
theorem tm3 {w : Cond} (i : Nat) (h : tables_1_3[i]? = some w) : w ∈ lw_tbl := tmT (List.mem_append_right _ (List.mem_append_right _ (List.mem_append_left _ (List.mem_of_getElem? h))))
theorem tm4 {w : Cond} (i : Nat) (h : tables_1_4[i]? = some w) : w ∈ lw_tbl := tmT (List.mem_append_right _ (List.mem_append_right _ (List.mem_append_right _ (List.mem_append_left _ (List.mem_of_getElem? h)))))
theorem tm5 {w : Cond} (i : Nat) (h : tables_1_5[i]? = some w) : w ∈ lw_tbl := tmT (List.mem_append_right _ (List.mem_append_right _ (List.mem_append_right _ (List.mem_append_right _ (List.mem_append_left _ (List.mem_of_getElem? h))))))
theorem tm6 {w : Cond} (i : Nat) (h : tables_1_6[i]? = some w) : w ∈ lw_tbl := tmT (List.mem_append_right _ (List.mem_append_right _ (List.mem_append_right _ (List.mem_append_right _ (List.mem_append_right _ (List.mem_of_getElem? h))))))
theorem tmS (j : Nat) {q : MethodName × Nat} (h : lw_privs[j]? = some q) : Cond.selects q.1.cls q.1 q.1 ∈ lw_tbl := tm0 (List.mem_map.mpr ⟨q, List.mem_of_getElem? h, rfl⟩)
-- the cells
def wW (Z : WD) (M : Mem) : va_W := (List.range Z.1).map (fun k => (Z.2.2.1 k, Z.2.1 k (M k)))
def wA (Z : WD) : Nat → Prop := fun q => ∃ k, k < Z.1 ∧ q = Z.2.2.1 k
def wI (Z : WD) : Prop := ∀ i j, i < Z.1 → j < Z.1 → Z.2.2.1 i = Z.2.2.1 j → i = j
def nestRefs : List (String × Nat × MethodName × String) := [("MarkedChains", 18, ⟨"MarkedChains$Tape", "<init>", "()V"⟩, "MarkedChains"), ("MarkedChains$Run", 125, ⟨"MarkedChains", "cellOf", "(II)I"⟩, "MarkedChains"), ("MarkedChains$Play", 88, ⟨"MarkedChains", "swapped", "(III)I"⟩, "MarkedChains"), ("MarkedChains$Route", 18, ⟨"MarkedChains", "swapped", "(III)I"⟩, "MarkedChains"), ("MarkedChains$Chain", 22, ⟨"MarkedChains", "swapped", "(III)I"⟩, "MarkedChains")]
def strRefs : List (String × Nat × String × Nat) := [("MarkedChains$Tape", 41, "play", 0), ("MarkedChains$Tape", 95, "sender", 1), ("MarkedChains$Tape", 97, "value", 2), ("MarkedChains$Tape", 99, "rounds", 3), ("MarkedChains$Tape", 101, "default", 4), ("MarkedChains$Tape", 103, "cut", 5), ("MarkedChains$Tape", 105, "liar", 6), ("MarkedChains$Tape", 107, "letter", 7), ("MarkedChains$Tape", 109, "omit", 8), ("MarkedChains$Tape", 111, "late", 9), ("MarkedChainsModel", 185, "play", 0), ("MarkedChainsModel", 154, "sender", 1), ("MarkedChainsModel", 160, "value", 2), ("MarkedChainsModel", 161, "rounds", 3), ("MarkedChainsModel", 163, "default", 4), ("MarkedChainsModel", 165, "cut", 5), ("MarkedChainsModel", 167, "liar", 6), ("MarkedChainsModel", 172, "letter", 7), ("MarkedChainsModel", 177, "omit", 8), ("MarkedChainsModel", 183, "late", 9)]
def lenS : List Nat := [4, 6, 5, 6, 7, 3, 4, 6, 4, 4]
def bytS : List (List Int32) := [[112, 108, 97, 121], [115, 101, 110, 100, 101, 114], [118, 97, 108, 117, 101], [114, 111, 117, 110, 100, 115], [100, 101, 102, 97, 117, 108, 116], [99, 117, 116], [108, 105, 97, 114], [108, 101, 116, 116, 101, 114], [111, 109, 105, 116], [108, 97, 116, 101]]
/-- what holds of a state, and goes on holding: classes, array classes, links, literals -/
def wX (Z : WD) (s : State) : Prop := va_K Z.2.2.2.1 classes Z.2.2.2.2.1 s ∧ (∀ q ∈ nestRefs, va_Nw (.methodLinkNest q.1 q.2.1 q.2.2.1 q.2.2.2) s) ∧ (∀ q ∈ strRefs, vk_R q.1 q.2.1 q.2.2.1 (Z.2.2.2.2.2.1 q.2.2.2) s) ∧ vk_S 10 lenS bytS Z.2.2.2.2.2.1 Z.2.2.2.2.2.2 (wA Z) s s.heap ∧ va_Z "java/lang/String" "COMPACT_STRINGS" "Z" (.int 1) (wA Z) s s.heap ∧ va_Zq "jdk/internal/util/Preconditions" "SIOOBE_FORMATTER" "Ljava/util/function/BiFunction;" (wA Z) s s.heap
def wP (Z : WD) (M : Mem) (H : Heap) : Prop := va_P Z.2.2.2.1 classes (wW Z M) H
def wPre (Z : WD) (M : Mem) : State → Prop := fun U => wP Z M U.heap ∧ wX Z U
def wPost (Z : WD) (M : Mem) : Unit → State → Prop := fun _ t => wP Z M t.heap
def HW (Z : WD) (M : Mem) (s : State) (H : Heap) (locs : List Loc) : Prop := wP Z M H ∧ va_S (wA Z) s.heap H locs
theorem wW_get (Z : WD) (M : Mem) {k : Nat} (h : k < Z.1) : (wW Z M)[k]? = some (Z.2.2.1 k, Z.2.1 k (M k)) := by
  unfold wW
  rw [List.getElem?_map, List.getElem?_range h]
  rfl
theorem wW_len (Z : WD) (M : Mem) : (wW Z M).length = Z.1 := by
  unfold wW
  rw [List.length_map, List.length_range]
theorem wW_set (Z : WD) (M : Mem) {k : Nat} (h : k < Z.1) (row : Nat → Int32) : (wW Z M).set k (Z.2.2.1 k, Z.2.1 k row) = wW Z (fun a => if a = k then row else M a) := by
  apply List.ext_getElem?
  intro i
  rcases Nat.lt_or_ge i Z.1 with hi | hi
  · rw [wW_get Z _ hi]
    by_cases e : i = k
    · subst e
      rw [List.getElem?_set_self (by rw [wW_len]; exact h)]
      simp
    · rw [List.getElem?_set_ne (fun q => e q.symm), wW_get Z _ hi]
      simp [e]
  · rw [List.getElem?_eq_none (by rw [List.length_set, wW_len]; exact hi), List.getElem?_eq_none (by rw [wW_len]; exact hi)]
theorem wW_D {Z : WD} (hI : wI Z) (M : Mem) : va_D (wA Z) (wW Z M) := by
  have key : ∀ (k : Nat) (q : Nat × va_E), (wW Z M)[k]? = some q → k < Z.1 ∧ q.1 = Z.2.2.1 k := by
    intro k q hq
    have hk : k < Z.1 := by
      have := (List.getElem?_eq_some_iff.mp hq).1
      rwa [wW_len] at this
    rw [wW_get Z M hk] at hq
    cases hq
    exact ⟨hk, rfl⟩
  refine ⟨fun i j p q hp hq e => ?_, fun k q hq => ?_⟩
  · obtain ⟨h1, h2⟩ := key i p hp
    obtain ⟨h3, h4⟩ := key j q hq
    exact hI i j h1 h3 (by rw [← h2, ← h4, e])
  · obtain ⟨h1, h2⟩ := key k q hq
    exact ⟨k, h1, h2⟩
theorem wP.set {Z : WD} {M : Mem} {k : Nat} (h : k < Z.1) {row : Nat → Int32} {e : va_E} (he : e = Z.2.1 k row) {H : Heap} (hp : va_P Z.2.2.2.1 classes ((wW Z M).set k (Z.2.2.1 k, e)) H) : wP Z (fun a => if a = k then row else M a) H := by
  rw [he, wW_set Z M h row] at hp
  exact hp
/-- the cell k is an array of n of this type -/
def AA (ty : FieldType) (Z : WD) (k n : Nat) : Prop := k < Z.1 ∧ ∃ (cA : ClassId) (t : Nat), (∀ row, Z.2.1 k row = .inl (cA, n, .inl row)) ∧ Z.2.2.2.2.1[t]? = some (cA, ty)
section Rows
variable {p : Program} {l : Launch} {e : Env} {R : Room} {s : State} {m : MethodId} {args : Array Value} {below : List Frame} {meth : Method} {c : Code} {H : Heap} {locs : List Loc} {cells slots : Nat} {Q : State → Prop}
variable {cc : ByteArray} {pc : Nat} {ls : Array Slot} {rest : List Value} {Z : WD} {M : Mem}
theorem q_iald (hx : p.tables.exec = Jvm.exec) (hb : c.code = cc) (hX : wX Z s) (hH : HW Z M s H locs) {k n : Nat} (hk : AA .int Z k n) {i : Int32} {j : Nat} (hin : vp_in i n) (hj : i.toNatClampNeg = j) (hdg : decode cc pc = .ok (.iaload, 1))
    (kk : W p l e R s m args below meth c H locs cells slots Q (F0 m (pc + 1) ls (.int (M k j) :: rest))) : W p l e R s m args below meth c H locs cells slots Q (F0 m pc ls (.int i :: .ref (Z.2.2.1 k) :: rest)) := by
  subst hj
  obtain ⟨hk, cA, t, hg, ht⟩ := hk
  exact va_iald hx hb hX.1 hH.1 k t ((wW_get Z M hk).trans (by rw [hg])) ht hin hdg kk
theorem q_cald (hx : p.tables.exec = Jvm.exec) (hb : c.code = cc) (hX : wX Z s) (hH : HW Z M s H locs) {k n : Nat} (hk : AA .char Z k n) {i : Int32} {j : Nat} (hin : vp_in i n) (hj : i.toNatClampNeg = j) (hdg : decode cc pc = .ok (.caload, 1))
    (kk : W p l e R s m args below meth c H locs cells slots Q (F0 m (pc + 1) ls (.int (M k j) :: rest))) : W p l e R s m args below meth c H locs cells slots Q (F0 m pc ls (.int i :: .ref (Z.2.2.1 k) :: rest)) := by
  subst hj
  obtain ⟨hk, cA, t, hg, ht⟩ := hk
  exact va_cald hx hb hX.1 hH.1 k t ((wW_get Z M hk).trans (by rw [hg])) ht hin hdg kk
theorem q_bald (hx : p.tables.exec = Jvm.exec) (hb : c.code = cc) (hX : wX Z s) (hH : HW Z M s H locs) {k n : Nat} (hk : AA .byte Z k n) {i : Int32} {j : Nat} (hin : vp_in i n) (hj : i.toNatClampNeg = j) (hdg : decode cc pc = .ok (.baload, 1))
    (kk : W p l e R s m args below meth c H locs cells slots Q (F0 m (pc + 1) ls (.int (M k j) :: rest))) : W p l e R s m args below meth c H locs cells slots Q (F0 m pc ls (.int i :: .ref (Z.2.2.1 k) :: rest)) := by
  subst hj
  obtain ⟨hk, cA, t, hg, ht⟩ := hk
  exact va_bald hx hb hX.1 hH.1 k t ((wW_get Z M hk).trans (by rw [hg])) ht hin hdg kk
theorem q_zald (hx : p.tables.exec = Jvm.exec) (hb : c.code = cc) (hX : wX Z s) (hH : HW Z M s H locs) {k n : Nat} (hk : AA .boolean Z k n) {i : Int32} {j : Nat} (hin : vp_in i n) (hj : i.toNatClampNeg = j) (hdg : decode cc pc = .ok (.baload, 1))
    (kk : W p l e R s m args below meth c H locs cells slots Q (F0 m (pc + 1) ls (.int (M k j) :: rest))) : W p l e R s m args below meth c H locs cells slots Q (F0 m pc ls (.int i :: .ref (Z.2.2.1 k) :: rest)) := by
  subst hj
  obtain ⟨hk, cA, t, hg, ht⟩ := hk
  exact va_zald hx hb hX.1 hH.1 k t ((wW_get Z M hk).trans (by rw [hg])) ht hin hdg kk
theorem q_alen (hx : p.tables.exec = Jvm.exec) (hb : c.code = cc) (hX : wX Z s) (hH : HW Z M s H locs) {k n : Nat} (hk : AA .int Z k n) (hdg : decode cc pc = .ok (.arraylength, 1))
    (kk : W p l e R s m args below meth c H locs cells slots Q (F0 m (pc + 1) ls (.int (nI n) :: rest))) : W p l e R s m args below meth c H locs cells slots Q (F0 m pc ls (.ref (Z.2.2.1 k) :: rest)) := by
  obtain ⟨hk, cA, t, hg, ht⟩ := hk
  exact va_alen (x := (n, .inl (M k))) hx hb hX.1 hH.1 k t ((wW_get Z M hk).trans (by rw [hg])) ht rfl hdg kk
theorem q_iast (hx : p.tables.exec = Jvm.exec) (hb : c.code = cc) (hX : wX Z s) (hI : wI Z) (hH : HW Z M s H locs) {k n : Nat} (hk : AA .int Z k n) {i x : Int32} {j : Nat} (hin : vp_in i n) (hj : i.toNatClampNeg = j) (hdg : decode cc pc = .ok (.iastore, 1))
    (kk : ∀ (H1 : Heap) (locs1 : List Loc), HW Z (upM M k j x) s H1 locs1 → W p l e R s m args below meth c H1 locs1 cells slots Q (F0 m (pc + 1) ls rest)) : W p l e R s m args below meth c H locs cells slots Q (F0 m pc ls (.int x :: .int i :: .ref (Z.2.2.1 k) :: rest)) := by
  subst hj
  obtain ⟨hk, cA, t, hg, ht⟩ := hk
  exact va_iast hx hb hX.1 hH.1 (wW_D hI M) hH.2 k t ((wW_get Z M hk).trans (by rw [hg])) ht hin hdg (fun H1 locs1 h1 _ h3 => kk H1 locs1 ⟨wP.set hk (hg _).symm h1, h3⟩)
theorem q_cast (hx : p.tables.exec = Jvm.exec) (hb : c.code = cc) (hX : wX Z s) (hI : wI Z) (hH : HW Z M s H locs) {k n : Nat} (hk : AA .char Z k n) {i x : Int32} {j : Nat} (hin : vp_in i n) (hj : i.toNatClampNeg = j) (hdg : decode cc pc = .ok (.castore, 1))
    (kk : ∀ (H1 : Heap) (locs1 : List Loc), HW Z (upM M k j (vp_nar .char x)) s H1 locs1 → W p l e R s m args below meth c H1 locs1 cells slots Q (F0 m (pc + 1) ls rest)) : W p l e R s m args below meth c H locs cells slots Q (F0 m pc ls (.int x :: .int i :: .ref (Z.2.2.1 k) :: rest)) := by
  subst hj
  obtain ⟨hk, cA, t, hg, ht⟩ := hk
  exact va_cast hx hb hX.1 hH.1 (wW_D hI M) hH.2 k t ((wW_get Z M hk).trans (by rw [hg])) ht hin hdg (fun H1 locs1 h1 _ h3 => kk H1 locs1 ⟨wP.set hk (hg _).symm h1, h3⟩)
theorem q_bast (hx : p.tables.exec = Jvm.exec) (hb : c.code = cc) (hX : wX Z s) (hI : wI Z) (hH : HW Z M s H locs) {k n : Nat} (hk : AA .byte Z k n) {i x : Int32} {j : Nat} (hin : vp_in i n) (hj : i.toNatClampNeg = j) (hdg : decode cc pc = .ok (.bastore, 1))
    (kk : ∀ (H1 : Heap) (locs1 : List Loc), HW Z (upM M k j (vp_nar .byte x)) s H1 locs1 → W p l e R s m args below meth c H1 locs1 cells slots Q (F0 m (pc + 1) ls rest)) : W p l e R s m args below meth c H locs cells slots Q (F0 m pc ls (.int x :: .int i :: .ref (Z.2.2.1 k) :: rest)) := by
  subst hj
  obtain ⟨hk, cA, t, hg, ht⟩ := hk
  exact va_bast hx hb hX.1 hH.1 (wW_D hI M) hH.2 k t ((wW_get Z M hk).trans (by rw [hg])) ht hin hdg (fun H1 locs1 h1 _ h3 => kk H1 locs1 ⟨wP.set hk (hg _).symm h1, h3⟩)
theorem q_zast (hx : p.tables.exec = Jvm.exec) (hb : c.code = cc) (hX : wX Z s) (hI : wI Z) (hH : HW Z M s H locs) {k n : Nat} (hk : AA .boolean Z k n) {i x : Int32} {j : Nat} (hin : vp_in i n) (hj : i.toNatClampNeg = j) (hdg : decode cc pc = .ok (.bastore, 1))
    (kk : ∀ (H1 : Heap) (locs1 : List Loc), HW Z (upM M k j (vp_nar .boolean x)) s H1 locs1 → W p l e R s m args below meth c H1 locs1 cells slots Q (F0 m (pc + 1) ls rest)) : W p l e R s m args below meth c H locs cells slots Q (F0 m pc ls (.int x :: .int i :: .ref (Z.2.2.1 k) :: rest)) := by
  subst hj
  obtain ⟨hk, cA, t, hg, ht⟩ := hk
  exact va_zast hx hb hX.1 hH.1 (wW_D hI M) hH.2 k t ((wW_get Z M hk).trans (by rw [hg])) ht hin hdg (fun H1 locs1 h1 _ h3 => kk H1 locs1 ⟨wP.set hk (hg _).symm h1, h3⟩)
/-- a field is read: the cell k is an object of the class ci, its f-th field the value v -/
theorem q_get (hx : p.tables.exec = Jvm.exec) (hb : c.code = cc) (ht : ∀ w ∈ gtb, w.before args s = true) {own C : String} {T : u_T} {N ci index : Nat} (hin : ∀ w ∈ u_ws C T N, w ∈ gtb) (hown : s.vm.findClass own = some m.cls) (hX : wX Z s) (hH : HW Z M s H locs) {k : Nat} (hk : k < Z.1) {fs : List Value} (he : Z.2.1 k (M k) = .inr (ci, fs)) (hc : classes[ci]? = some (C, T, N)) (f : Nat) (hf : f < N) (hlink : Cond.fieldLink own index (T f).1 (T f).2.1 (T f).2.2.1 ∈ gtb) {v : Value} (hv : fs[f]? = some v) (hdg : decode cc pc = .ok (.getfield index, 3))
    (kk : W p l e R s m args below meth c H locs cells slots Q (F0 m (pc + 3) ls (v :: rest))) : W p l e R s m args below meth c H locs cells slots Q (F0 m pc ls (.ref (Z.2.2.1 k) :: rest)) :=
  va_get hx hb ht hin hown hX.1 hH.1 k ((wW_get Z M hk).trans (by rw [he])) hc f hf (ht _ hlink) (fun _ h => h) hv hdg kk
/-- an int field is written -/
theorem q_put (hx : p.tables.exec = Jvm.exec) (hb : c.code = cc) (ht : ∀ w ∈ gtb, w.before args s = true) {own C : String} {T : u_T} {N ci index : Nat} (hin : ∀ w ∈ u_ws C T N, w ∈ gtb) {ty0 : Nat → FieldType} (hty : ∀ k, k < N → parseFieldDescriptor (T k).2.2.1 = some (ty0 k)) (hnm : ∀ a, a < N → ∀ b, b < N → a ≠ b → (T a).2.1 ≠ (T b).2.1) (hown : s.vm.findClass own = some m.cls) (hX : wX Z s) (hI : wI Z) (hH : HW Z M s H locs) {k : Nat} (hk : k < Z.1) {fs : List Value} (he : Z.2.1 k (M k) = .inr (ci, fs)) (hc : classes[ci]? = some (C, T, N)) (f : Nat) (hf : f < N) (hlink : Cond.fieldLink own index (T f).1 (T f).2.1 (T f).2.2.1 ∈ gtb) (hfin : (T f).2.2.2 = false) (hd : parseFieldDescriptor (T f).2.2.1 = some .int) (hl : f < fs.length) {x : Int32} (hs : Z.2.1 k (upd (M k) f x) = .inr (ci, fs.set f (.int x))) (hdg : decode cc pc = .ok (.putfield index, 3))
    (kk : ∀ (H1 : Heap) (locs1 : List Loc), HW Z (upM M k f x) s H1 locs1 → W p l e R s m args below meth c H1 locs1 cells slots Q (F0 m (pc + 3) ls rest)) : W p l e R s m args below meth c H locs cells slots Q (F0 m pc ls (.int x :: .ref (Z.2.2.1 k) :: rest)) :=
  va_put hx hb ht hin ty0 hty hnm hown hX.1 hH.1 (wW_D hI M) hH.2 k ((wW_get Z M hk).trans (by rw [he])) hc f hf (ht _ hlink) (fun _ h => h) hfin hd (vp_nar_int x) rfl hl hdg (fun H1 locs1 h1 _ h3 => kk H1 locs1 ⟨wP.set hk hs.symm h1, h3⟩)
theorem q_recv (hX : wX Z s) (hH : HW Z M s H locs) {k ci : Nat} (hk : k < Z.1) {fs : List Value} (he : Z.2.1 k (M k) = .inr (ci, fs)) {q : vw_C} (hc : classes[ci]? = some q) : ∃ cell : Cell, H[Z.2.2.1 k]? = some cell ∧ cell.vm.isStatics = false ∧ s.vm.findClass q.1 = some cell.cls :=
  va_recv hX.1 hH.1 hc ((wW_get Z M hk).trans (by rw [he]))
theorem wPre.start (hX : wX Z s) (hH : HW Z M s H locs) {U : State} (hU : U.heap = H) (hW : s.WarmedH U.vm) : wPre Z M U := by
  obtain ⟨h1, h2, h3, h4, h5, h6⟩ := hX
  refine ⟨by rw [hU]; exact hH.1, va_K.moved hW.alike h1, fun q hq => va_Nw.warmM hW (h2 q hq), fun q hq => vk_R.warm hW (h3 q hq), ?_, ?_, ?_⟩
  · rw [hU]; exact (h4.kept hH.2.2.1).moved hW.alike
  · rw [hU]; exact (h5.kept hH.2.2.1).moved hW.alike
  · rw [hU]; exact (h6.kept hH.2.2.1).moved hW.alike
theorem wPre.blind (As : List Value) : FrameBlind (va_Pc As (wPre Z M)) := by
  intro a U g mk q
  obtain ⟨q0, qP, h1, h2, h3, h4, h5, h6⟩ := q
  exact ⟨q0, qP, va_K.moved (u := U) (U := U.calling g mk a) (Vm.Alike.refl U.vm) h1, fun q hq => va_Nw.same rfl rfl (h2 q hq), fun q hq => vk_R.same rfl (h3 q hq), vk_S.moved (u := U) (U := U.calling g mk a) (Vm.Alike.refl U.vm) h4, va_Z.moved (u := U) (U := U.calling g mk a) (Vm.Alike.refl U.vm) h5, va_Zq.moved (u := U) (U := U.calling g mk a) (Vm.Alike.refl U.vm) h6⟩
-- what a method's contract is: nothing is made, the table is another one
abbrev Ci (l : Launch) (Z : WD) (y : MethodName) (cc : ByteArray) (n : Nat) (ret : Option FieldType) (fr lo : Nat) (As : List Value) (M M' : Mem) (r : Int32) : Prop := Met l y (.code y cc n ret :: gtb) { frames := fr, cells := 0, slots := 0, locals := lo } (va_Pc As (wPre Z M)) (va_Qi (fun r' (_ : Unit) => r' = r) (wPost Z M') (wA Z)) 0 0 (wA Z)
abbrev Cl (l : Launch) (Z : WD) (y : MethodName) (cc : ByteArray) (n : Nat) (ret : Option FieldType) (fr lo : Nat) (As : List Value) (M M' : Mem) (r : Int64) : Prop := Met l y (.code y cc n ret :: gtb) { frames := fr, cells := 0, slots := 0, locals := lo } (va_Pc As (wPre Z M)) (va_Ql (fun r' (_ : Unit) => r' = r) (wPost Z M') (wA Z)) 0 0 (wA Z)
abbrev Cv (l : Launch) (Z : WD) (y : MethodName) (cc : ByteArray) (n : Nat) (ret : Option FieldType) (fr lo : Nat) (As : List Value) (M M' : Mem) : Prop := Met l y (.code y cc n ret :: gtb) { frames := fr, cells := 0, slots := 0, locals := lo } (va_Pc As (wPre Z M)) (va_Qv (fun (_ : Unit) => True) (wPost Z M') (wA Z)) 0 0 (wA Z)
-- words of a call
theorem gV {own C : String} {idx n : Nat} {y : MethodName} {cb : ByteArray} {ret : Option FieldType} (h1 : Cond.methodLink own idx y ∈ gtb) (h2 : Cond.instanceMethod y ∈ gtb) (h3 : Cond.selects C y y ∈ gtb) (h4 : Cond.initialized C ∈ gtb) (h5 : Cond.code y cb n ret ∈ gtb) : GoodIn gtb (wsV own idx C y (.code y cb n ret :: gtb)) := by
  intro w hw
  have : w ∈ gtb := by
    rcases List.mem_append.mp hw with h | h
    · simp only [List.mem_cons, List.not_mem_nil, or_false] at h
      rcases h with rfl | rfl | rfl | rfl <;> assumption
    · rcases List.mem_cons.mp h with rfl | h
      · exact h5
      · exact h
  exact ⟨this, gt_good w this⟩
theorem gS {own : String} {idx n : Nat} {y : MethodName} {cb : ByteArray} {ret : Option FieldType} (h1 : Cond.methodLink own idx y ∈ gtb) (h2 : Cond.static y ∈ gtb) (h4 : Cond.initialized y.cls ∈ gtb) (h5 : Cond.code y cb n ret ∈ gtb) : GoodIn gtb (va_wsS own idx y (.code y cb n ret :: gtb)) := by
  intro w hw
  have : w ∈ gtb := by
    rcases List.mem_append.mp hw with h | h
    · simp only [List.mem_cons, List.not_mem_nil, or_false] at h
      rcases h with rfl | rfl | rfl <;> assumption
    · rcases List.mem_cons.mp h with rfl | h
      · exact h5
      · exact h
  exact ⟨this, gt_good w this⟩
theorem gN {n : Nat} {y : MethodName} {cb : ByteArray} {ret : Option FieldType} (h5 : Cond.code y cb n ret ∈ gtb) : GoodIn gtb (.code y cb n ret :: gtb) := by
  intro w hw
  have : w ∈ gtb := by
    rcases List.mem_cons.mp hw with rfl | h
    · exact h5
    · exact h
  exact ⟨this, gt_good w this⟩
section Calls
variable {y : MethodName} {cb : ByteArray} {maxL nL n index fr lo : Nat} {ret : Option FieldType} {own C host : String} {b : Addr} {As st0 : List Value} {M' : Mem} {r : Int32} {r64 : Int64}
theorem q_cVi (S : CallFix p m c cc nL s args gtb own) (hX : wX Z s) (hH : HW Z M s H locs) (hM : Ci l Z y cb maxL ret fr lo (.ref b :: As) M M' r) (cw : CallW R s args own C index y cb maxL ret (.code y cb maxL ret :: gtb) { frames := fr, cells := 0, slots := 0, locals := lo } 0 0 n) (hr : ∃ cell : Cell, H[b]? = some cell ∧ cell.vm.isStatics = false ∧ s.vm.findClass C = some cell.cls) (hn : As.length = n) (hsz : ls.size = nL) (hst : st0 = As.reverse ++ .ref b :: rest) (hW : (rest.map fun v => v.category).sum ≤ 8) (hdg : decode cc pc = .ok (.invokevirtual index, 3)) (hf : cells ≤ R.cells ∧ slots ≤ R.slots)
    (kk : ∀ (H1 : Heap) (locs1 : List Loc), HW Z M' s H1 locs1 → W p l e R s m args below meth c H1 locs1 cells slots Q (F0 m (pc + 3) ls (.int r :: rest))) : W p l e R s m args below meth c H locs cells slots Q (F0 m pc ls st0) := by
  refine va_calli (va_runV (As := As) (rest := rest) S hM cw ⟨wPre.blind _, hr, fun U hU hW => ⟨rfl, wPre.start hX hH hU hW⟩⟩ rfl hn hsz hst (lv_room hW) hdg hf) hH.2 (fun q _ h => h) (fun q h => h) (fun r' u t H1 locs1 ht hvm hw hB hz1 hk1 hS => ?_)
  subst hw
  exact kk H1 locs1 ⟨by rw [← ht]; exact hB, hS⟩
theorem q_cVl (S : CallFix p m c cc nL s args gtb own) (hX : wX Z s) (hH : HW Z M s H locs) (hM : Cl l Z y cb maxL ret fr lo (.ref b :: As) M M' r64) (cw : CallW R s args own C index y cb maxL ret (.code y cb maxL ret :: gtb) { frames := fr, cells := 0, slots := 0, locals := lo } 0 0 n) (hr : ∃ cell : Cell, H[b]? = some cell ∧ cell.vm.isStatics = false ∧ s.vm.findClass C = some cell.cls) (hn : As.length = n) (hsz : ls.size = nL) (hst : st0 = As.reverse ++ .ref b :: rest) (hW : (rest.map fun v => v.category).sum ≤ 8) (hdg : decode cc pc = .ok (.invokevirtual index, 3)) (hf : cells ≤ R.cells ∧ slots ≤ R.slots)
    (kk : ∀ (H1 : Heap) (locs1 : List Loc), HW Z M' s H1 locs1 → W p l e R s m args below meth c H1 locs1 cells slots Q (F0 m (pc + 3) ls (.long r64 :: rest))) : W p l e R s m args below meth c H locs cells slots Q (F0 m pc ls st0) := by
  refine va_calll (va_runV (As := As) (rest := rest) S hM cw ⟨wPre.blind _, hr, fun U hU hW => ⟨rfl, wPre.start hX hH hU hW⟩⟩ rfl hn hsz hst (lv_room hW) hdg hf) hH.2 (fun q _ h => h) (fun q h => h) (fun r' u t H1 locs1 ht hvm hw hB hz1 hk1 hS => ?_)
  subst hw
  exact kk H1 locs1 ⟨by rw [← ht]; exact hB, hS⟩
theorem q_cVv (S : CallFix p m c cc nL s args gtb own) (hX : wX Z s) (hH : HW Z M s H locs) (hM : Cv l Z y cb maxL ret fr lo (.ref b :: As) M M') (cw : CallW R s args own C index y cb maxL ret (.code y cb maxL ret :: gtb) { frames := fr, cells := 0, slots := 0, locals := lo } 0 0 n) (hr : ∃ cell : Cell, H[b]? = some cell ∧ cell.vm.isStatics = false ∧ s.vm.findClass C = some cell.cls) (hn : As.length = n) (hsz : ls.size = nL) (hst : st0 = As.reverse ++ .ref b :: rest) (hW : (rest.map fun v => v.category).sum ≤ 8) (hdg : decode cc pc = .ok (.invokevirtual index, 3)) (hf : cells ≤ R.cells ∧ slots ≤ R.slots)
    (kk : ∀ (H1 : Heap) (locs1 : List Loc), HW Z M' s H1 locs1 → W p l e R s m args below meth c H1 locs1 cells slots Q (F0 m (pc + 3) ls rest)) : W p l e R s m args below meth c H locs cells slots Q (F0 m pc ls st0) := by
  refine va_callv (va_runV (As := As) (rest := rest) S hM cw ⟨wPre.blind _, hr, fun U hU hW => ⟨rfl, wPre.start hX hH hU hW⟩⟩ rfl hn hsz hst (lv_room hW) hdg hf) hH.2 (fun q _ h => h) (fun q h => h) (fun u t H1 locs1 ht hvm hw hB hz1 hk1 hS => ?_)
  exact kk H1 locs1 ⟨by rw [← ht]; exact hB, hS⟩
theorem q_cSi (S : CallFix p m c cc nL s args gtb own) (hX : wX Z s) (hH : HW Z M s H locs) (hM : Ci l Z y cb maxL ret fr lo As M M' r) (cw : CallB R s args own index y cb maxL ret (.code y cb maxL ret :: gtb) { frames := fr, cells := 0, slots := 0, locals := lo } 0 0 n ∧ (Cond.static y).before args s = true) (hn : As.length = n) (hsz : ls.size = nL) (hst : st0 = As.reverse ++ rest) (hW : (rest.map fun v => v.category).sum ≤ 8) (hdg : decode cc pc = .ok (.invokestatic index, 3)) (hf : cells ≤ R.cells ∧ slots ≤ R.slots)
    (kk : ∀ (H1 : Heap) (locs1 : List Loc), HW Z M' s H1 locs1 → W p l e R s m args below meth c H1 locs1 cells slots Q (F0 m (pc + 3) ls (.int r :: rest))) : W p l e R s m args below meth c H locs cells slots Q (F0 m pc ls st0) := by
  refine va_calli (va_runS (As := As) (rest := rest) S hM cw ⟨wPre.blind _, fun U hU hW => ⟨rfl, wPre.start hX hH hU hW⟩⟩ rfl hn hsz hst (lv_room hW) hdg hf) hH.2 (fun q _ h => h) (fun q h => h) (fun r' u t H1 locs1 ht hvm hw hB hz1 hk1 hS => ?_)
  subst hw
  exact kk H1 locs1 ⟨by rw [← ht]; exact hB, hS⟩
theorem q_cSl (S : CallFix p m c cc nL s args gtb own) (hX : wX Z s) (hH : HW Z M s H locs) (hM : Cl l Z y cb maxL ret fr lo As M M' r64) (cw : CallB R s args own index y cb maxL ret (.code y cb maxL ret :: gtb) { frames := fr, cells := 0, slots := 0, locals := lo } 0 0 n ∧ (Cond.static y).before args s = true) (hn : As.length = n) (hsz : ls.size = nL) (hst : st0 = As.reverse ++ rest) (hW : (rest.map fun v => v.category).sum ≤ 8) (hdg : decode cc pc = .ok (.invokestatic index, 3)) (hf : cells ≤ R.cells ∧ slots ≤ R.slots)
    (kk : ∀ (H1 : Heap) (locs1 : List Loc), HW Z M' s H1 locs1 → W p l e R s m args below meth c H1 locs1 cells slots Q (F0 m (pc + 3) ls (.long r64 :: rest))) : W p l e R s m args below meth c H locs cells slots Q (F0 m pc ls st0) := by
  refine va_calll (va_runS (As := As) (rest := rest) S hM cw ⟨wPre.blind _, fun U hU hW => ⟨rfl, wPre.start hX hH hU hW⟩⟩ rfl hn hsz hst (lv_room hW) hdg hf) hH.2 (fun q _ h => h) (fun q h => h) (fun r' u t H1 locs1 ht hvm hw hB hz1 hk1 hS => ?_)
  subst hw
  exact kk H1 locs1 ⟨by rw [← ht]; exact hB, hS⟩
theorem q_cSv (S : CallFix p m c cc nL s args gtb own) (hX : wX Z s) (hH : HW Z M s H locs) (hM : Cv l Z y cb maxL ret fr lo As M M') (cw : CallB R s args own index y cb maxL ret (.code y cb maxL ret :: gtb) { frames := fr, cells := 0, slots := 0, locals := lo } 0 0 n ∧ (Cond.static y).before args s = true) (hn : As.length = n) (hsz : ls.size = nL) (hst : st0 = As.reverse ++ rest) (hW : (rest.map fun v => v.category).sum ≤ 8) (hdg : decode cc pc = .ok (.invokestatic index, 3)) (hf : cells ≤ R.cells ∧ slots ≤ R.slots)
    (kk : ∀ (H1 : Heap) (locs1 : List Loc), HW Z M' s H1 locs1 → W p l e R s m args below meth c H1 locs1 cells slots Q (F0 m (pc + 3) ls rest)) : W p l e R s m args below meth c H locs cells slots Q (F0 m pc ls st0) := by
  refine va_callv (va_runS (As := As) (rest := rest) S hM cw ⟨wPre.blind _, fun U hU hW => ⟨rfl, wPre.start hX hH hU hW⟩⟩ rfl hn hsz hst (lv_room hW) hdg hf) hH.2 (fun q _ h => h) (fun q h => h) (fun u t H1 locs1 ht hvm hw hB hz1 hk1 hS => ?_)
  exact kk H1 locs1 ⟨by rw [← ht]; exact hB, hS⟩
theorem q_cNi (S : CallFix p m c cc nL s args gtb own) (hX : wX Z s) (hH : HW Z M s H locs) (hM : Ci l Z y cb maxL ret fr lo As M M' r) (cw : va_CN R s args own index y host cb maxL ret (.code y cb maxL ret :: gtb) { frames := fr, cells := 0, slots := 0, locals := lo } 0 0 n ∧ (Cond.static y).before args s = true ∧ True) (hn : As.length = n) (hsz : ls.size = nL) (hst : st0 = As.reverse ++ rest) (hW : (rest.map fun v => v.category).sum ≤ 8) (hdg : decode cc pc = .ok (.invokestatic index, 3)) (hf : cells ≤ R.cells ∧ slots ≤ R.slots)
    (kk : ∀ (H1 : Heap) (locs1 : List Loc), HW Z M' s H1 locs1 → W p l e R s m args below meth c H1 locs1 cells slots Q (F0 m (pc + 3) ls (.int r :: rest))) : W p l e R s m args below meth c H locs cells slots Q (F0 m pc ls st0) := by
  refine va_calli (va_runSN (As := As) (rest := rest) S hM cw ⟨wPre.blind _, fun U hU hW => ⟨rfl, wPre.start hX hH hU hW⟩⟩ rfl hn hsz hst (lv_room hW) hdg hf) hH.2 (fun q _ h => h) (fun q h => h) (fun r' u t H1 locs1 ht hvm hw hB hz1 hk1 hS => ?_)
  subst hw
  exact kk H1 locs1 ⟨by rw [← ht]; exact hB, hS⟩
end Calls
theorem lv_nm {x y : Int32} (h : x = y) (k : W p l e R s m args below meth c H locs cells slots Q (F0 m pc ls (.int y :: rest))) : W p l e R s m args below meth c H locs cells slots Q (F0 m pc ls (.int x :: rest)) := h ▸ k
def cpM (M : Mem) (a b sp dp n : Nat) : Mem := fun r => if r = b then va_cpy (M a) (M b) sp dp n else M r
theorem q_copy {nL : Nat} {own : String} (S : CallFix p m c cc nL s args gtb own) (hX : wX Z s) (hI : wI Z) (hH : HW Z M s H locs) {a b n0 n1 : Nat} (ha : AA .int Z a n0) (hb1 : AA .int Z b n1) (hsz : ls.size = nL) {index : Nat} (hlink : Cond.methodLink own index arraycopyName ∈ gtb) (hnat : Cond.native arraycopyName ∈ gtb) (hstat : Cond.static arraycopyName ∈ gtb) (hini : Cond.initialized "java/lang/System" ∈ gtb) {sp dp n : Int32} {sp' dp' n' : Nat} (hsp : vp_in sp 2147483648) (hdp : vp_in dp 2147483648) (hn : vp_in n 2147483648) (e1 : sp.toNatClampNeg = sp') (e2 : dp.toNatClampNeg = dp') (e3 : n.toNatClampNeg = n') (h4 : sp' + n' ≤ n0) (h5 : dp' + n' ≤ n1) (hfr : 1 ≤ R.frames) (hlo : (rest.map fun v => v.category).sum + (nativeFrameWords "java/lang/System" "arraycopy" 5 + 11) ≤ R.locals) (hdg : decode cc pc = .ok (.invokestatic index, 3))
    (kk : ∀ (H1 : Heap) (locs1 : List Loc), HW Z (cpM M a b sp' dp' n') s H1 locs1 → W p l e R s m args below meth c H1 locs1 cells slots Q (F0 m (pc + 3) ls rest)) : W p l e R s m args below meth c H locs cells slots Q (F0 m pc ls (.int n :: .int dp :: .ref (Z.2.2.1 b) :: .int sp :: .ref (Z.2.2.1 a) :: rest)) := by
  subst e1 e2 e3
  obtain ⟨ha, cA, t, hg, ht⟩ := ha
  obtain ⟨hb1, cB, t', hg', ht'⟩ := hb1
  exact va_copyi S.1 S.2.1 (S.2.2.1.trans hsz.symm) S.2.2.2.1 (S.2.2.2.2 _ hlink) (S.2.2.2.2 _ hnat) (S.2.2.2.2 _ hstat) (S.2.2.2.2 _ hini) hX.1 hH.1 (wW_D hI M) hH.2 a b t t' (f := M a) (g := M b) ((wW_get Z M ha).trans (by rw [hg])) ((wW_get Z M hb1).trans (by rw [hg'])) ht ht' rfl (fun h => hsp (Or.inl h)) (fun h => hdp (Or.inl h)) (fun h => hn (Or.inl h)) h4 h5 (fun _ _ => rfl) hfr hlo hdg (fun H1 locs1 h1 _ h3 => kk H1 locs1 ⟨wP.set hb1 (hg' _).symm h1, h3⟩)
-- the ends
theorem q_ri (hx : p.tables.exec = Jvm.exec) (hb : c.code = cc) (hr : meth.sig.returnType = some .int) (hlocks : meth.locks = false) (hH : HW Z M s H locs) {v r : Int32} {M' : Mem} (hv : v = r) (hM : M = M') (hdg : decode cc pc = .ok (.ireturn, 1)) : W p l e R s m args below meth c H locs 0 0 (MQ below (va_Qi (fun r' (_ : Unit) => r' = r) (wPost Z M') (wA Z)) args s 0 0 (wA Z)) (F0 m pc ls [.int v]) := by
  subst hv hM
  exact W.iret hx hb hr (fun t ht hW => ⟨⟨v, (), rfl, rfl, by show wP Z M t.heap; rw [ht]; exact hH.1⟩, hH.2.F ht⟩) hH.2.2.2 hdg hlocks
theorem q_rz (hx : p.tables.exec = Jvm.exec) (hb : c.code = cc) (hr : meth.sig.returnType = some .boolean) (hlocks : meth.locks = false) (hH : HW Z M s H locs) {v : Int32} {r : Bool} {M' : Mem} (hv : v = bI r) (hM : M = M') (hdg : decode cc pc = .ok (.ireturn, 1)) : W p l e R s m args below meth c H locs 0 0 (MQ below (va_Qi (fun r' (_ : Unit) => r' = bI r) (wPost Z M') (wA Z)) args s 0 0 (wA Z)) (F0 m pc ls [.int v]) := by
  subst hv hM
  exact W.zret hx hb hr (by cases r <;> rfl) (fun t ht hW => ⟨⟨bI r, (), rfl, rfl, by show wP Z M t.heap; rw [ht]; exact hH.1⟩, hH.2.F ht⟩) hH.2.2.2 hdg hlocks
theorem q_rl (hx : p.tables.exec = Jvm.exec) (hb : c.code = cc) (hr : meth.sig.returnType = some .long) (hlocks : meth.locks = false) (hH : HW Z M s H locs) {v r : Int64} {M' : Mem} (hv : v = r) (hM : M = M') (hdg : decode cc pc = .ok (.lreturn, 1)) : W p l e R s m args below meth c H locs 0 0 (MQ below (va_Ql (fun r' (_ : Unit) => r' = r) (wPost Z M') (wA Z)) args s 0 0 (wA Z)) (F0 m pc ls [.long v]) := by
  subst hv hM
  exact W.lret hx hb hr (fun t ht hW => ⟨⟨v, (), rfl, rfl, by show wP Z M t.heap; rw [ht]; exact hH.1⟩, hH.2.F ht⟩) hH.2.2.2 hdg hlocks
theorem q_rv (hx : p.tables.exec = Jvm.exec) (hb : c.code = cc) (hr : meth.sig.returnType = none) (hlocks : meth.locks = false) (hH : HW Z M s H locs) {M' : Mem} (hM : M = M') (hdg : decode cc pc = .ok (.return_, 1)) : W p l e R s m args below meth c H locs 0 0 (MQ below (va_Qv (fun (_ : Unit) => True) (wPost Z M') (wA Z)) args s 0 0 (wA Z)) (F0 m pc ls []) := by
  subst hM
  exact W.vret hx hb hr (fun t ht hW => ⟨⟨(), rfl, trivial, by show wP Z M t.heap; rw [ht]; exact hH.1⟩, hH.2.F ht⟩) hH.2.2.2 hdg hlocks
end Rows
-- programs: what they answer, or none (an index outside its row, a divisor 0, no end)
theorem o_t {α : Type} {c : Prop} {hc : Decidable c} {a b r : α} (h : c) (e : ite c a b = r) : a = r := by
  rw [if_pos h] at e
  exact e
theorem o_f {α : Type} {c : Prop} {hc : Decidable c} {a b r : α} (h : ¬ c) (e : ite c a b = r) : b = r := by
  rw [if_neg h] at e
  exact e
theorem o_g {α : Type} {c : Prop} {hc : Decidable c} {a : Option α} {r : α} (e : ite c a none = some r) : c ∧ a = some r := by
  by_cases h : c
  · rw [if_pos h] at e
    exact ⟨h, e⟩
  · rw [if_neg h] at e
    cases e
def bnd {α β : Type} (x : Option α) (k : α → Option β) : Option β := match x with
  | none => none
  | some a => k a
def bnd2 {α β γ : Type} (x : Option (α × β)) (k : α → β → Option γ) : Option γ := match x with
  | none => none
  | some (a, b) => k a b
theorem o_b {α β : Type} {x : Option α} {k : α → Option β} {r : β} (e : bnd x k = some r) : ∃ a, x = some a ∧ k a = some r := by
  cases x with
  | none => cases e
  | some a => exact ⟨a, rfl, e⟩
theorem o_b2 {α β γ : Type} {x : Option (α × β)} {k : α → β → Option γ} {r : γ} (e : bnd2 x k = some r) : ∃ a b, x = some (a, b) ∧ k a b = some r := by
  cases x with
  | none => cases e
  | some a => exact ⟨a.1, a.2, rfl, e⟩
/-- a loop's body goes on, or ends -/
def loopN {σ ρ : Type} (body : σ → Option (σ ⊕ ρ)) : Nat → σ → Option ρ
  | 0, _ => none
  | n + 1, s => match body s with
    | none => none
    | some (.inl t) => loopN body n t
    | some (.inr r) => some r
theorem loopN_more {σ ρ : Type} {body : σ → Option (σ ⊕ ρ)} : ∀ {n : Nat} {s : σ} {r : ρ} (k : Nat), loopN body n s = some r → loopN body (n + k) s = some r := by
  intro n
  induction n with
  | zero => intro s r k h; cases h
  | succ n ih =>
    intro s r k h
    rw [Nat.succ_add]
    unfold loopN at h ⊢
    cases hb : body s with
    | none => rw [hb] at h; cases h
    | some o =>
      rw [hb] at h
      cases o with
      | inl t => exact ih k h
      | inr r' => exact h
theorem loopN_one {σ ρ : Type} {body : σ → Option (σ ⊕ ρ)} {n m : Nat} {s : σ} {r r' : ρ} (h : loopN body n s = some r) (h' : loopN body m s = some r') : r = r' := by
  have h1 := loopN_more m h
  have h2 := loopN_more n h'
  rw [Nat.add_comm m n] at h2
  rw [h1] at h2
  exact Option.some.inj h2
noncomputable def loop {σ ρ : Type} (body : σ → Option (σ ⊕ ρ)) (s : σ) : Option ρ := by
  classical
  exact if h : ∃ r n, loopN body n s = some r then some (Classical.choose h) else none
theorem loop_of {σ ρ : Type} {body : σ → Option (σ ⊕ ρ)} {s : σ} {r : ρ} {n : Nat} (h : loopN body n s = some r) : loop body s = some r := by
  have h' : ∃ r n, loopN body n s = some r := ⟨r, n, h⟩
  unfold loop
  rw [dif_pos h']
  obtain ⟨m, hm⟩ := Classical.choose_spec h'
  rw [loopN_one hm h]
theorem loop_to {σ ρ : Type} {body : σ → Option (σ ⊕ ρ)} {s : σ} {r : ρ} (h : loop body s = some r) : ∃ n, loopN body n s = some r := by
  unfold loop at h
  split at h
  · rename_i h'
    cases h
    exact Classical.choose_spec h'
  · cases h
theorem loop_inr {σ ρ : Type} {body : σ → Option (σ ⊕ ρ)} {s : σ} {r : ρ} (h : body s = some (.inr r)) : loop body s = some r := by
  refine loop_of (n := 1) ?_
  unfold loopN
  rw [h]
theorem loop_inl {σ ρ : Type} {body : σ → Option (σ ⊕ ρ)} {s t : σ} (h : body s = some (.inl t)) : loop body s = loop body t := by
  have e : ∀ n, loopN body (n + 1) s = loopN body n t := by
    intro n
    show (match body s with | none => none | some (.inl t) => loopN body n t | some (.inr r) => some r) = _
    rw [h]
  cases ht : loop body t with
  | some r =>
    obtain ⟨n, hn⟩ := loop_to ht
    exact loop_of (n := n + 1) (by rw [e]; exact hn)
  | none =>
    cases hs : loop body s with
    | none => rfl
    | some r =>
      obtain ⟨n, hn⟩ := loop_to hs
      cases n with
      | zero => cases hn
      | succ n =>
        rw [e] at hn
        rw [loop_of hn] at ht
        cases ht
theorem loop_W {σ ρ : Type} {body : σ → Option (σ ⊕ ρ)} (G : σ → Prop) {r : ρ} (hs : ∀ s o, body s = some o → (∀ t, o = .inl t → G t) → (∀ r', o = .inr r' → r' = r) → G s) {s : σ} (h : loop body s = some r) : G s := by
  obtain ⟨n, hn⟩ := loop_to h
  clear h
  induction n generalizing s with
  | zero => cases hn
  | succ n ih =>
    unfold loopN at hn
    cases hb : body s with
    | none => rw [hb] at hn; cases hn
    | some o =>
      rw [hb] at hn
      refine hs s o hb (fun t ht => ?_) (fun r' hr => ?_)
      · subst ht
        exact ih hn
      · subst hr
        exact Option.some.inj hn
def lex {τ ρ : Type} (x : τ ⊕ ρ) (k : τ → Option ρ) : Option ρ := match x with
  | .inl t => k t
  | .inr r => some r
theorem o_v {α : Type} {a b : α} (h : some a = some b) : a = b := Option.some.inj h
theorem o_p {α β : Type} {a a' : α} {b b' : β} (h : some (a, b) = some (a', b')) : a = a' ∧ b = b' := by
  have h := Option.some.inj h
  exact ⟨congrArg Prod.fst h, congrArg Prod.snd h⟩
def gIn {α : Type} (i : Int32) (n : Nat) (a : Option α) : Option α := if i < 0 ∨ n ≤ i.toNatClampNeg then none else a
theorem o_in {α : Type} {i : Int32} {n : Nat} {a : Option α} {r : α} (e : gIn i n a = some r) : vp_in i n ∧ a = some r := by
  unfold gIn at e
  by_cases h : i < 0 ∨ n ≤ i.toNatClampNeg
  · rw [if_pos h] at e; cases e
  · rw [if_neg h] at e; exact ⟨h, e⟩
theorem gIn_of {α : Type} {i : Int32} {n : Nat} {a : Option α} (h : vp_in i n) : gIn i n a = a := if_neg h
/-- a value gets a name -/
def lt1 {α β : Type} (x : α) (k : α → β) : β := k x
theorem o_l {α β : Type} {x : α} {k : α → β} {r : β} (e : lt1 x k = r) : ∃ y, x = y ∧ k y = r := ⟨x, rfl, e⟩
theorem sw_out {x : Int32} {lo hi : Int} (h : ∀ v : Int, lo ≤ v → v ≤ hi → ¬ x = Int32.ofInt v) : x.toInt < lo ∨ hi < x.toInt := by
  rcases Int.lt_or_le x.toInt lo with h1 | h1
  · exact Or.inl h1
  · rcases Int.lt_or_le hi x.toInt with h2 | h2
    · exact Or.inr h2
    · exact absurd (Int32.ofInt_toInt x).symm (h _ h1 h2)
