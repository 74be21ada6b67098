/-! each call, in both: the contracts, the same answer, alike again -/
theorem k_feed (l : Launch) {Zc Zm : WD} (hIc : wI Zc) (hZc : IsC Zc) (hIm : wI Zm) (hZm : IsM Zm) {Mc Mm : Mem} (h : Rel Mc Mm) (x1 : Int32) (x2 : Int32) (x3 : Int32) (x4 : Int32) (x5 : Int32) : ∃ (r : Int32) (Mc' Mm' : Mem), Ci l Zc y_MC_feed b_MC_feed 6 (some .int) 1 22 [.ref (Zc.2.2.1 138), .int x1, .int x2, .int x3, .int x4, .int x5] Mc Mc' r ∧ Ci l Zm y_MM_feed b_MM_feed 6 (some .int) 1 22 [.ref (Zm.2.2.1 0), .int x1, .int x2, .int x3, .int x4, .int x5] Mm Mm' r ∧ Rel Mc' Mm' := by
  obtain ⟨v, Mc', Mm', e1, e2, e3⟩ := a_feed h x1 x2 x3 x4 x5
  exact ⟨v, Mc', Mm', c_MC_feed l hIc hZc Mc x1 x2 x3 x4 x5 e1, c_MM_feed l hIm hZm Mm x1 x2 x3 x4 x5 e2, e3⟩
theorem k_end (l : Launch) {Zc Zm : WD} (hIc : wI Zc) (hZc : IsC Zc) (hIm : wI Zm) (hZm : IsM Zm) {Mc Mm : Mem} (h : Rel Mc Mm) (x1 : Int32) : ∃ (r : Int32) (Mc' Mm' : Mem), Ci l Zc y_MC_end b_MC_end 2 (some .int) 0 0 [.ref (Zc.2.2.1 138), .int x1] Mc Mc' r ∧ Ci l Zm y_MM_end b_MM_end 2 (some .int) 0 0 [.ref (Zm.2.2.1 0), .int x1] Mm Mm' r ∧ Rel Mc' Mm' := by
  obtain ⟨v, Mc', Mm', e1, e2, e3⟩ := a_end h x1
  exact ⟨v, Mc', Mm', c_MC_end l hIc hZc Mc x1 e1, c_MM_end l hIm hZm Mm x1 e2, e3⟩
theorem k_tell (l : Launch) {Zc Zm : WD} (hIc : wI Zc) (hZc : IsC Zc) (hIm : wI Zm) (hZm : IsM Zm) {Mc Mm : Mem} (h : Rel Mc Mm) : ∃ (r : Int32) (Mc' Mm' : Mem), Ci l Zc y_MC_tell b_MC_tell 1 (some .int) 8 169 [.ref (Zc.2.2.1 138)] Mc Mc' r ∧ Ci l Zm y_MM_tell b_MM_tell 1 (some .int) 8 171 [.ref (Zm.2.2.1 0)] Mm Mm' r ∧ Rel Mc' Mm' := by
  obtain ⟨v, Mc', Mm', e1, e2, e3⟩ := a_tell h 
  exact ⟨v, Mc', Mm', c_MC_tell l hIc hZc Mc  e1, c_MM_tell l hIm hZm Mm  e2, e3⟩
theorem k_settle (l : Launch) {Zc Zm : WD} (hIc : wI Zc) (hZc : IsC Zc) (hIm : wI Zm) (hZm : IsM Zm) {Mc Mm : Mem} (h : Rel Mc Mm) (x1 : Int32) (x2 : Int32) : ∃ (r : Int32) (Mc' Mm' : Mem), Ci l Zc y_MC_settle b_MC_settle 4 (some .int) 6 135 [.ref (Zc.2.2.1 138), .int x1, .int x2] Mc Mc' r ∧ Ci l Zm y_MM_settle b_MM_settle 4 (some .int) 3 68 [.ref (Zm.2.2.1 0), .int x1, .int x2] Mm Mm' r ∧ Rel Mc' Mm' := by
  obtain ⟨v, Mc', Mm', e1, e2, e3⟩ := a_settle h x1 x2
  exact ⟨v, Mc', Mm', c_MC_settle l hIc hZc Mc x1 x2 e1, c_MM_settle l hIm hZm Mm x1 x2 e2, e3⟩
theorem k_lies (l : Launch) {Zc Zm : WD} (hIc : wI Zc) (hZc : IsC Zc) (hIm : wI Zm) (hZm : IsM Zm) {Mc Mm : Mem} (h : Rel Mc Mm) (x1 : Int32) : ∃ (r : Int32) (Mc' Mm' : Mem), Ci l Zc y_MC_lies b_MC_lies 2 (some .int) 6 135 [.ref (Zc.2.2.1 138), .int x1] Mc Mc' r ∧ Ci l Zm y_MM_lies b_MM_lies 2 (some .int) 2 46 [.ref (Zm.2.2.1 0), .int x1] Mm Mm' r ∧ Rel Mc' Mm' := by
  obtain ⟨v, Mc', Mm', e1, e2, e3⟩ := a_lies h x1
  exact ⟨v, Mc', Mm', c_MC_lies l hIc hZc Mc x1 e1, c_MM_lies l hIm hZm Mm x1 e2, e3⟩
theorem k_plan (l : Launch) {Zc Zm : WD} (hIc : wI Zc) (hZc : IsC Zc) (hIm : wI Zm) (hZm : IsM Zm) {Mc Mm : Mem} (h : Rel Mc Mm) (x1 : Int32) (x2 : Int32) (x3 : Int32) (x4 : Int32) (x5 : Int32) : ∃ (r : Int32) (Mc' Mm' : Mem), Ci l Zc y_MC_plan b_MC_plan 7 (some .int) 6 135 [.ref (Zc.2.2.1 138), .int x1, .int x2, .int x3, .int x4, .int x5] Mc Mc' r ∧ Ci l Zm y_MM_plan b_MM_plan 7 (some .int) 3 73 [.ref (Zm.2.2.1 0), .int x1, .int x2, .int x3, .int x4, .int x5] Mm Mm' r ∧ Rel Mc' Mm' := by
  obtain ⟨v, Mc', Mm', e1, e2, e3⟩ := a_plan h x1 x2 x3 x4 x5
  exact ⟨v, Mc', Mm', c_MC_plan l hIc hZc Mc x1 x2 x3 x4 x5 e1, c_MM_plan l hIm hZm Mm x1 x2 x3 x4 x5 e2, e3⟩
theorem k_drop (l : Launch) {Zc Zm : WD} (hIc : wI Zc) (hZc : IsC Zc) (hIm : wI Zm) (hZm : IsM Zm) {Mc Mm : Mem} (h : Rel Mc Mm) (x1 : Int32) (x2 : Int32) : ∃ (r : Int32) (Mc' Mm' : Mem), Ci l Zc y_MC_drop b_MC_drop 3 (some .int) 6 135 [.ref (Zc.2.2.1 138), .int x1, .int x2] Mc Mc' r ∧ Ci l Zm y_MM_drop b_MM_drop 3 (some .int) 2 45 [.ref (Zm.2.2.1 0), .int x1, .int x2] Mm Mm' r ∧ Rel Mc' Mm' := by
  obtain ⟨v, Mc', Mm', e1, e2, e3⟩ := a_drop h x1 x2
  exact ⟨v, Mc', Mm', c_MC_drop l hIc hZc Mc x1 x2 e1, c_MM_drop l hIm hZm Mm x1 x2 e2, e3⟩
theorem k_omit (l : Launch) {Zc Zm : WD} (hIc : wI Zc) (hZc : IsC Zc) (hIm : wI Zm) (hZm : IsM Zm) {Mc Mm : Mem} (h : Rel Mc Mm) (x1 : Int32) (x2 : Int32) (x3 : Int32) : ∃ (r : Int32) (Mc' Mm' : Mem), Ci l Zc y_MC_omit b_MC_omit 5 (some .int) 6 135 [.ref (Zc.2.2.1 138), .int x1, .int x2, .int x3] Mc Mc' r ∧ Ci l Zm y_MM_omit b_MM_omit 4 (some .int) 4 93 [.ref (Zm.2.2.1 0), .int x1, .int x2, .int x3] Mm Mm' r ∧ Rel Mc' Mm' := by
  obtain ⟨v, Mc', Mm', e1, e2, e3⟩ := a_omit h x1 x2 x3
  exact ⟨v, Mc', Mm', c_MC_omit l hIc hZc Mc x1 x2 x3 e1, c_MM_omit l hIm hZm Mm x1 x2 x3 e2, e3⟩
theorem k_late (l : Launch) {Zc Zm : WD} (hIc : wI Zc) (hZc : IsC Zc) (hIm : wI Zm) (hZm : IsM Zm) {Mc Mm : Mem} (h : Rel Mc Mm) (x1 : Int32) (x2 : Int32) (x3 : Int32) (x4 : Int32) : ∃ (r : Int32) (Mc' Mm' : Mem), Ci l Zc y_MC_late b_MC_late 6 (some .int) 6 135 [.ref (Zc.2.2.1 138), .int x1, .int x2, .int x3, .int x4] Mc Mc' r ∧ Ci l Zm y_MM_late b_MM_late 5 (some .int) 4 93 [.ref (Zm.2.2.1 0), .int x1, .int x2, .int x3, .int x4] Mm Mm' r ∧ Rel Mc' Mm' := by
  obtain ⟨v, Mc', Mm', e1, e2, e3⟩ := a_late h x1 x2 x3 x4
  exact ⟨v, Mc', Mm', c_MC_late l hIc hZc Mc x1 x2 x3 x4 e1, c_MM_late l hIm hZm Mm x1 x2 x3 x4 e2, e3⟩
theorem k_attack (l : Launch) {Zc Zm : WD} (hIc : wI Zc) (hZc : IsC Zc) (hIm : wI Zm) (hZm : IsM Zm) {Mc Mm : Mem} (h : Rel Mc Mm) : ∃ (r : Int32) (Mc' Mm' : Mem), Ci l Zc y_MC_attack b_MC_attack 6 (some .int) 6 135 [.ref (Zc.2.2.1 138)] Mc Mc' r ∧ Ci l Zm y_MM_attack b_MM_attack 5 (some .int) 2 45 [.ref (Zm.2.2.1 0)] Mm Mm' r ∧ Rel Mc' Mm' := by
  obtain ⟨v, Mc', Mm', e1, e2, e3⟩ := a_attack h 
  exact ⟨v, Mc', Mm', c_MC_attack l hIc hZc Mc  e1, c_MM_attack l hIm hZm Mm  e2, e3⟩
theorem k_trade (l : Launch) {Zc Zm : WD} (hIc : wI Zc) (hZc : IsC Zc) (hIm : wI Zm) (hZm : IsM Zm) {Mc Mm : Mem} (h : Rel Mc Mm) (x1 : Int32) (x2 : Int32) : ∃ (r : Int32) (Mc' Mm' : Mem), Ci l Zc y_MC_trade b_MC_trade 3 (some .int) 6 135 [.ref (Zc.2.2.1 138), .int x1, .int x2] Mc Mc' r ∧ Ci l Zm y_MM_trade b_MM_trade 8 (some .int) 3 68 [.ref (Zm.2.2.1 0), .int x1, .int x2] Mm Mm' r ∧ Rel Mc' Mm' := by
  obtain ⟨v, Mc', Mm', e1, e2, e3⟩ := a_trade h x1 x2
  exact ⟨v, Mc', Mm', c_MC_trade l hIc hZc Mc x1 x2 e1, c_MM_trade l hIm hZm Mm x1 x2 e2, e3⟩
theorem k_undo (l : Launch) {Zc Zm : WD} (hIc : wI Zc) (hZc : IsC Zc) (hIm : wI Zm) (hZm : IsM Zm) {Mc Mm : Mem} (h : Rel Mc Mm) : ∃ (r : Int32) (Mc' Mm' : Mem), Ci l Zc y_MC_undo b_MC_undo 1 (some .int) 6 135 [.ref (Zc.2.2.1 138)] Mc Mc' r ∧ Ci l Zm y_MM_undo b_MM_undo 1 (some .int) 1 24 [.ref (Zm.2.2.1 0)] Mm Mm' r ∧ Rel Mc' Mm' := by
  obtain ⟨v, Mc', Mm', e1, e2, e3⟩ := a_undo h 
  exact ⟨v, Mc', Mm', c_MC_undo l hIc hZc Mc  e1, c_MM_undo l hIm hZm Mm  e2, e3⟩
theorem k_keep (l : Launch) {Zc Zm : WD} (hIc : wI Zc) (hZc : IsC Zc) (hIm : wI Zm) (hZm : IsM Zm) {Mc Mm : Mem} (h : Rel Mc Mm) (x1 : Int32) : ∃ (r : Int32) (Mc' Mm' : Mem), Ci l Zc y_MC_keep b_MC_keep 2 (some .int) 2 47 [.ref (Zc.2.2.1 138), .int x1] Mc Mc' r ∧ Ci l Zm y_MM_keep b_MM_keep 2 (some .int) 1 25 [.ref (Zm.2.2.1 0), .int x1] Mm Mm' r ∧ Rel Mc' Mm' := by
  obtain ⟨v, Mc', Mm', e1, e2, e3⟩ := a_keep h x1
  exact ⟨v, Mc', Mm', c_MC_keep l hIc hZc Mc x1 e1, c_MM_keep l hIm hZm Mm x1 e2, e3⟩
theorem k_back (l : Launch) {Zc Zm : WD} (hIc : wI Zc) (hZc : IsC Zc) (hIm : wI Zm) (hZm : IsM Zm) {Mc Mm : Mem} (h : Rel Mc Mm) (x1 : Int32) : ∃ (r : Int32) (Mc' Mm' : Mem), Ci l Zc y_MC_back b_MC_back 2 (some .int) 6 135 [.ref (Zc.2.2.1 138), .int x1] Mc Mc' r ∧ Ci l Zm y_MM_back b_MM_back 2 (some .int) 1 25 [.ref (Zm.2.2.1 0), .int x1] Mm Mm' r ∧ Rel Mc' Mm' := by
  obtain ⟨v, Mc', Mm', e1, e2, e3⟩ := a_back h x1
  exact ⟨v, Mc', Mm', c_MC_back l hIc hZc Mc x1 e1, c_MM_back l hIm hZm Mm x1 e2, e3⟩
theorem k_set (l : Launch) {Zc Zm : WD} (hIc : wI Zc) (hZc : IsC Zc) (hIm : wI Zm) (hZm : IsM Zm) {Mc Mm : Mem} (h : Rel Mc Mm) (x1 : Int32) (x2 : Int32) : ∃ (r : Int32) (Mc' Mm' : Mem), Ci l Zc y_MC_set b_MC_set 3 (some .int) 2 42 [.ref (Zc.2.2.1 138), .int x1, .int x2] Mc Mc' r ∧ Ci l Zm y_MM_set b_MM_set 3 (some .int) 6 148 [.ref (Zm.2.2.1 0), .int x1, .int x2] Mm Mm' r ∧ Rel Mc' Mm' := by
  obtain ⟨R, hP⟩ := h.1
  obtain ⟨v, M', e1, e2, e3⟩ := q_set hP x1 x2
  exact ⟨v, Mc, M', c_MC_set l hIc hZc Mc x1 x2 e1, c_MM_set l hIm hZm Mm x1 x2 e2, h.ask e3⟩
theorem k_decision (l : Launch) {Zc Zm : WD} (hIc : wI Zc) (hZc : IsC Zc) (hIm : wI Zm) (hZm : IsM Zm) {Mc Mm : Mem} (h : Rel Mc Mm) (x1 : Int32) : ∃ (r : Int32) (Mc' Mm' : Mem), Ci l Zc y_MC_decision b_MC_decision 2 (some .int) 3 65 [.ref (Zc.2.2.1 138), .int x1] Mc Mc' r ∧ Ci l Zm y_MM_decision b_MM_decision 2 (some .int) 6 148 [.ref (Zm.2.2.1 0), .int x1] Mm Mm' r ∧ Rel Mc' Mm' := by
  obtain ⟨R, hP⟩ := h.1
  obtain ⟨v, M', e1, e2, e3⟩ := q_decision hP x1
  exact ⟨v, Mc, M', c_MC_decision l hIc hZc Mc x1 e1, c_MM_decision l hIm hZm Mm x1 e2, h.ask e3⟩
theorem k_extracted (l : Launch) {Zc Zm : WD} (hIc : wI Zc) (hZc : IsC Zc) (hIm : wI Zm) (hZm : IsM Zm) {Mc Mm : Mem} (h : Rel Mc Mm) (x1 : Int32) (x2 : Int32) (x3 : Int32) : ∃ (r : Int32) (Mc' Mm' : Mem), Ci l Zc y_MC_extracted b_MC_extracted 6 (some .int) 2 47 [.ref (Zc.2.2.1 138), .int x1, .int x2, .int x3] Mc Mc' r ∧ Ci l Zm y_MM_extracted b_MM_extracted 6 (some .int) 6 148 [.ref (Zm.2.2.1 0), .int x1, .int x2, .int x3] Mm Mm' r ∧ Rel Mc' Mm' := by
  obtain ⟨R, hP⟩ := h.1
  obtain ⟨v, M', e1, e2, e3⟩ := q_extracted hP x1 x2 x3
  exact ⟨v, Mc, M', c_MC_extracted l hIc hZc Mc x1 x2 x3 e1, c_MM_extracted l hIm hZm Mm x1 x2 x3 e2, h.ask e3⟩
theorem k_letter (l : Launch) {Zc Zm : WD} (hIc : wI Zc) (hZc : IsC Zc) (hIm : wI Zm) (hZm : IsM Zm) {Mc Mm : Mem} (h : Rel Mc Mm) (x1 : Int32) (x2 : Int32) : ∃ (r : Int32) (Mc' Mm' : Mem), Ci l Zc y_MC_letter b_MC_letter 3 (some .int) 1 21 [.ref (Zc.2.2.1 138), .int x1, .int x2] Mc Mc' r ∧ Ci l Zm y_MM_letter b_MM_letter 3 (some .int) 6 148 [.ref (Zm.2.2.1 0), .int x1, .int x2] Mm Mm' r ∧ Rel Mc' Mm' := by
  obtain ⟨R, hP⟩ := h.1
  obtain ⟨v, M', e1, e2, e3⟩ := q_letter hP x1 x2
  exact ⟨v, Mc, M', c_MC_letter l hIc hZc Mc x1 x2 e1, c_MM_letter l hIm hZm Mm x1 x2 e2, h.ask e3⟩
theorem k_mark (l : Launch) {Zc Zm : WD} (hIc : wI Zc) (hZc : IsC Zc) (hIm : wI Zm) (hZm : IsM Zm) {Mc Mm : Mem} (h : Rel Mc Mm) (x1 : Int32) (x2 : Int32) : ∃ (r : Int32) (Mc' Mm' : Mem), Ci l Zc y_MC_mark b_MC_mark 3 (some .int) 1 21 [.ref (Zc.2.2.1 138), .int x1, .int x2] Mc Mc' r ∧ Ci l Zm y_MM_mark b_MM_mark 3 (some .int) 6 148 [.ref (Zm.2.2.1 0), .int x1, .int x2] Mm Mm' r ∧ Rel Mc' Mm' := by
  obtain ⟨R, hP⟩ := h.1
  obtain ⟨v, M', e1, e2, e3⟩ := q_mark hP x1 x2
  exact ⟨v, Mc, M', c_MC_mark l hIc hZc Mc x1 x2 e1, c_MM_mark l hIm hZm Mm x1 x2 e2, h.ask e3⟩
theorem k_packed (l : Launch) {Zc Zm : WD} (hIc : wI Zc) (hZc : IsC Zc) (hIm : wI Zm) (hZm : IsM Zm) {Mc Mm : Mem} (h : Rel Mc Mm) (x1 : Int32) : ∃ (r : Int64) (Mc' Mm' : Mem), Cl l Zc y_MC_packed b_MC_packed 2 (some .long) 2 45 [.ref (Zc.2.2.1 138), .int x1] Mc Mc' r ∧ Cl l Zm y_MM_packed b_MM_packed 5 (some .long) 6 148 [.ref (Zm.2.2.1 0), .int x1] Mm Mm' r ∧ Rel Mc' Mm' := by
  obtain ⟨R, hP⟩ := h.1
  obtain ⟨v, M', e1, e2, e3⟩ := q_packed hP x1
  exact ⟨v, Mc, M', c_MC_packed l hIc hZc Mc x1 e1, c_MM_packed l hIm hZm Mm x1 e2, h.ask e3⟩
theorem k_open (l : Launch) {Zc Zm : WD} (hIc : wI Zc) (hZc : IsC Zc) (hIm : wI Zm) (hZm : IsM Zm) {Mc Mm : Mem} (h : Rel Mc Mm) (x1 : Int64) (x3 : Int32) : ∃ (r : Int32) (Mc' Mm' : Mem), Ci l Zc y_MC_open b_MC_open 6 (some .int) 4 90 [.ref (Zc.2.2.1 138), .long x1, .int x3] Mc Mc' r ∧ Ci l Zm y_MM_open b_MM_open 10 (some .int) 1 25 [.ref (Zm.2.2.1 0), .long x1, .int x3] Mm Mm' r ∧ Rel Mc' Mm' := by
  obtain ⟨v, e1, e2⟩ := q_open x1 x3
  exact ⟨v, Mc, Mm, c_MC_open l hIc hZc Mc x1 x3 e1, c_MM_open l hIm hZm Mm x1 x3 e2, h⟩
theorem k_sent (l : Launch) {Zc Zm : WD} (hIc : wI Zc) (hZc : IsC Zc) (hIm : wI Zm) (hZm : IsM Zm) {Mc Mm : Mem} (h : Rel Mc Mm) (x1 : Int32) : ∃ (r : Int32) (Mc' Mm' : Mem), Ci l Zc y_MC_sent b_MC_sent 2 (some .int) 2 43 [.ref (Zc.2.2.1 138), .int x1] Mc Mc' r ∧ Ci l Zm y_MM_sent b_MM_sent 4 (some .int) 6 148 [.ref (Zm.2.2.1 0), .int x1] Mm Mm' r ∧ Rel Mc' Mm' := by
  obtain ⟨R, hP⟩ := h.1
  obtain ⟨v, M', e1, e2, e3⟩ := q_sent hP x1
  exact ⟨v, Mc, M', c_MC_sent l hIc hZc Mc x1 e1, c_MM_sent l hIm hZm Mm x1 e2, h.ask e3⟩
theorem k_forged (l : Launch) {Zc Zm : WD} (hIc : wI Zc) (hZc : IsC Zc) (hIm : wI Zm) (hZm : IsM Zm) {Mc Mm : Mem} (h : Rel Mc Mm) (x1 : Int32) : ∃ (r : Int32) (Mc' Mm' : Mem), Ci l Zc y_MC_forged b_MC_forged 2 (some .int) 3 65 [.ref (Zc.2.2.1 138), .int x1] Mc Mc' r ∧ Ci l Zm y_MM_forged b_MM_forged 2 (some .int) 6 148 [.ref (Zm.2.2.1 0), .int x1] Mm Mm' r ∧ Rel Mc' Mm' := by
  obtain ⟨R, hP⟩ := h.1
  obtain ⟨v, M', e1, e2, e3⟩ := q_forged hP x1
  exact ⟨v, Mc, M', c_MC_forged l hIc hZc Mc x1 e1, c_MM_forged l hIm hZm Mm x1 e2, h.ask e3⟩
theorem k_known (l : Launch) {Zc Zm : WD} (hIc : wI Zc) (hZc : IsC Zc) (hIm : wI Zm) (hZm : IsM Zm) {Mc Mm : Mem} (h : Rel Mc Mm) (x1 : Int32) (x2 : Int32) : ∃ (r : Int32) (Mc' Mm' : Mem), Ci l Zc y_MC_known b_MC_known 4 (some .int) 1 21 [.ref (Zc.2.2.1 138), .int x1, .int x2] Mc Mc' r ∧ Ci l Zm y_MM_known b_MM_known 3 (some .int) 6 148 [.ref (Zm.2.2.1 0), .int x1, .int x2] Mm Mm' r ∧ Rel Mc' Mm' := by
  obtain ⟨R, hP⟩ := h.1
  obtain ⟨v, M', e1, e2, e3⟩ := q_known hP x1 x2
  exact ⟨v, Mc, M', c_MC_known l hIc hZc Mc x1 x2 e1, c_MM_known l hIm hZm Mm x1 x2 e2, h.ask e3⟩
theorem k_alike (l : Launch) {Zc Zm : WD} (hIc : wI Zc) (hZc : IsC Zc) (hIm : wI Zm) (hZm : IsM Zm) {Mc Mm : Mem} (h : Rel Mc Mm) : ∃ (r : Int32) (Mc' Mm' : Mem), Ci l Zc y_MC_alike b_MC_alike 1 (some .int) 4 89 [.ref (Zc.2.2.1 138)] Mc Mc' r ∧ Ci l Zm y_MM_alike b_MM_alike 1 (some .int) 6 148 [.ref (Zm.2.2.1 0)] Mm Mm' r ∧ Rel Mc' Mm' := by
  obtain ⟨R, hP⟩ := h.1
  obtain ⟨v, M', e1, e2, e3⟩ := q_alike hP 
  exact ⟨v, Mc, M', c_MC_alike l hIc hZc Mc  e1, c_MM_alike l hIm hZm Mm  e2, h.ask e3⟩
theorem k_valid (l : Launch) {Zc Zm : WD} (hIc : wI Zc) (hZc : IsC Zc) (hIm : wI Zm) (hZm : IsM Zm) {Mc Mm : Mem} (h : Rel Mc Mm) : ∃ (r : Int32) (Mc' Mm' : Mem), Ci l Zc y_MC_valid b_MC_valid 4 (some .int) 3 65 [.ref (Zc.2.2.1 138)] Mc Mc' r ∧ Ci l Zm y_MM_valid b_MM_valid 3 (some .int) 6 148 [.ref (Zm.2.2.1 0)] Mm Mm' r ∧ Rel Mc' Mm' := by
  obtain ⟨R, hP⟩ := h.1
  obtain ⟨v, M', e1, e2, e3⟩ := q_valid hP 
  exact ⟨v, Mc, M', c_MC_valid l hIc hZc Mc  e1, c_MM_valid l hIm hZm Mm  e2, h.ask e3⟩
theorem k_sound (l : Launch) {Zc Zm : WD} (hIc : wI Zc) (hZc : IsC Zc) (hIm : wI Zm) (hZm : IsM Zm) {Mc Mm : Mem} (h : Rel Mc Mm) : ∃ (r : Int32) (Mc' Mm' : Mem), Ci l Zc y_MC_sound b_MC_sound 1 (some .int) 3 62 [.ref (Zc.2.2.1 138)] Mc Mc' r ∧ Ci l Zm y_MM_sound b_MM_sound 1 (some .int) 3 66 [.ref (Zm.2.2.1 0)] Mm Mm' r ∧ Rel Mc' Mm' := by
  obtain ⟨R, hP⟩ := h.1
  obtain ⟨v, e1, e2⟩ := q_sound hP 
  exact ⟨v, Mc, Mm, c_MC_sound l hIc hZc Mc  e1, c_MM_sound l hIm hZm Mm  e2, h⟩
theorem k_parted (l : Launch) {Zc Zm : WD} (hIc : wI Zc) (hZc : IsC Zc) (hIm : wI Zm) (hZm : IsM Zm) {Mc Mm : Mem} (h : Rel Mc Mm) : ∃ (r : Int32) (Mc' Mm' : Mem), Ci l Zc y_MC_parted b_MC_parted 5 (some .int) 6 138 [.ref (Zc.2.2.1 138)] Mc Mc' r ∧ Ci l Zm y_MM_parted b_MM_parted 4 (some .int) 6 148 [.ref (Zm.2.2.1 0)] Mm Mm' r ∧ Rel Mc' Mm' := by
  obtain ⟨v, Mc', Mm', e1, e2, e3⟩ := a_parted h 
  exact ⟨v, Mc', Mm', c_MC_parted l hIc hZc Mc  e1, c_MM_parted l hIm hZm Mm  e2, e3⟩
theorem k_slack (l : Launch) {Zc Zm : WD} (hIc : wI Zc) (hZc : IsC Zc) (hIm : wI Zm) (hZm : IsM Zm) {Mc Mm : Mem} (h : Rel Mc Mm) (x1 : Int32) (x2 : Int32) (x3 : Int32) : ∃ (r : Int32) (Mc' Mm' : Mem), Ci l Zc y_MC_slack b_MC_slack 6 (some .int) 6 138 [.ref (Zc.2.2.1 138), .int x1, .int x2, .int x3] Mc Mc' r ∧ Ci l Zm y_MM_slack b_MM_slack 9 (some .int) 7 170 [.ref (Zm.2.2.1 0), .int x1, .int x2, .int x3] Mm Mm' r ∧ Rel Mc' Mm' := by
  obtain ⟨v, Mc', Mm', e1, e2, e3⟩ := a_slack h x1 x2 x3
  exact ⟨v, Mc', Mm', c_MC_slack l hIc hZc Mc x1 x2 x3 e1, c_MM_slack l hIm hZm Mm x1 x2 x3 e2, e3⟩
theorem k_crucial (l : Launch) {Zc Zm : WD} (hIc : wI Zc) (hZc : IsC Zc) (hIm : wI Zm) (hZm : IsM Zm) {Mc Mm : Mem} (h : Rel Mc Mm) (x1 : Int32) (x2 : Int32) : ∃ (r : Int32) (Mc' Mm' : Mem), Ci l Zc y_MC_crucial b_MC_crucial 5 (some .int) 7 162 [.ref (Zc.2.2.1 138), .int x1, .int x2] Mc Mc' r ∧ Ci l Zm y_MM_crucial b_MM_crucial 7 (some .int) 7 170 [.ref (Zm.2.2.1 0), .int x1, .int x2] Mm Mm' r ∧ Rel Mc' Mm' := by
  obtain ⟨v, Mc', Mm', e1, e2, e3⟩ := a_crucial h x1 x2
  exact ⟨v, Mc', Mm', c_MC_crucial l hIc hZc Mc x1 x2 e1, c_MM_crucial l hIm hZm Mm x1 x2 e2, e3⟩
theorem k_least (l : Launch) {Zc Zm : WD} (hIc : wI Zc) (hZc : IsC Zc) (hIm : wI Zm) (hZm : IsM Zm) {Mc Mm : Mem} (h : Rel Mc Mm) : ∃ (r : Int32) (Mc' Mm' : Mem), Ci l Zc y_MC_least b_MC_least 3 (some .int) 5 115 [.ref (Zc.2.2.1 138)] Mc Mc' r ∧ Ci l Zm y_MM_least b_MM_least 4 (some .int) 6 148 [.ref (Zm.2.2.1 0)] Mm Mm' r ∧ Rel Mc' Mm' := by
  obtain ⟨v, Mc', Mm', e1, e2, e3⟩ := a_least h 
  exact ⟨v, Mc', Mm', c_MC_least l hIc hZc Mc  e1, c_MM_least l hIm hZm Mm  e2, e3⟩
theorem k_holders (l : Launch) {Zc Zm : WD} (hIc : wI Zc) (hZc : IsC Zc) (hIm : wI Zm) (hZm : IsM Zm) {Mc Mm : Mem} (h : Rel Mc Mm) (x1 : Int32) (x2 : Int32) : ∃ (r : Int32) (Mc' Mm' : Mem), Ci l Zc y_MC_holders b_MC_holders 5 (some .int) 2 42 [.ref (Zc.2.2.1 138), .int x1, .int x2] Mc Mc' r ∧ Ci l Zm y_MM_holders b_MM_holders 5 (some .int) 6 148 [.ref (Zm.2.2.1 0), .int x1, .int x2] Mm Mm' r ∧ Rel Mc' Mm' := by
  obtain ⟨R, hP⟩ := h.1
  obtain ⟨v, M', e1, e2, e3⟩ := q_holders hP x1 x2
  exact ⟨v, Mc, M', c_MC_holders l hIc hZc Mc x1 x2 e1, c_MM_holders l hIm hZm Mm x1 x2 e2, h.ask e3⟩
theorem k_path (l : Launch) {Zc Zm : WD} (hIc : wI Zc) (hZc : IsC Zc) (hIm : wI Zm) (hZm : IsM Zm) {Mc Mm : Mem} (h : Rel Mc Mm) (x1 : Int32) (x2 : Int32) (x3 : Int32) : ∃ (r : Int32) (Mc' Mm' : Mem), Ci l Zc y_MC_path b_MC_path 6 (some .int) 2 42 [.ref (Zc.2.2.1 138), .int x1, .int x2, .int x3] Mc Mc' r ∧ Ci l Zm y_MM_path b_MM_path 6 (some .int) 6 148 [.ref (Zm.2.2.1 0), .int x1, .int x2, .int x3] Mm Mm' r ∧ Rel Mc' Mm' := by
  obtain ⟨R, hP⟩ := h.1
  obtain ⟨v, M', e1, e2, e3⟩ := q_path hP x1 x2 x3
  exact ⟨v, Mc, M', c_MC_path l hIc hZc Mc x1 x2 x3 e1, c_MM_path l hIm hZm Mm x1 x2 x3 e2, h.ask e3⟩
theorem k_caught (l : Launch) {Zc Zm : WD} (hIc : wI Zc) (hZc : IsC Zc) (hIm : wI Zm) (hZm : IsM Zm) {Mc Mm : Mem} (h : Rel Mc Mm) (x1 : Int32) : ∃ (r : Int32) (Mc' Mm' : Mem), Ci l Zc y_MC_caught b_MC_caught 2 (some .int) 4 90 [.ref (Zc.2.2.1 138), .int x1] Mc Mc' r ∧ Ci l Zm y_MM_caught b_MM_caught 5 (some .int) 6 148 [.ref (Zm.2.2.1 0), .int x1] Mm Mm' r ∧ Rel Mc' Mm' := by
  obtain ⟨R, hP⟩ := h.1
  obtain ⟨v, M', e1, e2, e3⟩ := q_caught hP x1
  exact ⟨v, Mc, M', c_MC_caught l hIc hZc Mc x1 e1, c_MM_caught l hIm hZm Mm x1 e2, h.ask e3⟩
theorem k_bits (l : Launch) {Zc Zm : WD} (hIc : wI Zc) (hZc : IsC Zc) (hIm : wI Zm) (hZm : IsM Zm) {Mc Mm : Mem} (h : Rel Mc Mm) (x1 : Int32) : ∃ (r : Int32) (Mc' Mm' : Mem), Ci l Zc y_MC_bits b_MC_bits 2 (some .int) 3 64 [.ref (Zc.2.2.1 138), .int x1] Mc Mc' r ∧ Ci l Zm y_MM_bits b_MM_bits 6 (some .int) 6 148 [.ref (Zm.2.2.1 0), .int x1] Mm Mm' r ∧ Rel Mc' Mm' := by
  obtain ⟨R, hP⟩ := h.1
  obtain ⟨v, M', e1, e2, e3⟩ := q_bits hP x1
  exact ⟨v, Mc, M', c_MC_bits l hIc hZc Mc x1 e1, c_MM_bits l hIm hZm Mm x1 e2, h.ask e3⟩
theorem k_load (l : Launch) {Zc Zm : WD} (hIc : wI Zc) (hZc : IsC Zc) (hIm : wI Zm) (hZm : IsM Zm) {Mc Mm : Mem} (h : Rel Mc Mm) (x1 : Int32) (x2 : Int32) : ∃ (r : Int32) (Mc' Mm' : Mem), Ci l Zc y_MC_load b_MC_load 3 (some .int) 3 67 [.ref (Zc.2.2.1 138), .int x1, .int x2] Mc Mc' r ∧ Ci l Zm y_MM_load b_MM_load 6 (some .int) 6 148 [.ref (Zm.2.2.1 0), .int x1, .int x2] Mm Mm' r ∧ Rel Mc' Mm' := by
  obtain ⟨R, hP⟩ := h.1
  obtain ⟨v, M', e1, e2, e3⟩ := q_load hP x1 x2
  exact ⟨v, Mc, M', c_MC_load l hIc hZc Mc x1 x2 e1, c_MM_load l hIm hZm Mm x1 x2 e2, h.ask e3⟩
theorem k_calm (l : Launch) {Zc Zm : WD} (hIc : wI Zc) (hZc : IsC Zc) (hIm : wI Zm) (hZm : IsM Zm) {Mc Mm : Mem} (h : Rel Mc Mm) (x1 : Int32) : ∃ (r : Int32) (Mc' Mm' : Mem), Ci l Zc y_MC_calm b_MC_calm 2 (some .int) 4 89 [.ref (Zc.2.2.1 138), .int x1] Mc Mc' r ∧ Ci l Zm y_MM_calm b_MM_calm 4 (some .int) 6 148 [.ref (Zm.2.2.1 0), .int x1] Mm Mm' r ∧ Rel Mc' Mm' := by
  obtain ⟨R, hP⟩ := h.1
  obtain ⟨v, M', e1, e2, e3⟩ := q_calm hP x1
  exact ⟨v, Mc, M', c_MC_calm l hIc hZc Mc x1 e1, c_MM_calm l hIm hZm Mm x1 e2, h.ask e3⟩
theorem k_heal (l : Launch) {Zc Zm : WD} (hIc : wI Zc) (hZc : IsC Zc) (hIm : wI Zm) (hZm : IsM Zm) {Mc Mm : Mem} (h : Rel Mc Mm) : ∃ (r : Int32) (Mc' Mm' : Mem), Ci l Zc y_MC_heal b_MC_heal 4 (some .int) 6 136 [.ref (Zc.2.2.1 138)] Mc Mc' r ∧ Ci l Zm y_MM_heal b_MM_heal 6 (some .int) 6 148 [.ref (Zm.2.2.1 0)] Mm Mm' r ∧ Rel Mc' Mm' := by
  obtain ⟨v, Mc', Mm', e1, e2, e3⟩ := a_heal h 
  exact ⟨v, Mc', Mm', c_MC_heal l hIc hZc Mc  e1, c_MM_heal l hIm hZm Mm  e2, e3⟩
theorem k_count (l : Launch) {Zc Zm : WD} (hIc : wI Zc) (hZc : IsC Zc) (hIm : wI Zm) (hZm : IsM Zm) {Mc Mm : Mem} (h : Rel Mc Mm) (x1 : Int32) : ∃ (r : Int32) (Mc' Mm' : Mem), Ci l Zc y_MC_count b_MC_count 2 (some .int) 3 65 [.ref (Zc.2.2.1 138), .int x1] Mc Mc' r ∧ Ci l Zm y_MM_count b_MM_count 2 (some .int) 7 170 [.ref (Zm.2.2.1 0), .int x1] Mm Mm' r ∧ Rel Mc' Mm' := by
  obtain ⟨v, M', e1, e2, e3⟩ := q_count h x1
  exact ⟨v, Mc, M', c_MC_count l hIc hZc Mc x1 e1, c_MM_count l hIm hZm Mm x1 e2, h.ask e3⟩
theorem k_planned (l : Launch) {Zc Zm : WD} (hIc : wI Zc) (hZc : IsC Zc) (hIm : wI Zm) (hZm : IsM Zm) {Mc Mm : Mem} (h : Rel Mc Mm) (x1 : Int32) (x2 : Int32) : ∃ (r : Int32) (Mc' Mm' : Mem), Ci l Zc y_MC_planned b_MC_planned 3 (some .int) 2 43 [.ref (Zc.2.2.1 138), .int x1, .int x2] Mc Mc' r ∧ Ci l Zm y_MM_planned b_MM_planned 6 (some .int) 1 25 [.ref (Zm.2.2.1 0), .int x1, .int x2] Mm Mm' r ∧ Rel Mc' Mm' := by
  obtain ⟨R, hP⟩ := h.1
  obtain ⟨v, e1, e2⟩ := q_planned hP x1 x2
  exact ⟨v, Mc, Mm, c_MC_planned l hIc hZc Mc x1 x2 e1, c_MM_planned l hIm hZm Mm x1 x2 e2, h⟩
theorem k_fault (l : Launch) {Zc Zm : WD} (hIc : wI Zc) (hZc : IsC Zc) (hIm : wI Zm) (hZm : IsM Zm) {Mc Mm : Mem} (h : Rel Mc Mm) (x1 : Int32) (x2 : Int32) (x3 : Int32) : ∃ (r : Int32) (Mc' Mm' : Mem), Ci l Zc y_MC_fault b_MC_fault 5 (some .int) 1 21 [.ref (Zc.2.2.1 138), .int x1, .int x2, .int x3] Mc Mc' r ∧ Ci l Zm y_MM_fault b_MM_fault 4 (some .int) 1 25 [.ref (Zm.2.2.1 0), .int x1, .int x2, .int x3] Mm Mm' r ∧ Rel Mc' Mm' := by
  obtain ⟨R, hP⟩ := h.1
  obtain ⟨v, e1, e2⟩ := q_fault hP x1 x2 x3
  exact ⟨v, Mc, Mm, c_MC_fault l hIc hZc Mc x1 x2 x3 e1, c_MM_fault l hIm hZm Mm x1 x2 x3 e2, h⟩
