/-! behind an asking of what would be -/
theorem Rel.wif {R : Nat → Nat} {Mc Mm Mc' Mm' : Mem} (h : Rel Mc Mm) (hP : RelP R Mc Mm) (e : ∀ a, ¬ (124 ≤ a ∧ a ≤ 135) → Mc' a = Mc a) (hf : FrW Mm Mm') (h1 : PM R (Mm' 1)) (h28 : Mm' 0 28 = -1) : Rel Mc' Mm' := by
  obtain ⟨-, h2, h3, h4⟩ := h
  refine ⟨⟨R, hP.cg (fun a ha => e a (by omega)) (fun a _ ha => e a (by omega)) h1 h28⟩, h2.cg (fun a _ ha => e a (by omega)) (by rw [e 138 (by omega)]) (e 139 (by omega)) (hf.2 6 (by decide) (by decide) (by decide) (by decide)) (hf.1 4 (by decide)), h3.cg (fun a _ ha => e a (by omega)) (by rw [e 138 (by omega)]) (e 140 (by omega)) (hf.1 5 (by decide)) (hf.1 6 (by decide)), h4.cg (by rw [e 136 (by omega)]) (e 137 (by omega)) (hf.2 8 (by decide) (by decide) (by decide) (by decide)) (hf.1 7 (by decide))⟩
theorem FrW.rf {M : Mem} : FrW M M := ⟨fun _ _ => rfl, fun _ _ _ _ _ => rfl⟩
theorem FrW.tr {M M' M'' : Mem} (h : FrW M M') (h' : FrW M' M'') : FrW M M'' := ⟨fun a ha => (h'.1 a ha).trans (h.1 a ha), fun b h1 h2 h3 h4 => (h'.2 b h1 h2 h3 h4).trans (h.2 b h1 h2 h3 h4)⟩
theorem FrN.W {M M' : Mem} (h : FrN M M') : FrW M M' := ⟨fun a ha => h.1 a (by omega) (by omega), fun b h1 h2 h3 _ => h.2 b h1 h2 h3⟩
