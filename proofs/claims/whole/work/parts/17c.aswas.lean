/-! are all decisions as they were? -/
def dfB (R : Nat → Nat) (d e : Nat → Nat) (p : Nat) : Bool := !lie R p && decide (e p ≠ d p)
/-- the reference plays the changed row R' and compares with what it set aside; the row comes back -/
theorem M_asWas {R' x : Nat → Nat} {M : Mem} {d : Nat → Nat} (hV : PV R') (hS : SM R' x M) (hd : ∀ p, p < R' 0 → M 20 p = nI (d p)) (hdl : ∀ p, d p < 4) : ∃ N, f_MM_isAsItWas M = some (!anyB (dfB R' d (dcN R' (sRun R' (dlM R' x) (R' 7) (plR R') (fun _ => true) (R' 3)))) (R' 0), N) ∧ (∀ b, b < 302 → N 1 b = M 3 b) ∧ (∀ a, a ≠ 0 → a ≠ 1 → (a < 8 ∨ 19 < a) → N a = M a) ∧ ∀ b, b ≠ 21 → b ≠ 25 → b ≠ 26 → N 0 b = M 0 b := by
  obtain ⟨A, n1, n2, n3, n4⟩ := M_runs hV hS
  have n5 := hS.frN n3
  have hn := pv_n hV
  have hR3 := hV.2.2.2.1
  have hd4 := hV.2.2.2.2.1
  have hI := (run_sp (dl := dlM R' x) (al := fun _ => true) hV hV.2.2.2.2.2.2.2.2.1 (plR_ok hV) (R' 3) hR3).1
  have h10 : A 1 0 = nI (R' 0) := n5.1.1 0 (by decide)
  have h20 : A 20 = M 20 := n3.1 20 (by decide) (by decide)
  generalize sRun R' (dlM R' x) (R' 7) (plR R') (fun _ => true) (R' 3) = Q at *
  have hdc : ∀ p, dcN R' Q p < 4 := fun p => by
    unfold dcN
    split
    · omega
    · split
      · omega
      · split
        · omega
        · split <;> omega
  obtain ⟨B, b1, b2, b3, b4⟩ := M_moves (M := A) (a0 := 3) (n0 := 302) (a2 := 1) (n2 := 302) (p := 0) (q := 0) (by decide) (by decide) (by decide) (by decide) (by decide)
  unfold f_MM_isAsItWas
  rw [n1, bnd_some]
  unfold f_MM_isAsItWas_J8
  rw [bnd_id]
  unfold f_MM_isAsItWas_W8
  refine ⟨B, ?_, fun b hb => ?_, fun a h0 h1 h2 => by rw [b2 a h1, n3.1 a h0 h2], fun b h1 h2 h3 => by rw [b2 0 (by decide), n3.2 b h1 h2 h3]⟩
  · refine loop_fn (fun p => (bI (!anyB (dfB R' d (dcN R' Q)) p), nI p)) (R' 0) _ (fun p hp => ?_) ?_
    · show f_MM_isAsItWas_L8 A (bI (!anyB (dfB R' d (dcN R' Q)) p)) (nI p) = _
      have es : anyB (dfB R' d (dcN R' Q)) (p + 1) = (anyB (dfB R' d (dcN R' Q)) p || dfB R' d (dcN R' Q) p) := rfl
      have a1 := hdl p
      have a2 := hdc p
      unfold f_MM_isAsItWas_L8 f_MM_isAsItWas_J48 f_MM_isAsItWas_J44
      rw [h10, if_neg (nI_ge hp (by omega)), M_liar (x := x) hV n5.1 (by omega), M_decisionOf hV n5.1 n2 (by omega) (hI.n9 (by omega)), bnd_some, gIn_nI (by omega) (by decide), nI_clamp (by omega), h20, hd p hp, es, ← nI_succ]
      unfold dfB
      cases anyB (fun p => !lie R' p && decide (dcN R' Q p ≠ d p)) p
      · rw [if_neg (show ¬ bI (!false) = 0 by decide)]
        cases lie R' p
        · rw [gF]
          by_cases w : dcN R' Q p = d p
          · rw [if_pos (by rw [w]), show (!(false || (!false && decide (dcN R' Q p ≠ d p)))) = true by simp [w]]
            rfl
          · rw [if_neg (fun z => w ((nI_eq (by omega) (by omega)).mp z)), show (!(false || (!false && decide (dcN R' Q p ≠ d p)))) = false by simp [w]]
            rfl
        · rfl
      · rfl
    · show f_MM_isAsItWas_L8 A _ (nI (R' 0)) = _
      unfold f_MM_isAsItWas_L8
      rw [h10, if_pos ((nI_leI (by omega) (by omega)).mpr (Nat.le_refl _)), show (0 : Int32) = nI 0 from rfl, b1, bnd_some]
      cases anyB (dfB R' d (dcN R' Q)) (R' 0) <;> rfl
  · have := b3 b hb
    rw [Nat.zero_add] at this
    rw [this, n3.1 3 (by decide) (by decide)]
