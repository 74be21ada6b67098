/-! a round in the table: bounds -/
def CNT (R : Nat → Nat) (np : Nat) (PL : Nat → Nat → Nat) (r : Nat) (Q : Tab) : Prop := Q 0 0 ≤ 7 * (fb_ct (exB Q r) 32 + (if r = 0 then 0 else sN R)) + fb_ct (fun l => decide (PL l 0 ≤ r)) np
theorem ct_le_succ {PL : Nat → Nat → Nat} {r np : Nat} : fb_ct (fun l => decide (PL l 0 ≤ r + 1)) np = fb_ct (fun l => decide (PL l 0 ≤ r)) np + fb_ct (fun l => decide (PL l 0 = r + 1)) np := by
  rw [← fb_ct_or]
  · refine fb_ct_cong (fun l _ => ?_)
    by_cases h : PL l 0 ≤ r + 1 <;> by_cases h1 : PL l 0 ≤ r <;> by_cases h2 : PL l 0 = r + 1 <;> simp [h, h1, h2] <;> omega
  · intro l _
    simp only [decide_eq_true_eq]
    omega
theorem ct_ex_succ {Q : Tab} {r : Nat} (hr : 1 ≤ r) : fb_ct (exB Q (r + 1)) 32 = fb_ct (exB Q r) 32 + fb_ct (fun c => decide (Q 1 c = r)) 32 := by
  rw [← fb_ct_or]
  · refine fb_ct_cong (fun c _ => ?_)
    unfold exB
    by_cases h : 1 ≤ Q 1 c <;> by_cases h1 : Q 1 c < r + 1 <;> by_cases h2 : Q 1 c < r <;> by_cases h3 : Q 1 c = r <;> simp [h, h1, h2, h3] <;> omega
  · intro c _
    unfold exB
    simp only [Bool.and_eq_true, decide_eq_true_eq]
    omega
theorem rnd_sp {R : Nat → Nat} {dl : Nat → Nat → Nat → Nat} {r np : Nat} {Q : Tab} {PL : Nat → Nat → Nat} {al : Nat → Bool} (hV : PV R) (hI : INV R r Q) (hc : CNT R np PL r Q) (hnp : np ≤ 16) (hok : ∀ l, l < np → plOK R (PL l)) (hr : r < 8) :
    (r + 1 = 1 → Q 0 0 + 7 ≤ 212) ∧ (2 ≤ r + 1 → Q 0 0 + 7 * fb_ct (fun c => decide (Q 1 c = r + 1 - 1)) 32 ≤ 212) ∧ sHons R dl (r + 1) Q 0 0 + fb_ct (fun l => decide (PL l 0 = r + 1)) np ≤ 212 ∧ INV R (r + 1) (sHons R dl (r + 1) Q) ∧ INV R (r + 1) (sPlans R dl np PL al (r + 1) (sHons R dl (r + 1) Q)) ∧ INV R (r + 1) (sRnd R dl np PL al (r + 1) Q) ∧ sPlans R dl np PL al (r + 1) (sHons R dl (r + 1) Q) 0 0 ≤ 212 ∧ CNT R np PL (r + 1) (sRnd R dl np PL al (r + 1) Q) ∧ (∀ c, sPlans R dl np PL al (r + 1) (sHons R dl (r + 1) Q) 1 c = Q 1 c) ∧ sHons R dl (r + 1) Q 0 1 = Q 0 1 := by
  have hn := pv_n hV
  have hI1 := hI.mono (show r ≤ r + 1 by omega)
  obtain ⟨g1, g2, g3, g4⟩ := sHons_sp (dl := dl) hV hI1 (show 1 ≤ r + 1 by omega) (by omega) (R 0) (Nat.le_refl _)
  obtain ⟨k1, k2, k3⟩ := sPlans_sp (dl := dl) (PL := PL) (al := al) hV g1 (by omega) np hok
  have e1 : sHons R dl (r + 1) Q = itr (fun p Q => sHon R dl (r + 1) p Q) (R 0) Q := rfl
  have e2 : ∀ P, sPlans R dl np PL al (r + 1) P = itr (fun l Q => sPlan R dl (r + 1) l (PL l) (al l) Q) np P := fun _ => rfl
  rw [← e1] at g1 g2 g3 g4 k1 k2 k3
  rw [← e2] at k1 k2 k3
  obtain ⟨m1, m2, m3, m4, m5⟩ := sRds_sp hV k1 (by omega) (by omega) (sPlans R dl np PL al (r + 1) (sHons R dl (r + 1) Q) 0 0) (Nat.le_refl _)
  have hq2 : ∀ c, sPlans R dl np PL al (r + 1) (sHons R dl (r + 1) Q) 1 c = Q 1 c := fun c => (k3 c).1.trans (g3 c).1
  have e3 : sRnd R dl np PL al (r + 1) Q = itr (fun k Q => sRd R (r + 1) k Q) (sPlans R dl np PL al (r + 1) (sHons R dl (r + 1) Q) 0 0) (sPlans R dl np PL al (r + 1) (sHons R dl (r + 1) Q)) := rfl
  rw [← e3] at m1 m2 m3 m4 m5
  have b28 := ct_28 hV hI1 (q := r + 1) (by omega)
  have hpc : fb_ct (fun l => decide (PL l 0 ≤ r)) np + fb_ct (fun l => decide (PL l 0 = r + 1)) np ≤ 16 := by
    rw [← ct_le_succ]
    exact Nat.le_trans (fb_ct_le _ _) hnp
  unfold CNT at hc
  -- how many behind the honest ones
  have hL1 : sHons R dl (r + 1) Q 0 0 ≤ 7 * (fb_ct (exB Q (r + 1)) 32 + sN R) + fb_ct (fun l => decide (PL l 0 ≤ r)) np ∧ (2 ≤ r + 1 → Q 0 0 + 7 * fb_ct (fun c => decide (Q 1 c = r + 1 - 1)) 32 ≤ 7 * (fb_ct (exB Q (r + 1)) 32 + sN R) + fb_ct (fun l => decide (PL l 0 ≤ r)) np) ∧ (r = 0 → Q 0 0 ≤ fb_ct (fun l => decide (PL l 0 ≤ r)) np) := by
    by_cases h0 : r = 0
    · subst h0
      rw [if_pos rfl] at hc g2
      have z : fb_ct (exB Q 0) 32 = 0 := fb_ct_zero.mpr (fun c _ => by unfold exB; simp)
      rw [z] at hc
      have hs : (if R 1 < R 0 then sN R else 0) ≤ sN R := by split <;> omega
      refine ⟨?_, fun w => by omega, fun _ => by omega⟩
      omega
    · rw [if_neg h0] at hc
      rw [if_neg (by omega)] at g2
      have hm : fb_ct (fun c => decide (Q 1 c = r + 1 - 1)) (4 * R 0) ≤ fb_ct (fun c => decide (Q 1 c = r + 1 - 1)) 32 := fb_ct_mono _ (by omega)
      have hx := ct_ex_succ (Q := Q) (r := r) (by omega)
      rw [Nat.add_sub_cancel] at *
      exact ⟨by omega, fun _ => by omega, fun w => absurd w h0⟩
  obtain ⟨hL1, hL2, hL3⟩ := hL1
  refine ⟨fun w => ?_, fun w => ?_, by omega, g1, k1, m1, by omega, ?_, hq2, g4⟩
  · have := hL3 (by omega)
    omega
  · have := hL2 w
    omega
  · unfold CNT
    rw [m2, if_neg (by omega), ct_le_succ]
    have : fb_ct (exB (sRnd R dl np PL al (r + 1) Q) (r + 1)) 32 = fb_ct (exB Q (r + 1)) 32 := fb_ct_cong (fun c hc => by
      unfold exB
      rcases m5 c hc with w | ⟨w1, w2⟩
      · rw [w, hq2]
      · rw [w2, ← hq2, w1]
        have a1 : decide (r + 1 < r + 1) = false := by simp
        have a2 : decide (99 < r + 1) = false := by simp; omega
        rw [a1, a2, Bool.and_false, Bool.and_false])
    rw [this]
    omega
theorem run_sp {R : Nat → Nat} {dl : Nat → Nat → Nat → Nat} {np : Nat} {PL : Nat → Nat → Nat} {al : Nat → Bool} (hV : PV R) (hnp : np ≤ 16) (hok : ∀ l, l < np → plOK R (PL l)) : ∀ n, n ≤ 8 → INV R n (sRun R dl np PL al n) ∧ CNT R np PL n (sRun R dl np PL al n) := by
  intro n
  induction n with
  | zero => intro _; exact ⟨INV0 hV, Nat.zero_le _⟩
  | succ n ih =>
    intro hn
    obtain ⟨h1, h2⟩ := ih (by omega)
    obtain ⟨-, -, -, -, -, k6, -, k8, -⟩ := rnd_sp (dl := dl) (al := al) hV h1 h2 hnp hok (by omega)
    exact ⟨k6, k8⟩
