/-! the law's first loop, and the law -/
theorem sw_cell {post : Int32 → Prop} {L : Nat} {xs : Nat → Int32} {j : Nat} {y : Int32} (hL : L < 1000) (hj : j < 1000000) (hy : y = nI j) (k : ∀ r, post r) : wpL_cell post L xs () y := by
  subst hy
  exact pk_le L j (fun _ => k 0) (fun z => ⟨vp_in_nI z (by omega), k _⟩)
theorem sw_pk {post : Int32 → Prop} (v w : Int32) (k : ∀ r, post r) : wpL_pick post () v w := by
  refine br_c (fun z => ?_) (fun _ => k 0)
  have n0 : ¬ w = 0 := fun e => by rw [e] at z; exact absurd z (by decide)
  exact ⟨n0, n0, k _⟩
theorem sw_rem4 (v : Int32) : ∃ j : Nat, j < 4 ∧ ((v - v / 4 * 4) + 4) - ((v - v / 4 * 4) + 4) / 4 * 4 = nI j := by
  sorry
theorem sw_pk4 {post : Int32 → Prop} (v : Int32) (k : ∀ j, j < 4 → post (nI j)) : wpL_pick post () v 4 := by
  obtain ⟨j, hj, e⟩ := sw_rem4 v
  refine br_t (by decide) ⟨by decide, by decide, ?_⟩
  rw [e]; exact k j hj
theorem sw_and1 (v : Int32) : ∃ i, i < 2 ∧ v &&& 1 = nI i := pk_andE v 1 (by decide)
theorem sw_kd {post : Int32 → Prop} (v : Int32) (k : ∀ r : Int32, r = 1 ∨ r = 2 ∨ r = 3 ∨ r = 7 ∨ r = 8 ∨ r = 9 ∨ r = 10 → post r) : wpL_kindOf post () v :=
  br_c (fun _ => k 1 (by decide)) (fun _ => br_c (fun _ => k 2 (by decide)) (fun _ => br_c (fun _ => k 3 (by decide)) (fun _ => br_c (fun _ => k 7 (by decide)) (fun _ => br_c (fun _ => k 8 (by decide)) (fun _ => br_c (fun _ => k 9 (by decide)) (fun _ => k 10 (by decide)))))))
