/-! the law's first loop, and the law -/
theorem sw_cell {post : Int32 → Prop} {L : Nat} {xs : Nat → Int32} {j : Nat} {y : Int32} (hL : L < 1000) (hj : j < 1000000) (hy : y = nI j) (k : ∀ r, post r) : wpL_cell post L xs () y := by
  subst hy
  exact pk_le L j (fun _ => k 0) (fun z => ⟨vp_in_nI z (by omega), k _⟩)
theorem sw_pk {post : Int32 → Prop} (v w : Int32) (k : ∀ r, post r) : wpL_pick post () v w := by
  refine br_c (fun z => ?_) (fun _ => k 0)
  have n0 : ¬ w = 0 := fun e => by rw [e] at z; exact absurd z (by decide)
  exact ⟨n0, n0, k _⟩
theorem sw_rem4 (v : Int32) : ∃ j : Nat, j < 4 ∧ ((v - v / 4 * 4) + 4) - ((v - v / 4 * 4) + 4) / 4 * 4 = nI j := by
  have t : (v - v / 4 * 4).toInt = v.toInt.tmod 4 := rem_toInt v 4
  have b := tmod_bounds (a := v.toInt) (M := 4) (by decide)
  generalize v - v / 4 * 4 = r at t ⊢
  have e4 : (4 : Int32).toInt = 4 := by decide
  have s : (r + 4).toInt = r.toInt + 4 := by
    rw [Int32.toInt_add, e4]
    exact Int.bmod_eq_of_le (by omega) (by omega)
  have n0 : ¬ r + 4 < 0 := by
    rw [Int32.lt_iff_toInt_lt]
    have : (0 : Int32).toInt = 0 := by decide
    omega
  obtain ⟨j, hj, e⟩ := nI_of n0
  have j8 : (j : Int) < 8 := by
    rw [e, nI_toInt hj] at s; omega
  rw [e]
  exact ⟨j % 4, Nat.mod_lt _ (by decide), pk_rem (d := 4) hj (by omega) (by omega)⟩
theorem sw_pk4 {post : Int32 → Prop} (v : Int32) (k : ∀ j, j < 4 → post (nI j)) : wpL_pick post () v 4 := by
  obtain ⟨j, hj, e⟩ := sw_rem4 v
  refine br_t (by decide) ⟨by decide, by decide, ?_⟩
  rw [e]; exact k j hj
theorem sw_and1 (v : Int32) : ∃ i, i < 2 ∧ v &&& 1 = nI i := pk_andE v 1 (by decide)
theorem sw_kd {post : Int32 → Prop} (v : Int32) (k : ∀ r : Int32, r = 1 ∨ r = 2 ∨ r = 3 ∨ r = 7 ∨ r = 8 ∨ r = 9 ∨ r = 10 → post r) : wpL_kindOf post () v :=
  br_c (fun _ => k 1 (by decide)) (fun _ => br_c (fun _ => k 2 (by decide)) (fun _ => br_c (fun _ => k 3 (by decide)) (fun _ => br_c (fun _ => k 7 (by decide)) (fun _ => br_c (fun _ => k 8 (by decide)) (fun _ => br_c (fun _ => k 9 (by decide)) (fun _ => k 10 (by decide)))))))
section
variable {xn xc xm xd xh : Int32} {xA xR xK xS xY xP xE : Nat → Int32}
theorem sw_exit {L kc ks nM nH : Nat} {xs : Nat → Int32} (h : sw_S nM nH (xn, xc, xm, xd, xh, xA, xR, xK, xS, xY, xP, xE)) : ∃ n, wL_law_322 (fun r => r = 1) L xs (nI nH) kc ks xn xc xm xd xh xA xR xK xS xY xP xE n 0 := by
  obtain ⟨T, TY, HC, G, zA, zR, zK, zS, zY, zP, zE, e, I, RX⟩ := h
  cases e
  exact ⟨nH + 1, sw_322 (post := fun r => r = 1) I RX rfl nH 0 (by omega)⟩
end
theorem sw_19 {L kc ks : Nat} {xs : Nat → Int32} (hL : L ≤ 260) : ∀ (d i nM nH : Nat) (xn xc xm xd xh : Int32) (xA xR xK xS xY xP xE : Nat → Int32), L ≤ i + d → i ≤ 1000 → sw_S nM nH (xn, xc, xm, xd, xh, xA, xR, xK, xS, xY, xP, xE) → wL_law_19 (fun r => r = 1) L xs kc ks (d + 1) (nI nM) (nI nH) (nI i) xn xc xm xd xh xA xR xK xS xY xP xE := by
  intro d
  induction d with
  | zero =>
    intro i nM nH xn xc xm xd xh xA xR xK xS xY xP xE hi hi2 h
    exact br_t (nI_le (by omega) (by omega)) (sw_exit h)
  | succ d ih =>
    intro i nM nH xn xc xm xd xh xA xR xK xS xY xP xE hi hi2 h
    refine pk_le L i (fun z => sw_exit h) (fun z => ?_)
    have e4 : nI i + 4 = nI (i + 4) := nI_add i 4
    have nx : ∀ (nM nH : Nat) (xn xc xm xd xh : Int32) (xA xR xK xS xY xP xE : Nat → Int32), sw_S nM nH (xn, xc, xm, xd, xh, xA, xR, xK, xS, xY, xP, xE) → wL_law_19 (fun r => r = 1) L xs kc ks (d + 1) (nI nM) (nI nH) (nI (i + 4)) xn xc xm xd xh xA xR xK xS xY xP xE :=
      fun nM nH xn xc xm xd xh xA xR xK xS xY xP xE h => ih (i + 4) nM nH xn xc xm xd xh xA xR xK xS xY xP xE (by omega) (by omega) h
    have made : ∀ (x10 : Int32) (xn xc xm xd xh : Int32) (xA xR xK xS xY xP xE : Nat → Int32), (x10 = -1 ∧ sw_S nM nH (xn, xc, xm, xd, xh, xA, xR, xK, xS, xY, xP, xE)) ∨ (x10 = nI nH ∧ nH < 16 ∧ sw_S nM (nH + 1) (xn, xc, xm, xd, xh, xA, xR, xK, xS, xY, xP, xE)) → wL_law_305 (fun r => r = 1) L xs (wL_law_19 (fun r => r = 1) L xs kc ks (d + 1)) (nI nM) (nI nH) (nI i) x10 kc ks xn xc xm xd xh xA xR xK xS xY xP xE := by
      intro x10 xn xc xm xd xh xA xR xK xS xY xP xE hx
      rcases hx with ⟨rfl, hx⟩ | ⟨rfl, h16, hx⟩
      · exact br_t (by decide) (nm_r e4 (nx _ _ _ _ _ _ _ _ _ _ _ _ _ _ hx))
      · exact br_f (nI_pos (by omega)) (nm_r (nI_1 _) (nm_r e4 (nx _ _ _ _ _ _ _ _ _ _ _ _ _ _ hx)))
    refine sw_cell (j := i) (by omega) (by omega) rfl (fun r97 => ?_)
    refine sw_pk _ _ (fun r98 => ?_)
    refine sw_cell (j := i + 1) (by omega) (by omega) (nI_add i 1) (fun r99 => ?_)
    refine sw_cell (j := i + 2) (by omega) (by omega) (nI_add i 2) (fun r100 => ?_)
    refine sw_cell (j := i + 3) (by omega) (by omega) (nI_add i 3) (fun r101 => ?_)
    refine br_c (fun _ => ?_) (fun _ => br_c (fun _ => ?_) (fun _ => br_c (fun _ => ?_) (fun _ => ?_)))
    · refine sw_pk4 _ (fun t ht => ?_)
      obtain ⟨j, hj, ej⟩ := sw_and1 r99
      rw [ej]
      refine sw_var h hj ht (fun u' hz h' => ?_) (fun u' h' => ?_)
      · obtain ⟨b1, b2, b3, b4, b5, b6, b7, b8, b9, b10, b11, b12⟩ := u'
        exact br_f (nI_pos (by omega)) (nm_r (nI_1 _) (nm_r e4 (nx _ _ _ _ _ _ _ _ _ _ _ _ _ _ h')))
      · obtain ⟨b1, b2, b3, b4, b5, b6, b7, b8, b9, b10, b11, b12⟩ := u'
        exact br_t (by decide) (nm_r e4 (nx _ _ _ _ _ _ _ _ _ _ _ _ _ _ h'))
    · refine sw_pk4 _ (fun t ht => ?_)
      refine sw_eq h ht (fun u' hz h' => ?_) (fun u' h' => ?_)
      · obtain ⟨b1, b2, b3, b4, b5, b6, b7, b8, b9, b10, b11, b12⟩ := u'
        exact br_f (nI_pos (by omega)) (nm_r (nI_1 _) (nm_r e4 (nx _ _ _ _ _ _ _ _ _ _ _ _ _ _ h')))
      · obtain ⟨b1, b2, b3, b4, b5, b6, b7, b8, b9, b10, b11, b12⟩ := u'
        exact br_t (by decide) (nm_r e4 (nx _ _ _ _ _ _ _ _ _ _ _ _ _ _ h'))
    · refine sw_pk _ _ (fun r232 => ?_)
      refine sw_pk _ _ (fun r233 => ?_)
      refine sw_cmb h r232 r233 (fun u' hz h' => ?_) (fun u' h' => ?_)
      · obtain ⟨b1, b2, b3, b4, b5, b6, b7, b8, b9, b10, b11, b12⟩ := u'
        exact br_f (nI_pos (by omega)) (nm_r (nI_1 _) (nm_r e4 (nx _ _ _ _ _ _ _ _ _ _ _ _ _ _ h')))
      · obtain ⟨b1, b2, b3, b4, b5, b6, b7, b8, b9, b10, b11, b12⟩ := u'
        exact br_t (by decide) (nm_r e4 (nx _ _ _ _ _ _ _ _ _ _ _ _ _ _ h'))
    · refine sw_pk _ _ (fun r105 => ?_)
      refine sw_kd _ (fun r106 hr => ?_)
      refine br_c (fun e1 => ?_) (fun n1 => br_c (fun e7 => ?_) (fun n7 => br_c (fun e10 => ?_) (fun n10 => ?_)))
      · subst e1
        refine sw_pk _ _ (fun r201 => ?_)
        refine sw_rfl h r201 0 0 (made (-1) _ _ _ _ _ _ _ _ _ _ _ _ (Or.inl ⟨rfl, h⟩)) (fun u' hz h' => ?_) (fun u' h' => ?_)
        · obtain ⟨b1, b2, b3, b4, b5, b6, b7, b8, b9, b10, b11, b12⟩ := u'
          exact made _ _ _ _ _ _ _ _ _ _ _ _ _ (Or.inr ⟨rfl, hz, h'⟩)
        · obtain ⟨b1, b2, b3, b4, b5, b6, b7, b8, b9, b10, b11, b12⟩ := u'
          exact made _ _ _ _ _ _ _ _ _ _ _ _ _ (Or.inl ⟨rfl, h'⟩)
      · have hk : r106 = 2 ∨ r106 = 3 ∨ r106 = 7 ∨ r106 = 8 ∨ r106 = 9 ∨ r106 = 10 := hr.resolve_left n1
        refine sw_pk _ _ (fun r173 => ?_)
        refine sw_rule h hk r173 0 0 (fun u' hz h' => ?_) (fun u' h' => ?_)
        · obtain ⟨b1, b2, b3, b4, b5, b6, b7, b8, b9, b10, b11, b12⟩ := u'
          exact made _ _ _ _ _ _ _ _ _ _ _ _ _ (Or.inr ⟨rfl, hz, h'⟩)
        · obtain ⟨b1, b2, b3, b4, b5, b6, b7, b8, b9, b10, b11, b12⟩ := u'
          exact made _ _ _ _ _ _ _ _ _ _ _ _ _ (Or.inl ⟨rfl, h'⟩)
      · have hk : r106 = 2 ∨ r106 = 3 ∨ r106 = 7 ∨ r106 = 8 ∨ r106 = 9 ∨ r106 = 10 := hr.resolve_left n1
        refine sw_pk _ _ (fun r143 => ?_)
        refine sw_pk _ _ (fun r144 => ?_)
        refine sw_pk _ _ (fun r145 => ?_)
        refine sw_rule h hk r143 r144 r145 (fun u' hz h' => ?_) (fun u' h' => ?_)
        · obtain ⟨b1, b2, b3, b4, b5, b6, b7, b8, b9, b10, b11, b12⟩ := u'
          exact made _ _ _ _ _ _ _ _ _ _ _ _ _ (Or.inr ⟨rfl, hz, h'⟩)
        · obtain ⟨b1, b2, b3, b4, b5, b6, b7, b8, b9, b10, b11, b12⟩ := u'
          exact made _ _ _ _ _ _ _ _ _ _ _ _ _ (Or.inl ⟨rfl, h'⟩)
      · have hk : r106 = 2 ∨ r106 = 3 ∨ r106 = 7 ∨ r106 = 8 ∨ r106 = 9 ∨ r106 = 10 := hr.resolve_left n1
        refine sw_pk _ _ (fun r110 => ?_)
        refine sw_pk _ _ (fun r111 => ?_)
        refine sw_rule h hk r110 r111 0 (fun u' hz h' => ?_) (fun u' h' => ?_)
        · obtain ⟨b1, b2, b3, b4, b5, b6, b7, b8, b9, b10, b11, b12⟩ := u'
          exact made _ _ _ _ _ _ _ _ _ _ _ _ _ (Or.inr ⟨rfl, hz, h'⟩)
        · obtain ⟨b1, b2, b3, b4, b5, b6, b7, b8, b9, b10, b11, b12⟩ := u'
          exact made _ _ _ _ _ _ _ _ _ _ _ _ _ (Or.inl ⟨rfl, h'⟩)
theorem sw_cl (x : Int32) (lo hi : Nat) {P : Int32 → Prop} (h1 : nI lo ≤ x) (h2 : x ≤ nI hi) (k : P x) : wpX_clamp P () x (nI lo) (nI hi) := br_t h1 (br_t h2 k)
theorem i_vc (xs : Nat → Int32) (L : Nat) (hL : L ≤ 260) : wpL_law (fun r => r = 1) L xs := by
  refine ⟨7, 3410, by decide, by decide, ?_⟩
  refine ⟨by decide, by decide, by decide, by decide, by decide, by decide, by decide, by decide, by decide, by decide, by decide, by decide, by decide, by decide, ?_⟩
  refine sw_cl 32 8 32 (by decide) (by decide) ?_
  refine sw_cl 16 4 16 (by decide) (by decide) ?_
  refine nm_e (nm_e (nm_e (nm_e ⟨L + 1, ?_⟩)))
  refine sw_19 hL L 0 0 0 _ _ _ _ _ _ _ _ _ _ _ _ (by omega) (by omega) ?_
  refine ⟨(5, fun _ => 0, fun i => if i = 4 then 3 else 0), fun _ => 0, fun _ => 0, fun _ => [], _, _, _, _, _, _, _, rfl, ⟨?_, fun t ht => absurd ht (Nat.not_lt_zero t), fun h hh => absurd hh (Nat.not_lt_zero h)⟩, fun i h3 hi => ?_, fun t ht => absurd ht (Nat.not_lt_zero t), fun h hh => absurd hh (Nat.not_lt_zero h)⟩
  · refine ⟨⟨by decide, by decide, rfl, rfl, rfl, rfl, fun i h3 hi => ⟨by show 0 < 5; decide, ?_⟩⟩, by omega, by omega, by omega, by omega, fun t ht => absurd ht (Nat.not_lt_zero t), fun h hh => absurd hh (Nat.not_lt_zero h)⟩
    show (if i = 4 then 3 else 0) < 5
    split <;> decide
  · have hi : i < 5 := hi
    have : i = 3 ∨ i = 4 := by omega
    rcases this with rfl | rfl
    · exact ⟨rfl, rfl⟩
    · exact ⟨rfl, rfl⟩
