/-! good terms: complete, small, codes below the bound, EQ nodes at types below n -/
def hk_gc (n c : Nat) : Prop := c < 524288 ∧ (c / 65536 = 2 → c % 256 < n)
def hk_gt (n : Nat) (l : List Nat) : Prop := hk_run 1 l = some 0 ∧ l.length ≤ 32 ∧ ∀ c, c ∈ l → hk_gc n c
theorem hk_gt_mono {n m : Nat} {l : List Nat} (h : hk_gt n l) (hm : n ≤ m) : hk_gt m l :=
  ⟨h.1, h.2.1, fun c hc => ⟨(h.2.2 c hc).1, fun z => Nat.lt_of_lt_of_le ((h.2.2 c hc).2 z) hm⟩⟩
theorem hk_gt_pos {n : Nat} {l : List Nat} (h : hk_gt n l) : 0 < l.length := hk_at_lt (hk_at0 h.1)
theorem hk_gt_c {n : Nat} {l : List Nat} (h : hk_gt n l) {p : Nat} (hp : p < l.length) : hk_gc n (hk_c l p) := h.2.2 _ (hk_c_mem hp)
/-- a term whose first node is a leaf is that node -/
theorem hk_leaf {l : List Nat} (h : hk_run 1 l = some 0) (h0 : hk_ar (hk_c l 0) = 0) : l = [hk_c l 0] := by
  have hp := hk_at_lt (hk_at0 h)
  have q := hk_at_s (hk_at0 h)
  rw [h0] at q
  have e := hk_c_drop hp
  rw [List.drop_zero] at e
  cases hd : l.drop (0 + 1) with
  | nil => rw [hd] at e; exact e
  | cons c t =>
    have := q.2
    rw [hd] at this
    cases this
theorem hk_ar_k {c k : Nat} (h : c / 65536 = k) (h3 : k ≠ 3) (h4 : k ≠ 4) : hk_ar c = 0 := by
  unfold hk_ar; rw [h, if_neg h3, if_neg h4]
theorem hk_ar_3 {c : Nat} (h : c / 65536 = 3) : hk_ar c = 2 := by unfold hk_ar; rw [if_pos h]
theorem hk_ar_4 {c : Nat} (h : c / 65536 = 4) : hk_ar c = 1 := by unfold hk_ar; rw [h]; rfl
/-! abstraction -/
def hk_ab1 (l : List Nat) (s vc p : Nat) : Nat := if hk_c l p = vc then 327680 + hk_dp l s p * 256 + vc % 256 else hk_c l p
def hk_abl (l : List Nat) (s k vc : Nat) : List Nat := (262144 + vc % 256) :: hk_fm (fun p => [hk_ab1 l s vc p]) s k
theorem hk_dp_le (l : List Nat) (s p : Nat) : hk_dp l s p ≤ p := by
  have := hk_dn_le l p s (p - s)
  unfold hk_dp; omega
theorem hk_abl_len (l : List Nat) (s k vc : Nat) : (hk_abl l s k vc).length = k + 1 := by
  unfold hk_abl; rw [List.length_cons, hk_fm_len]
theorem hk_bound {d t : Nat} (hd : d ≤ 32) (ht : t < 256) : (327680 + d * 256 + t) / 65536 = 5 ∧ 327680 + d * 256 + t < 524288 := by omega
theorem hk_abl_run {l : List Nat} {s k vc : Nat} (hs : s + k ≤ 32) (hv : vc / 65536 = 1) (h : hk_run 1 (hk_fm (fun p => [hk_c l p]) s k) = some 0) : hk_run 1 (hk_abl l s k vc) = some 0 := by
  unfold hk_abl
  rw [hk_run_s, hk_ar_4 (by omega)]
  refine hk_fm_run (g := hk_c l) ?_ h
  intro i hi j
  rw [hk_run_c]
  apply congrArg some
  unfold hk_ab1
  split
  · rename_i e
    have := hk_dp_le l s (s + i)
    rw [e, hk_ar_k hv (by decide) (by decide), hk_ar_k (hk_bound (d := hk_dp l s (s + i)) (by omega) (Nat.mod_lt vc (by decide))).1 (by decide) (by decide)]
  · rfl
theorem hk_abl_gc {n : Nat} {l : List Nat} {s k vc : Nat} (hs : s + k ≤ l.length) (h32 : l.length ≤ 32) (h : ∀ c, c ∈ l → hk_gc n c) : ∀ c, c ∈ hk_abl l s k vc → hk_gc n c := by
  intro c hc
  rcases List.mem_cons.mp hc with z | z
  · have := Nat.mod_lt vc (show 0 < 256 by decide)
    exact ⟨by omega, fun y => by omega⟩
  · obtain ⟨i, hi, e⟩ := hk_fm_mem z
    have e := List.mem_singleton.mp e
    unfold hk_ab1 at e
    split at e
    · have h1 := hk_dp_le l s (s + i)
      obtain ⟨h2, h3⟩ := hk_bound (d := hk_dp l s (s + i)) (t := vc % 256) (by omega) (Nat.mod_lt vc (by decide))
      exact ⟨by omega, fun y => by omega⟩
    · rw [e]; exact h _ (hk_c_mem (by omega))
/-! substitution -/
def hk_sb (l : List Nat) (vc : Nat) (u : List Nat) : List Nat := hk_fm (fun p => if hk_c l p = vc then u else [hk_c l p]) 0 l.length
theorem hk_sb_run {l u : List Nat} {vc : Nat} (h : hk_run 1 l = some 0) (hv : vc / 65536 = 1) (hu : hk_run 1 u = some 0) : hk_run 1 (hk_sb l vc u) = some 0 := by
  unfold hk_sb
  refine hk_fm_run (g := hk_c l) ?_ (by rw [hk_fm_all]; exact h)
  intro i hi j
  split
  · rename_i e
    rw [hk_run1 hu j, e, hk_ar_k hv (by decide) (by decide)]; rfl
  · exact hk_run_c _ _
theorem hk_sb_gc {n : Nat} {l u : List Nat} {vc : Nat} (h : ∀ c, c ∈ l → hk_gc n c) (hu : ∀ c, c ∈ u → hk_gc n c) : ∀ c, c ∈ hk_sb l vc u → hk_gc n c := by
  intro c hc
  obtain ⟨i, hi, e⟩ := hk_fm_mem hc
  split at e
  · exact hu c e
  · rw [List.mem_singleton.mp e]; exact h _ (hk_c_mem (by omega))
/-! contraction -/
def hk_lf (l : List Nat) (a k q : Nat) : Nat := if hk_c l q / 65536 = 5 ∧ hk_dp l a q ≤ hk_c l q / 256 % 256 then hk_c l q + k * 256 else hk_c l q
def hk_cb (l : List Nat) (b a r p : Nat) : List Nat :=
  if hk_c l p / 65536 = 5 ∧ hk_c l p / 256 % 256 = hk_dp l b p then hk_fm (fun q => [hk_lf l a (hk_dp l b p) q]) a (r - a)
  else if hk_c l p / 65536 = 5 ∧ hk_dp l b p < hk_c l p / 256 % 256 then [hk_c l p - 256] else [hk_c l p]
/-- the contraction of the redex at r of l -/
def hk_con (l : List Nat) (r : Nat) : List Nat :=
  hk_fm (fun p => [hk_c l p]) 0 r ++ hk_fm (hk_cb l (r + 2) (hk_e l (r + 2)) (hk_e l (hk_e l (r + 2)))) (r + 2) (hk_e l (r + 2) - (r + 2)) ++
    hk_fm (fun p => [hk_c l p]) (hk_e l (hk_e l (r + 2))) (l.length - hk_e l (hk_e l (r + 2)))
def hk_rx (l : List Nat) (p : Nat) : Prop := p + 1 < l.length ∧ hk_c l p / 65536 = 3 ∧ hk_c l (p + 1) / 65536 = 4
/-- where the pieces of a redex lie -/
theorem hk_rx_at {l : List Nat} (h : hk_run 1 l = some 0) {r : Nat} (hr : hk_rx l r) :
    ∃ m, hk_run 1 (l.take r) = some (m + 1) ∧ hk_at l (r + 2) (m + 2) ∧ hk_at l (hk_e l (r + 2)) (m + 1) ∧ hk_at l (hk_e l (hk_e l (r + 2))) m ∧ r + 2 < hk_e l (r + 2) ∧ hk_e l (r + 2) < hk_e l (hk_e l (r + 2)) ∧
      hk_run 1 ((l.drop (r + 2)).take (hk_e l (r + 2) - (r + 2))) = some 0 ∧ hk_run 1 ((l.drop (hk_e l (r + 2))).take (hk_e l (hk_e l (r + 2)) - hk_e l (r + 2))) = some 0 := by
  obtain ⟨m, h1, h2⟩ := hk_at_ex h (show r < l.length by have := hr.1; omega)
  have h3 := hk_at_s h2
  rw [hk_ar_3 hr.2.1] at h3
  have h4 := hk_at_s h3
  rw [hk_ar_4 hr.2.2] at h4
  obtain ⟨a1, a2, a3⟩ := hk_at_end h4
  obtain ⟨b1, b2, b3⟩ := hk_at_end a2
  exact ⟨m, h1, h4, a2, b2, a1, b1, a3, b3⟩
theorem hk_lf_ar {l : List Nat} {a k q : Nat} (hk : k ≤ 32) : hk_ar (hk_lf l a k q) = hk_ar (hk_c l q) := by
  unfold hk_lf
  split
  · rename_i z
    rw [hk_ar_k z.1 (by decide) (by decide)]
    rcases Nat.lt_or_ge (hk_c l q + k * 256) 393216 with y | y
    · exact hk_ar_k (k := 5) (by omega) (by decide) (by decide)
    · exact hk_ar_k (k := 6) (by omega) (by decide) (by decide)
  · rfl
theorem hk_lf_gc {n : Nat} {l : List Nat} {a k q : Nat} (hk : k ≤ 32) (h : hk_gc n (hk_c l q)) : hk_gc n (hk_lf l a k q) := by
  unfold hk_lf
  split
  · rename_i z
    exact ⟨by omega, fun y => by omega⟩
  · exact h
theorem hk_con_run {l : List Nat} (h : hk_run 1 l = some 0) (h32 : l.length ≤ 32) {r : Nat} (hr : hk_rx l r) : hk_run 1 (hk_con l r) = some 0 := by
  obtain ⟨m, t1, t2, t3, t4, o1, o2, s1, s2⟩ := hk_rx_at h hr
  have w := t4.1
  unfold hk_con
  rw [hk_fm_sub r 0 (by have := hr.1; omega), List.drop_zero, List.append_assoc, hk_run_app _ _ _ _ t1]
  have B : hk_run 1 (hk_fm (hk_cb l (r + 2) (hk_e l (r + 2)) (hk_e l (hk_e l (r + 2)))) (r + 2) (hk_e l (r + 2) - (r + 2))) = some 0 := by
    refine hk_fm_run (g := hk_c l) ?_ (by rw [hk_fm_sub _ _ (by omega)]; exact s1)
    intro i hi j
    have hd := hk_dp_le l (r + 2) (r + 2 + i)
    unfold hk_cb
    split
    · rename_i z
      rw [hk_ar_k z.1 (by decide) (by decide)]
      refine hk_run1 ?_ j
      refine hk_fm_run (g := hk_c l) ?_ (by rw [hk_fm_sub _ _ (by omega)]; exact s2)
      intro i' hi' j'
      rw [hk_run_c, hk_lf_ar (by omega)]
    · split
      · rename_i z
        rw [hk_run_c, hk_ar_k z.1 (by decide) (by decide), hk_ar_k (k := 5) (by omega) (by decide) (by decide)]
      · exact hk_run_c _ _
  rw [hk_run_app _ _ _ _ (hk_run1 B m), hk_fm_sub _ _ (by omega), List.take_of_length_le (by rw [List.length_drop]; omega)]
  exact t4.2
theorem hk_con_gc {n : Nat} {l : List Nat} (h : hk_run 1 l = some 0) (h32 : l.length ≤ 32) {r : Nat} (hr : hk_rx l r) (hg : ∀ c, c ∈ l → hk_gc n c) : ∀ c, c ∈ hk_con l r → hk_gc n c := by
  obtain ⟨m, t1, t2, t3, t4, o1, o2, s1, s2⟩ := hk_rx_at h hr
  have w := t4.1
  have w1 := hr.1
  intro c hc
  unfold hk_con at hc
  rcases List.mem_append.mp hc with hc | hc
  · rcases List.mem_append.mp hc with hc | hc
    · obtain ⟨i, hi, e⟩ := hk_fm_mem hc
      rw [List.mem_singleton.mp e]; exact hg _ (hk_c_mem (by omega))
    · obtain ⟨i, hi, e⟩ := hk_fm_mem hc
      have hd := hk_dp_le l (r + 2) (r + 2 + i)
      have g := hg _ (hk_c_mem (l := l) (p := r + 2 + i) (by omega))
      unfold hk_cb at e
      split at e
      · obtain ⟨i', hi', e'⟩ := hk_fm_mem e
        rw [List.mem_singleton.mp e']
        exact hk_lf_gc (by omega) (hg _ (hk_c_mem (by omega)))
      · split at e
        · rename_i z
          rw [List.mem_singleton.mp e]
          exact ⟨by have := g.1; omega, fun y => by omega⟩
        · rw [List.mem_singleton.mp e]; exact g
  · obtain ⟨i, hi, e⟩ := hk_fm_mem hc
    rw [List.mem_singleton.mp e]; exact hg _ (hk_c_mem (by omega))
/-! equations -/
def hk_eq (a : Nat) (s t : List Nat) : List Nat := 196608 :: 196608 :: (131072 + a) :: (s ++ t)
theorem hk_eq_run {a : Nat} {s t : List Nat} (ha : a < 256) (hs : hk_run 1 s = some 0) (ht : hk_run 1 t = some 0) : hk_run 1 (hk_eq a s t) = some 0 := by
  unfold hk_eq
  rw [hk_run_s, hk_ar_3 (by decide), hk_run_s, hk_ar_3 (by decide), hk_run_s, hk_ar_k (k := 2) (by omega) (by decide) (by decide)]
  show hk_run 2 _ = _
  rw [hk_run_app _ _ _ _ (hk_run1 hs 1)]
  exact ht
theorem hk_eq_gc {n a : Nat} {s t : List Nat} (ha : a < n) (hn : n ≤ 48) (hs : ∀ c, c ∈ s → hk_gc n c) (ht : ∀ c, c ∈ t → hk_gc n c) : ∀ c, c ∈ hk_eq a s t → hk_gc n c := by
  intro c hc
  unfold hk_eq at hc
  rcases List.mem_cons.mp hc with e | hc
  · exact ⟨by omega, fun y => by omega⟩
  · rcases List.mem_cons.mp hc with e | hc
    · exact ⟨by omega, fun y => by omega⟩
    · rcases List.mem_cons.mp hc with e | hc
      · exact ⟨by omega, fun y => by omega⟩
      · rcases List.mem_append.mp hc with e | e
        · exact hs c e
        · exact ht c e
theorem hk_eq_len (a : Nat) (s t : List Nat) : (hk_eq a s t).length = 3 + s.length + t.length := by
  unfold hk_eq
  rw [List.length_cons, List.length_cons, List.length_cons, List.length_append]; omega
def hk_ise (l : List Nat) : Prop := hk_c l 0 / 65536 = 3 ∧ hk_c l 1 / 65536 = 3 ∧ hk_c l 2 / 65536 = 2
/-- an equation's sides: from 3 to hk_e l 3, and from there to the end -/
theorem hk_ise_at {l : List Nat} (h : hk_run 1 l = some 0) (he : hk_ise l) :
    hk_at l 3 2 ∧ hk_at l (hk_e l 3) 1 ∧ 3 < hk_e l 3 ∧ hk_e l 3 < l.length ∧ hk_e l (hk_e l 3) = l.length ∧
      hk_run 1 ((l.drop 3).take (hk_e l 3 - 3)) = some 0 ∧ hk_run 1 (l.drop (hk_e l 3)) = some 0 := by
  have h0 := hk_at_s (hk_at0 h)
  rw [hk_ar_3 he.1] at h0
  have h1 := hk_at_s h0
  rw [hk_ar_3 he.2.1] at h1
  have h2 := hk_at_s h1
  rw [hk_ar_k he.2.2 (by decide) (by decide)] at h2
  obtain ⟨a1, a2, a3⟩ := hk_at_end h2
  obtain ⟨b1, b2, b3⟩ := hk_at_end a2
  have e : hk_e l (hk_e l 3) = l.length := by
    rcases Nat.lt_or_ge (hk_e l (hk_e l 3)) l.length with z | z
    · have := b2.2
      rw [hk_c_drop z] at this
      cases this
    · exact Nat.le_antisymm b2.1 z
  exact ⟨h2, a2, a1, hk_at_lt a2, e, a3, a2.2⟩
/-- the nodes above a position in the left side, and in the right side -/
theorem hk_ise_dl {l : List Nat} (he : hk_ise l) {p : Nat} (h3 : 3 ≤ p) : hk_dp l 0 p = hk_dp l 3 p := by
  unfold hk_dp
  rw [show p - 0 = 3 + (p - 3) by omega, hk_dn_add, Nat.zero_add, hk_dn_zero, Nat.zero_add]
  intro i hi h4
  rw [Nat.zero_add] at h4
  obtain ⟨e0, e1, e2⟩ := he
  have : i = 0 ∨ i = 1 ∨ i = 2 := by omega
  rcases this with rfl | rfl | rfl <;> omega
theorem hk_ise_dr {l : List Nat} (he : hk_ise l) {p : Nat} (h3 : 3 < hk_e l 3) (hp : hk_e l 3 ≤ p) : hk_dp l 0 p = hk_dp l (hk_e l 3) p := by
  rw [hk_ise_dl he (by omega)]
  unfold hk_dp
  rw [show p - 3 = (hk_e l 3 - 3) + (p - hk_e l 3) by omega, hk_dn_add, hk_dn_zero, Nat.zero_add, show 3 + (hk_e l 3 - 3) = hk_e l 3 by omega]
  intro i hi _
  have := hk_nest (l := l) (q := 3) (s := 3 + i) (by omega) (by omega)
  omega
theorem hk_fm_le {f : Nat → List Nat} {a m : Nat} : ∀ {k : Nat}, (∀ i, i < k → (f (a + i)).length ≤ m) → (hk_fm f a k).length ≤ k * m
  | 0, _ => Nat.zero_le _
  | k + 1, h => by
    have q := hk_fm_le (f := f) (a := a) (m := m) (k := k) (fun i hi => h i (by omega))
    have w := h k (by omega)
    show (hk_fm f a k ++ f (a + k)).length ≤ _
    rw [List.length_append, Nat.add_mul, Nat.one_mul]
    omega
theorem hk_sb_len {l u : List Nat} {vc : Nat} (hl : l.length ≤ 32) (hu : u.length ≤ 32) : (hk_sb l vc u).length ≤ 2000 := by
  have q := hk_fm_le (f := fun p => if hk_c l p = vc then u else [hk_c l p]) (a := 0) (m := 32) (k := l.length) (fun i hi => by
    split
    · exact hu
    · show 1 ≤ 32; decide)
  unfold hk_sb
  omega
theorem hk_con_len {l : List Nat} (h : hk_run 1 l = some 0) (h32 : l.length ≤ 32) {r : Nat} (hr : hk_rx l r) : (hk_con l r).length ≤ 2000 := by
  obtain ⟨m, t1, t2, t3, t4, o1, o2, s1, s2⟩ := hk_rx_at h hr
  have w := t4.1
  have w1 := hr.1
  have q := hk_fm_le (f := hk_cb l (r + 2) (hk_e l (r + 2)) (hk_e l (hk_e l (r + 2)))) (a := r + 2) (m := 32) (k := hk_e l (r + 2) - (r + 2)) (fun i hi => by
    unfold hk_cb
    split
    · rw [hk_fm_len]; omega
    · split
      · show 1 ≤ 32; decide
      · show 1 ≤ 32; decide)
  unfold hk_con
  rw [List.length_append, List.length_append, hk_fm_len, hk_fm_len]
  omega
