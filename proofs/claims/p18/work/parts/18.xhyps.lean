/-! the component: hypotheses of the theorem in the making -/
section
variable {xn xc xm xd xh : Int32} {xA xR xK xS xY xP xE : Nat → Int32}
theorem xa_hs_fr {W : Nat → Prop} {K S K' S' : Nat → Int32} {f : Nat} {H : List (List Nat)} (fr : hk_fr W K S K' S') (h : hk_hs (hk_h K S) f H) (hW : ∀ i, i < H.length → ¬ W (f + i)) : hk_hs (hk_h K' S') f H :=
  fun i hi => hk_fr_h fr (hW i hi) (h i hi)
/-- shifting up from the end, then the term itself -/
theorem xa_shift {post : Int32 → St2 → Prop} {nH s q f : Nat} {t : List Nat} {H : List (List Nat)} (hH : nH < 16) (hf : f = 32 + nH * 4 + 1) (hs : s < 98) (hsW : s < f ∨ f + 3 ≤ s) (lt : t.length ≤ 32) (lH : ∀ x, x ∈ H → x.length ≤ 32) (hq : q ≤ H.length) (hl : H.length < 3) (K0 S0 : Nat → Int32)
    (k : ∀ K S : Nat → Int32, hk_hs (hk_h K S) f (H.take q ++ t :: H.drop q) → hk_fr (fun s => f ≤ s ∧ s < f + 3) K0 S0 K S → post 1 (xn, xc, xm, xd, nI nH, xA, xR, K, S, xY, upd xP nH (nI (H.length + 1)), xE)) :
    ∀ (d i : Nat) (K S : Nat → Int32), i = q + d → i ≤ H.length → hk_h K S s t → (∀ j, j < i → hk_h K S (f + j) (H.getD j [])) → (∀ j, i ≤ j → j < H.length → hk_h K S (f + j + 1) (H.getD j [])) → hk_fr (fun s => f ≤ s ∧ s < f + 3) K0 S0 K S →
      wX_insertHyp_76 post (nI s) (nI f) (nI H.length) (nI q) (d + 1) (nI i) xn xc xm xd (nI nH) xA xR K S xY xP xE := by
  intro d
  induction d with
  | zero =>
    intro i K S hi hil hs1 lo hi1 fr
    refine br_t (nI_le (by omega) (by omega)) ?_
    rw [nI_add]
    refine xa_copy (by omega) hs (by omega) lt hs1 (fun K1 S1 h1 f1 => ?_)
    refine ⟨vp_in_nI hH (by omega), nm_r (e' := upd xP nH (nI (H.length + 1))) (by rw [nI_clamp (by omega), nI_1]) ?_⟩
    refine k K1 S1 (fun j hj => ?_) (hk_fr_t fr (hk_fr_w f1 (fun s e => by have e : s = f + q := e; omega)))
    rw [hk_put_len hq] at hj
    rcases Nat.lt_trichotomy j q with z | z | z
    · rw [hk_put_lo hq z]; exact hk_fr_h f1 (by intro e; have e : f + j = f + q := e; omega) (lo j (by omega))
    · subst z; rw [hk_put_at hq]; exact h1
    · obtain ⟨j', rfl⟩ : ∃ j', j = j' + 1 := ⟨j - 1, by omega⟩
      rw [hk_put_hi hq (by omega)]
      exact hk_fr_h f1 (by intro e; have e : f + (j' + 1) = f + q := e; omega) (hi1 j' (by omega) (by omega))
  | succ d ih =>
    intro i K S hi hil hs1 lo hi1 fr
    refine br_f (nI_ge (by omega) (by omega)) ?_
    have e1 : nI f + nI i - 1 = nI (f + (i - 1)) := by
      rw [nI_add, show f + i = f + (i - 1) + 1 by omega, nI_pred]
    rw [e1, nI_add]
    have src := lo (i - 1) (by omega)
    refine xa_copy (by omega) (by omega) (by omega) (lH _ (hk_ix_mem (by omega))) src (fun K1 S1 h1 f1 => ?_)
    have e2 : nI i + (-1) = nI (i - 1) := by
      have := pk_m1 (i - 1)
      rw [show i - 1 + 1 = i by omega] at this; exact this
    refine nm_r e2 ?_
    refine ih (i - 1) K1 S1 (by omega) (by omega) (hk_fr_h f1 (by intro e; have e : s = f + i := e; omega) hs1) (fun j hj => hk_fr_h f1 (by intro e; have e : f + j = f + i := e; omega) (lo j (by omega))) (fun j hj hj2 => ?_) (hk_fr_t fr (hk_fr_w f1 (fun s e => by have e : s = f + i := e; omega)))
    by_cases w : j = i - 1
    · subst w
      rw [show f + (i - 1) + 1 = f + i by omega]; exact h1
    · exact hk_fr_h f1 (by intro e; have e : f + j + 1 = f + i := e; omega) (hi1 j (by omega) hj2)
theorem xa_ins_l {post : Int32 → St2 → Prop} {s f n : Nat} {t : List Nat} {H : List (List Nat)} (hs : s < 98) (hf : f + 3 < 98) (g : hk_gt n t) (gH : ∀ x, x ∈ H → hk_gt n x) (ht : hk_h xK xS s t) (hh : hk_hs (hk_h xK xS) f H) (hl : H.length ≤ 3)
    (k : wX_insertHyp_46 post (nI s) (nI f) (nI H.length) (nI (hk_pos t H)) xn xc xm xd xh xA xR xK xS xY xP xE) :
    ∀ (d i : Nat), i + d = H.length → hk_pos t H = i + hk_pos t (H.drop i) → wX_insertHyp_22 post (nI s) (nI f) (nI H.length) xn xc xm xd xh xA xR xK xS xY xP xE (d + 1) (nI i) := by
  intro d
  induction d with
  | zero =>
    intro i hi hp
    rw [List.drop_of_length_le (by omega)] at hp
    have e : hk_pos t H = i := hp
    rw [e] at k
    exact br_t (nI_le (by omega) (by omega)) k
  | succ d ih =>
    intro i hi hp
    have il : i < H.length := by omega
    rw [hk_gd_drop il] at hp
    refine br_f (nI_ge (by omega) (by omega)) ?_
    rw [nI_add]
    refine xa_cmp (hh i il) ht (by omega) hs (gH _ (hk_ix_mem il)) g (fun r h1 h2 => ?_)
    refine br_c (fun z => ?_) (fun z => nm_r (nI_1 _) ?_)
    · have nlt : ¬ hk_lt (H.getD i []) t = true := fun y => absurd (h1.mpr y) (Int32.not_lt.mpr z)
      rw [hk_pos_f nlt] at hp
      rw [hp] at k; exact k
    · have lt : hk_lt (H.getD i []) t = true := h1.mp (Int32.not_le.mp z)
      rw [hk_pos_t lt] at hp
      exact ih (i + 1) (by omega) (by omega)
theorem xa_ins {post : Int32 → St2 → Prop} {nH s n f : Nat} {t : List Nat} {H : List (List Nat)} (hH : nH < 16) (hf : f = 32 + nH * 4 + 1) (hs : s < 98) (hsW : s < f ∨ f + 3 ≤ s) (g : hk_gt n t) (gH : ∀ x, x ∈ H → hk_gt n x) (ht : hk_h xK xS s t) (hh : hk_hs (hk_h xK xS) f H) (hP : xP nH = nI H.length) (hl : H.length ≤ 3)
    (k1 : (hk_ins t H).length ≤ 3 → ∀ K S P : Nat → Int32, hk_hs (hk_h K S) f (hk_ins t H) → hk_fr (fun s => f ≤ s ∧ s < f + 3) xK xS K S → P nH = nI (hk_ins t H).length → (∀ h, h ≠ nH → P h = xP h) → post 1 (xn, xc, xm, xd, nI nH, xA, xR, K, S, xY, P, xE))
    (k0 : 3 < (hk_ins t H).length → post 0 (xn, xc, xm, xd, nI nH, xA, xR, xK, xS, xY, xP, xE)) : wpX_insertHyp post (xn, xc, xm, xd, nI nH, xA, xR, xK, xS, xY, xP, xE) (nI s) := by
  unfold wpX_insertHyp
  dsimp only
  refine xa_part nH 1 ?_
  rw [← hf]
  refine ⟨vp_in_nI hH (by omega), nm_r (e' := nI H.length) (by rw [nI_clamp (by omega)]; exact hP) ⟨H.length + 1, ?_⟩⟩
  have hp := hk_pos_le (t := t) (H := H)
  refine xa_ins_l hs (by omega) g gH ht hh hl ?_ H.length 0 (by omega) (by rw [List.drop_zero, Nat.zero_add])
  have go : (hk_pos t H < H.length → H.getD (hk_pos t H) [] ≠ t) → wX_insertHyp_66 post (nI s) (nI f) (nI H.length) (nI (hk_pos t H)) xn xc xm xd (nI nH) xA xR xK xS xY xP xE := by
    intro ne
    have e := hk_ins_new ne
    have el : (hk_ins t H).length = H.length + 1 := by rw [e, hk_put_len hp]
    refine pk_lt H.length 3 (fun z => ⟨H.length - hk_pos t H + 1, ?_⟩) (fun z => k0 (by omega))
    refine xa_shift hH hf hs hsW g.2.1 (fun x hx => (gH x hx).2.1) hp z xK xS (fun K S h1 f1 => ?_) (H.length - hk_pos t H) H.length xK xS (by omega) (Nat.le_refl _) ht hh (fun j h1 h2 => by omega) hk_fr_r
    refine k1 (by omega) K S _ (by rw [e]; exact h1) f1 (by rw [pk_us, el]) (fun h hne => pk_un hne)
  refine pk_le H.length (hk_pos t H) (fun z => go (fun w => by omega)) (fun z => ?_)
  rw [nI_add]
  refine xa_cmp (hh _ z) ht (by omega) hs (gH _ (hk_ix_mem z)) g (fun r h1 h2 => ?_)
  refine br_c (fun w => ?_) (fun w => go (fun _ e => w (h2.mpr e)))
  have e := hk_ins_same z (h2.mp w)
  rw [e] at k1
  exact k1 hl xK xS xP hh hk_fr_r hP (fun h _ => rfl)
/-- what the exception says: none, or the term in a slot -/
def xa_exc (K S : Nat → Int32) (x : Int32) (n f : Nat) (wf : List Nat → Bool) : Prop :=
  (x = -1 ∧ ∀ t, wf t = true) ∨ ∃ (e : Nat) (l : List Nat), x = nI e ∧ e < 98 ∧ (e < f ∨ f + 3 ≤ e) ∧ hk_gt n l ∧ hk_h K S e l ∧ ∀ t, wf t = true ↔ t ≠ l
theorem xa_exc_fr {K S K' S' : Nat → Int32} {x : Int32} {n f : Nat} {wf : List Nat → Bool} (fr : hk_fr (fun s => f ≤ s ∧ s < f + 3) K S K' S') (h : xa_exc K S x n f wf) : xa_exc K' S' x n f wf := by
  rcases h with h | ⟨e, l, h1, h2, h3, h4, h5, h6⟩
  · exact Or.inl h
  · exact Or.inr ⟨e, l, h1, h2, h3, h4, hk_fr_h fr (by omega) h5, h6⟩
theorem xa_add_l {post : Int32 → St2 → Prop} {nH a n f : Nat} {A : List (List Nat)} {x : Int32} {wf : List Nat → Bool} (hH : nH < 16) (hf : f = 32 + nH * 4 + 1) (ha : a < nH) (lA : A.length ≤ 3) (gA : ∀ y, y ∈ A → hk_gt n y) :
    ∀ (d i : Nat) (K S P : Nat → Int32) (H : List (List Nat)), i + d = A.length → hk_hs (hk_h K S) (32 + a * 4 + 1) A → xa_exc K S x n f wf → hk_hs (hk_h K S) f H → P nH = nI H.length → H.length ≤ 3 → (∀ y, y ∈ H → hk_gt n y) →
      ((hk_un H ((A.drop i).filter wf)).length ≤ 3 → ∀ K' S' P' : Nat → Int32, hk_hs (hk_h K' S') f (hk_un H ((A.drop i).filter wf)) → hk_fr (fun s => f ≤ s ∧ s < f + 3) K S K' S' → P' nH = nI (hk_un H ((A.drop i).filter wf)).length → (∀ h, h ≠ nH → P' h = P h) → post 1 (xn, xc, xm, xd, nI nH, xA, xR, K', S', xY, P', xE)) →
      (3 < (hk_un H ((A.drop i).filter wf)).length → ∀ K' S' P' : Nat → Int32, hk_fr (fun s => f ≤ s ∧ s < f + 3) K S K' S' → (∀ h, h ≠ nH → P' h = P h) → post 0 (xn, xc, xm, xd, nI nH, xA, xR, K', S', xY, P', xE)) →
      wX_addHyps_10 post (nI a) x (nI A.length) (d + 1) (nI (i + 1)) xn xc xm xd (nI nH) xA xR K S xY P xE := by
  intro d
  induction d with
  | zero =>
    intro i K S P H hi hA hx hh hP hl gH k1 k0
    rw [List.drop_of_length_le (by omega)] at k1
    exact br_t (nI_lt (by omega) (by omega)) (k1 hl K S P hh hk_fr_r hP (fun _ _ => rfl))
  | succ d ih =>
    intro i K S P H hi hA hx hh hP hl gH k1 k0
    have il : i < A.length := by omega
    have hi1 := hA i il
    have gi := gA _ (hk_ix_mem il)
    rw [hk_gd_drop il] at k1 k0
    refine br_f (nI_nlt (by omega) (by omega)) ?_
    refine xa_part a (i + 1) ?_
    rw [show 32 + a * 4 + (i + 1) = 32 + a * 4 + 1 + i by omega]
    have yes : wf (A.getD i []) = true → wX_addHyps_39 post (wX_addHyps_10 post (nI a) x (nI A.length) (d + 1)) (nI a) x (nI A.length) (nI (i + 1)) (nI (32 + a * 4 + 1 + i)) xn xc xm xd (nI nH) xA xR K S xY P xE := by
      intro hw
      rw [List.filter_cons_of_pos hw] at k1 k0
      refine br_f (by decide) ?_
      refine xa_ins hH hf (by omega) (by omega) gi gH hi1 hh hP hl (fun h3 K1 S1 P1 h1 f1 p1 p2 => ?_) (fun h3 => ?_)
      · refine br_f (by decide) (nm_r (nI_1 _) ?_)
        refine ih (i + 1) K1 S1 P1 (hk_ins (A.getD i []) H) (by omega) (xa_hs_fr f1 hA (fun j hj => by omega)) (xa_exc_fr f1 hx) h1 p1 h3 (fun y hy => ?_) (fun q K2 S2 P2 h2 f2 q1 q2 => k1 q K2 S2 P2 h2 (hk_fr_t f1 f2) q1 (fun h hne => (q2 h hne).trans (p2 h hne))) (fun q K2 S2 P2 f2 q2 => k0 q K2 S2 P2 (hk_fr_t f1 f2) (fun h hne => (q2 h hne).trans (p2 h hne)))
        rcases hk_ins_mem.mp hy with e | e
        · rw [e]; exact gi
        · exact gH y e
      · refine br_t rfl (k0 ?_ K S P hk_fr_r (fun _ _ => rfl))
        have := (hk_un_len (ts := (A.drop (i + 1)).filter wf) (S := hk_ins (A.getD i []) H)).1
        show 3 < (hk_un (hk_ins (A.getD i []) H) ((A.drop (i + 1)).filter wf)).length
        omega
    rcases hx with ⟨rfl, hw⟩ | ⟨e, l, rfl, he, heW, ge, hle, hwf⟩
    · exact br_t rfl (yes (hw _))
    · refine br_f ?_ ?_
      · intro z
        have q : ¬ nI e < 0 := nI_pos (by omega)
        rw [z] at q; exact q (by decide)
      · refine xa_cmp hi1 hle (by omega) he gi ge (fun r h1 h2 => ?_)
        refine br_c (fun w => ?_) (fun w => yes ((hwf _).mpr (fun q => w (h2.mpr q))))
        have nw : ¬ wf (A.getD i []) = true := fun q => (hwf _).mp q (h2.mp w)
        rw [List.filter_cons_of_neg nw] at k1 k0
        refine br_t rfl (nm_r (nI_1 _) ?_)
        exact ih (i + 1) K S P H (by omega) hA (Or.inr ⟨e, l, rfl, he, heW, ge, hle, hwf⟩) hh hP hl gH k1 k0
theorem xa_add {post : Int32 → St2 → Prop} {nH a n f : Nat} {A H : List (List Nat)} {x : Int32} {wf : List Nat → Bool} (hH : nH < 16) (hf : f = 32 + nH * 4 + 1) (ha : a < nH) (lA : A.length ≤ 3) (gA : ∀ y, y ∈ A → hk_gt n y)
    (hPa : xP a = nI A.length) (hA : hk_hs (hk_h xK xS) (32 + a * 4 + 1) A) (hx : xa_exc xK xS x n f wf) (hh : hk_hs (hk_h xK xS) f H) (hP : xP nH = nI H.length) (hl : H.length ≤ 3) (gH : ∀ y, y ∈ H → hk_gt n y)
    (k1 : (hk_un H (A.filter wf)).length ≤ 3 → ∀ K' S' P' : Nat → Int32, hk_hs (hk_h K' S') f (hk_un H (A.filter wf)) → hk_fr (fun s => f ≤ s ∧ s < f + 3) xK xS K' S' → P' nH = nI (hk_un H (A.filter wf)).length → (∀ h, h ≠ nH → P' h = xP h) → post 1 (xn, xc, xm, xd, nI nH, xA, xR, K', S', xY, P', xE))
    (k0 : 3 < (hk_un H (A.filter wf)).length → ∀ K' S' P' : Nat → Int32, hk_fr (fun s => f ≤ s ∧ s < f + 3) xK xS K' S' → (∀ h, h ≠ nH → P' h = xP h) → post 0 (xn, xc, xm, xd, nI nH, xA, xR, K', S', xY, P', xE)) : wpX_addHyps post (xn, xc, xm, xd, nI nH, xA, xR, xK, xS, xY, xP, xE) (nI a) x :=
  ⟨vp_in_nI (by omega) (by omega), nm_r (e' := nI A.length) (by rw [nI_clamp (by omega)]; exact hPa) ⟨A.length + 1, xa_add_l hH hf ha lA gA A.length 0 xK xS xP H (by omega) hA hx hh hP hl gH (by rw [List.drop_zero]; exact k1) (by rw [List.drop_zero]; exact k0)⟩⟩
end
