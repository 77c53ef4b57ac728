/-! the reference: hypotheses -/
section
variable {y1 y2 y3 y4 y5 yn ym yh yc yd yw yl yk ye yp yq yr ys : Int32} {yM yL yY yA yR yP : Nat → Int32}
theorem ya_hs_fr {W : Nat → Prop} {K S K' S' : Nat → Int32} {f : Nat} {H : List (List Nat)} (fr : hk_fr W K S K' S') (h : hk_hs (hk_hy K S) f H) (hW : ∀ i, i < H.length → ¬ W (f + i)) : hk_hs (hk_hy K' S') f H :=
  fun i hi => hk_fr_hy fr (hW i hi) (h i hi)
def ya_exc (K S : Nat → Int32) (x2 x3 x4 : Int32) (n : Nat) (wf : List Nat → Bool) : Prop :=
  (x2 = -1 ∧ ∀ t, wf t = true) ∨ ∃ (e : Nat) (l : List Nat), x2 = nI e ∧ x3 = 0 ∧ x4 = nI l.length ∧ e < 96 ∧ hk_gt n l ∧ hk_hy K S e l ∧ ∀ t, wf t = true ↔ t ≠ l
theorem ya_exc_fr {K S K' S' : Nat → Int32} {x2 x3 x4 : Int32} {n : Nat} {wf : List Nat → Bool} (fr : hk_fr (fun s => 100 ≤ s ∧ s < 108) K S K' S') (h : ya_exc K S x2 x3 x4 n wf) : ya_exc K' S' x2 x3 x4 n wf := by
  rcases h with h | ⟨e, l, h1, h2, h3, h4, h5, h6, h7⟩
  · exact Or.inl h
  · exact Or.inr ⟨e, l, h1, h2, h3, h4, h5, hk_fr_hy fr (by omega) h6, h7⟩
theorem ya_add_l {post : SY → Prop} {a n : Nat} {A : List (List Nat)} {x2 x3 x4 : Int32} {wf : List Nat → Bool} (ha : a < 16) (lA : A.length ≤ 3) (gA : ∀ y, y ∈ A → hk_gt n y) (hPa : yP a = nI A.length) :
    ∀ (d i : Nat) (M L : Nat → Int32) (w wl : Int32) (C : List (List Nat)), i + d = A.length → hk_hs (hk_hy M L) (32 + a * 4 + 1) A → ya_exc M L x2 x3 x4 n wf → hk_hs (hk_hy M L) 100 C → C.length + d ≤ 6 →
      (∀ (M' L' : Nat → Int32) (w' wl' : Int32), hk_hs (hk_hy M' L') 100 (C ++ (A.drop i).filter wf) → hk_fr (fun s => 100 ≤ s ∧ s < 108) M L M' L' → post (y1, y2, y3, y4, y5, yn, ym, yh, yc, yd, w', wl', nI (C ++ (A.drop i).filter wf).length, ye, yp, yq, yr, ys, M', L', yY, yA, yR, yP)) →
      wY_addHyps_3 post (nI a) x2 x3 x4 (d + 1) (nI (i + 1)) y1 y2 y3 y4 y5 yn ym yh yc yd w wl (nI C.length) ye yp yq yr ys M L yY yA yR yP := by
  intro d
  induction d with
  | zero =>
    intro i M L w wl C hi hA hx hC hl k
    rw [List.drop_of_length_le (by omega)] at k
    have e : C ++ ([] : List (List Nat)).filter wf = C := List.append_nil C
    rw [e] at k
    refine ⟨vp_in_nI ha (by omega), ?_⟩
    rw [nI_clamp (by omega), hPa]
    exact br_t (nI_lt (by omega) (by omega)) (k M L w wl hC hk_fr_r)
  | succ d ih =>
    intro i M L w wl C hi hA hx hC hl k
    have il : i < A.length := by omega
    have hi1 := hA i il
    have gi := gA _ (hk_ix_mem il)
    rw [hk_gd_drop il] at k
    refine ⟨vp_in_nI ha (by omega), ?_⟩
    rw [nI_clamp (by omega), hPa]
    refine br_f (nI_nlt (by omega) (by omega)) (br_f (nI_nlt (b := i + 1) (a := 3) (by omega) (by omega)) ?_)
    refine ya_slot a (i + 1) ?_
    rw [show 32 + a * 4 + (i + 1) = 32 + a * 4 + 1 + i by omega]
    have yes : wf (A.getD i []) = true → wY_addHyps_68 post (wY_addHyps_3 post (nI a) x2 x3 x4 (d + 1)) (nI a) x2 x3 x4 (nI (i + 1)) (nI (32 + a * 4 + 1 + i)) 0 y1 y2 y3 y4 y5 yn ym yh yc yd w wl (nI C.length) ye yp yq yr ys M L yY yA yR yP := by
      intro hw
      rw [List.filter_cons_of_pos hw, show A.getD i [] :: (A.drop (i + 1)).filter wf = [A.getD i []] ++ (A.drop (i + 1)).filter wf from rfl, ← List.append_assoc] at k
      refine br_t rfl (br_f (nI_ge (b := 8) (by omega) (by omega)) ?_)
      rw [show (100 : Int32) = nI 100 from rfl, nI_add]
      refine ya_begin (by omega) (fun L1 h1 f1 => ⟨vp_in_nI (by omega) (by omega), ?_⟩)
      have src1 := hk_fr_hy f1 (s := 32 + a * 4 + 1 + i) (by omega) hi1
      refine ya_all (by omega) (by omega) (by omega) gi.2.1 h1 src1 (by decide) (hk_szy src1 (by omega) gi.2.1) (fun M2 L2 h2 f2 => ?_)
      have f12 := hk_fr_w (V := fun s => 100 ≤ s ∧ s < 108) (hk_fr_t f1 f2) (fun s e => by have e : s = 100 + C.length := e; omega)
      have f12' := hk_fr_t f1 f2
      refine nm_r (nI_1 _) (nm_r (nI_1 _) ?_)
      have el : C.length + 1 = (C ++ [A.getD i []]).length := by rw [List.length_append]; rfl
      rw [el]
      refine ih (i + 1) M2 L2 _ _ (C ++ [A.getD i []]) (by omega) (ya_hs_fr f12 hA (fun j hj => by omega)) (ya_exc_fr f12 hx) ?_ (by omega) (fun M3 L3 w3 wl3 h3 f3 => k M3 L3 w3 wl3 h3 (hk_fr_t f12 f3))
      refine hk_hs_app (ya_hs_fr f12' hC (fun j hj => ?_)) h2
      intro e
      have e : 100 + j = 100 + C.length := e
      omega
    rcases hx with ⟨rfl, hw⟩ | ⟨e, l, rfl, rfl, rfl, he, ge, hle, hwf⟩
    · exact br_t (by decide) (yes (hw _))
    · refine br_f (nI_pos (by omega)) ⟨vp_in_nI (by omega) (by omega), ?_⟩
      refine ya_cmp hi1 hle (by omega) (by omega) gi ge (hk_szy hi1 (by omega) gi.2.1) rfl (fun r h1 h2 => ?_)
      refine br_c (fun q => ?_) (fun q => yes ((hwf _).mpr (fun z => q (h2.mpr z))))
      have nw : ¬ wf (A.getD i []) = true := fun z => (hwf _).mp z (h2.mp q)
      rw [List.filter_cons_of_neg nw] at k
      refine br_f (by decide) (nm_r (nI_1 _) ?_)
      exact ih (i + 1) M L w wl C (by omega) hA (Or.inr ⟨e, l, rfl, rfl, rfl, he, ge, hle, hwf⟩) hC (by omega) k
theorem ya_add {post : SY → Prop} {a n : Nat} {A C : List (List Nat)} {x2 x3 x4 : Int32} {wf : List Nat → Bool} (ha : a < 16) (lA : A.length ≤ 3) (gA : ∀ y, y ∈ A → hk_gt n y) (hPa : yP a = nI A.length)
    (hA : hk_hs (hk_hy yM yL) (32 + a * 4 + 1) A) (hx : ya_exc yM yL x2 x3 x4 n wf) (hC : hk_hs (hk_hy yM yL) 100 C) (hl : C.length ≤ 3)
    (k : ∀ (M' L' : Nat → Int32) (w' wl' : Int32), hk_hs (hk_hy M' L') 100 (C ++ A.filter wf) → hk_fr (fun s => 100 ≤ s ∧ s < 108) yM yL M' L' → post (y1, y2, y3, y4, y5, yn, ym, yh, yc, yd, w', wl', nI (C ++ A.filter wf).length, ye, yp, yq, yr, ys, M', L', yY, yA, yR, yP)) : wpY_addHyps post (y1, y2, y3, y4, y5, yn, ym, yh, yc, yd, yw, yl, nI C.length, ye, yp, yq, yr, ys, yM, yL, yY, yA, yR, yP) (nI a) x2 x3 x4 :=
  ⟨_, ya_add_l ha lA gA hPa A.length 0 yM yL yw yl C (by omega) hA hx hC (by omega) (by rw [List.drop_zero]; exact k)⟩
/-! merging -/
theorem ya_mg26 {post : Int32 → SY → Prop} {J : Int32 → Int32 → Int32 → Int32 → Int32 → Int32 → Int32 → Int32 → Int32 → Int32 → Int32 → Int32 → Int32 → Int32 → Int32 → Int32 → Int32 → Int32 → Int32 → Int32 → Int32 → (Nat → Int32) → (Nat → Int32) → (Nat → Int32) → (Nat → Int32) → (Nat → Int32) → (Nat → Int32) → Prop}
    {S C : List (List Nat)} {r n : Nat} {x2 : Int32} (hC : hk_hs (hk_hy yM yL) 100 C) (lC : C.length ≤ 6) (gC : ∀ y, y ∈ C → hk_gt n y)
    (hx : (r = 0 ∧ x2 = -1) ∨ ∃ j, j < C.length ∧ x2 = nI j ∧ 1 ≤ r ∧ C.getD j [] = S.getD (r - 1) [])
    (k : ∀ x : Int32, hk_best S C r C.length x → wY_merge_172 post J (nI r) (nI r) x y1 y2 y3 y4 y5 yn ym yh yc yd yw yl (nI C.length) ye yp yq yr ys yM yL yY yA yR yP) :
    ∀ (d c : Nat) (x4 : Int32), c + d = C.length → hk_best S C r c x4 → wY_merge_26 post J (nI r) x2 (nI r) y1 y2 y3 y4 y5 yn ym yh yc yd yw yl (nI C.length) ye yp yq yr ys yM yL yY yA yR yP (d + 1) x4 (nI c) := by
  intro d
  induction d with
  | zero =>
    intro c x4 hc hb
    have e : c = C.length := by omega
    subst e
    exact br_t (nI_le (Nat.le_refl _) (by omega)) (k x4 hb)
  | succ d ih =>
    intro c x4 hc hb
    have cl : c < C.length := by omega
    have hc1 := hC c cl
    have gc := gC _ (hk_ix_mem cl)
    have e1 : (100 : Int32) + nI c = nI (100 + c) := nI_add 100 c
    have V1 : vp_in (nI (100 + c)) 110 := vp_in_nI (by omega) (by omega)
    have no : ¬ hk_byd S r (C.getD c []) → wY_merge_97 post J (wY_merge_26 post J (nI r) x2 (nI r) y1 y2 y3 y4 y5 yn ym yh yc yd yw yl (nI C.length) ye yp yq yr ys yM yL yY yA yR yP (d + 1)) (nI r) x2 (nI r) x4 (nI c) 0 y1 y2 y3 y4 y5 yn ym yh yc yd yw yl (nI C.length) ye yp yq yr ys yM yL yY yA yR yP := by
      intro hn
      exact br_t rfl (br_t rfl (nm_r (nI_1 _) (ih (c + 1) x4 (by omega) (hk_best_no hb hn))))
    have yes : hk_byd S r (C.getD c []) → wY_merge_97 post J (wY_merge_26 post J (nI r) x2 (nI r) y1 y2 y3 y4 y5 yn ym yh yc yd yw yl (nI C.length) ye yp yq yr ys yM yL yY yA yR yP (d + 1)) (nI r) x2 (nI r) x4 (nI c) 1 y1 y2 y3 y4 y5 yn ym yh yc yd yw yl (nI C.length) ye yp yq yr ys yM yL yY yA yR yP := by
      intro hy
      refine br_f (by decide) ?_
      rcases hb with ⟨rfl, h⟩ | ⟨b, hb, rfl, h1, h2⟩
      · exact br_t (by decide) (br_f (by decide) (nm_r (nI_1 _) (ih (c + 1) (nI c) (by omega) (hk_best_first h hy))))
      · have e2 : (100 : Int32) + nI b = nI (100 + b) := nI_add 100 b
        have hb1 := hC b (by omega)
        have gb := gC _ (hk_ix_mem (S := C) (i := b) (by omega))
        refine br_f (nI_pos (by omega)) ?_
        rw [e1, e2]
        refine ⟨V1, vp_in_nI (by omega) (by omega), ?_⟩
        refine ya_cmp hc1 hb1 (by omega) (by omega) gc gb (hk_szy hc1 (by omega) gc.2.1) (hk_szy hb1 (by omega) gb.2.1) (fun q q1 q2 => ?_)
        refine br_c (fun z => ?_) (fun z => ?_)
        · have nl : hk_lt (C.getD c []) (C.getD b []) = false := by
            cases w : hk_lt (C.getD c []) (C.getD b []) with
            | false => rfl
            | true => exact absurd (q1.mpr w) (Int32.not_lt.mpr z)
          exact br_t rfl (nm_r (nI_1 _) (ih (c + 1) (nI b) (by omega) (hk_best_keep hb h1 h2 nl)))
        · have nl := q1.mp (Int32.not_le.mp z)
          exact br_f (by decide) (nm_r (nI_1 _) (ih (c + 1) (nI c) (by omega) (hk_best_new h2 hy nl)))
    refine br_f (nI_ge (by omega) (by omega)) (br_f (nI_ge (b := 8) (by omega) (by omega)) ?_)
    rcases hx with ⟨r0, rfl⟩ | ⟨j, hj, rfl, r1, ej⟩
    · exact br_t (by decide) (yes (Or.inl r0))
    · have e2 : (100 : Int32) + nI j = nI (100 + j) := nI_add 100 j
      have hj1 := hC j hj
      have gj := gC _ (hk_ix_mem (S := C) hj)
      refine br_f (nI_pos (by omega)) ?_
      rw [e1, e2]
      refine ⟨V1, vp_in_nI (by omega) (by omega), ?_⟩
      refine ya_cmp hc1 hj1 (by omega) (by omega) gc gj (hk_szy hc1 (by omega) gc.2.1) (hk_szy hj1 (by omega) gj.2.1) (fun q q1 q2 => ?_)
      rw [ej] at q1 q2
      refine br_c (fun z => no (fun y => ?_)) (fun z => yes (Or.inr ?_))
      · rcases y with y | y
        · omega
        · rcases Int32.lt_or_eq_of_le z with w | w
          · have := hk_lt_trans y (q1.mp w)
            rw [hk_lt_irr] at this; cases this
          · rw [q2.mp w, hk_lt_irr] at y; cases y
      · cases w : hk_lt (S.getD (r - 1) []) (C.getD c []) with
        | true => rfl
        | false =>
          exfalso
          cases w2 : hk_lt (C.getD c []) (S.getD (r - 1) []) with
          | true => exact z (Int32.le_of_lt (q1.mpr w2))
          | false => exact z (Int32.le_of_eq (q2.mpr (hk_lt_tri w2 w)))
theorem ya_mg6 {post : Int32 → SY → Prop} {S C : List (List Nat)} {n : Nat} (hS : S = hk_un [] C) (lC : C.length ≤ 6) (gC : ∀ y, y ∈ C → hk_gt n y) :
    ∀ (d r : Nat) (M L : Nat → Int32) (w wl x2 : Int32), r + d = C.length → r ≤ S.length → r ≤ 3 → hk_hs (hk_hy M L) 100 C → (∀ i, i < r → hk_hy M L (97 + i) (S.getD i [])) → ((r = 0 ∧ x2 = -1) ∨ ∃ j, j < C.length ∧ x2 = nI j ∧ 1 ≤ r ∧ C.getD j [] = S.getD (r - 1) []) →
      (S.length ≤ 3 → ∀ (M' L' : Nat → Int32) (w' wl' : Int32), hk_hs (hk_hy M' L') 97 S → hk_fr (fun s => 97 ≤ s ∧ s < 100) M L M' L' → post (nI S.length) (y1, y2, y3, y4, y5, yn, ym, yh, yc, yd, w', wl', nI C.length, ye, yp, yq, yr, ys, M', L', yY, yA, yR, yP)) →
      (3 < S.length → ∀ (M' L' : Nat → Int32) (w' wl' : Int32), hk_fr (fun s => 97 ≤ s ∧ s < 100) M L M' L' → post (-1) (y1, y2, y3, y4, y5, yn, ym, yh, yc, yd, w', wl', nI C.length, ye, yp, yq, yr, ys, M', L', yY, yA, yR, yP)) →
      wY_merge_6 post (d + 1) (nI r) x2 (nI r) y1 y2 y3 y4 y5 yn ym yh yc yd w wl (nI C.length) ye yp yq yr ys M L yY yA yR yP := by
  have sd : hk_sd S := by rw [hS]; exact hk_un_sd List.Pairwise.nil
  have mem : ∀ x, x ∈ S ↔ x ∈ C := by
    intro x
    rw [hS, hk_un_mem]
    exact ⟨fun z => z.elim id (fun y => by cases y), Or.inl⟩
  have len : S.length ≤ C.length := by
    have := (hk_un_len (ts := C) (S := [])).2
    rw [← hS] at this
    have : S.length ≤ 0 + C.length := this
    omega
  intro d
  induction d with
  | zero =>
    intro r M L w wl x2 hr hrS hr3 hC hO hx k1 k0
    refine br_t (nI_le (by omega) (by omega)) ?_
    have e : r = S.length := by omega
    subst e
    exact k1 hr3 M L w wl hO hk_fr_r
  | succ d ih =>
    intro r M L w wl x2 hr hrS hr3 hC hO hx k1 k0
    refine br_f (nI_ge (by omega) (by omega)) (br_f (nI_ge (b := 8) (by omega) (by omega)) ⟨C.length + 1, ?_⟩)
    refine ya_mg26 hC lC gC hx (fun x hb => ?_) C.length 0 (-1) (by omega) (hk_best_0 S C r)
    rcases hb with ⟨rfl, h⟩ | ⟨b, hb, rfl, h1, h2⟩
    · refine br_f hk_m1_nge ?_
      have e : r = S.length := by
        rcases Nat.lt_or_ge r S.length with z | z
        · exfalso
          obtain ⟨i, hi, ei⟩ := hk_mem_ix ((mem _).mp (hk_ix_mem z))
          have := h i hi
          rw [ei] at this
          exact this (hk_byd_r sd z)
        · omega
      subst e
      exact k1 hr3 M L w wl hO hk_fr_r
    · obtain ⟨i, hi, ei⟩ := hk_mem_ix ((mem _).mpr (hk_ix_mem hb))
      have h1' := h1
      rw [← ei] at h1'
      have hri := hk_byd_ge sd hrS hi h1'
      have rS : r < S.length := by omega
      have eb : C.getD b [] = S.getD r [] := by
        refine hk_sel sd rS ((mem _).mpr (hk_ix_mem hb)) h1 (fun y hy hby => ?_)
        obtain ⟨j, hj, rfl⟩ := hk_mem_ix ((mem _).mp hy)
        exact h2 j hj hby
      refine br_t (nI_pos' (by omega)) ?_
      refine pk_lt r 3 (fun z => ?_) (fun z => k0 (by omega) M L w wl hk_fr_r)
      have e1 : (97 : Int32) + nI r = nI (97 + r) := nI_add 97 r
      have e2 : (100 : Int32) + nI b = nI (100 + b) := nI_add 100 b
      have hb1 := hC b hb
      have gb := gC _ (hk_ix_mem hb)
      rw [e1]
      refine ya_begin (by omega) (fun L1 q1 f1 => ?_)
      rw [e2]
      have hb2 := hk_fr_hy f1 (s := 100 + b) (by intro y; have y : 100 + b = 97 + r := y; omega) hb1
      refine ⟨vp_in_nI (by omega) (by omega), ?_⟩
      refine ya_all (by omega) (by omega) (by omega) gb.2.1 q1 hb2 (by decide) (hk_szy hb2 (by omega) gb.2.1) (fun M2 L2 q2 f2 => ?_)
      have f12 := hk_fr_t f1 f2
      have f12' := hk_fr_w (V := fun s => 97 ≤ s ∧ s < 100) f12 (fun s y => by have y : s = 97 + r := y; omega)
      refine nm_r (nI_1 _) (nm_r (nI_1 _) ?_)
      refine ih (r + 1) M2 L2 _ _ (nI b) (by omega) (by omega) (by omega) (ya_hs_fr f12' hC (fun j hj => by omega)) (fun j hj => ?_) (Or.inr ⟨b, hb, rfl, by omega, by rw [Nat.add_sub_cancel]; exact eb⟩) (fun y M3 L3 w3 wl3 q3 f3 => k1 y M3 L3 w3 wl3 q3 (hk_fr_t f12' f3)) (fun y M3 L3 w3 wl3 f3 => k0 y M3 L3 w3 wl3 (hk_fr_t f12' f3))
      by_cases u : j = r
      · subst u
        rw [← eb]; exact q2
      · exact hk_fr_hy f12 (by intro y; have y : 97 + j = 97 + r := y; omega) (hO j (by omega))
theorem ya_merge {post : Int32 → SY → Prop} {C : List (List Nat)} {n : Nat} (lC : C.length ≤ 6) (gC : ∀ y, y ∈ C → hk_gt n y) (hC : hk_hs (hk_hy yM yL) 100 C)
    (k1 : (hk_un [] C).length ≤ 3 → ∀ (M' L' : Nat → Int32) (w' wl' : Int32), hk_hs (hk_hy M' L') 97 (hk_un [] C) → hk_fr (fun s => 97 ≤ s ∧ s < 100) yM yL M' L' → post (nI (hk_un [] C).length) (y1, y2, y3, y4, y5, yn, ym, yh, yc, yd, w', wl', nI C.length, ye, yp, yq, yr, ys, M', L', yY, yA, yR, yP))
    (k0 : 3 < (hk_un [] C).length → ∀ (M' L' : Nat → Int32) (w' wl' : Int32), hk_fr (fun s => 97 ≤ s ∧ s < 100) yM yL M' L' → post (-1) (y1, y2, y3, y4, y5, yn, ym, yh, yc, yd, w', wl', nI C.length, ye, yp, yq, yr, ys, M', L', yY, yA, yR, yP)) : wpY_merge post (y1, y2, y3, y4, y5, yn, ym, yh, yc, yd, yw, yl, nI C.length, ye, yp, yq, yr, ys, yM, yL, yY, yA, yR, yP) :=
  ⟨_, ya_mg6 rfl lC gC C.length 0 yM yL yw yl (-1) (by omega) (by omega) (by omega) hC (fun i hi => absurd hi (Nat.not_lt_zero i)) (Or.inl ⟨rfl, rfl⟩) k1 k0⟩
theorem ya_commit_l {post : Int32 → SY → Prop} {nH : Nat} {H : List (List Nat)} (hH : nH < 16) (lH : H.length ≤ 3) (l32 : ∀ y, y ∈ H → y.length ≤ 32) (M0 L0 : Nat → Int32)
    (k : ∀ (M L : Nat → Int32) (w wl : Int32), hk_hs (hk_hy M L) (32 + nH * 4 + 1) H → hk_fr (fun s => 32 + nH * 4 + 1 ≤ s ∧ s < 36 + nH * 4) M0 L0 M L → post (nI nH) (y1, y2, y3, y4, y5, yn, ym, nI (nH + 1), yc, yd, w, wl, yk, ye, yp, yq, yr, ys, M, L, yY, yA, yR, upd yP nH (nI H.length))) :
    ∀ (d i : Nat) (M L : Nat → Int32) (w wl : Int32), i + d = H.length → hk_hs (hk_hy M L) 97 H → (∀ j, j < i → hk_hy M L (32 + nH * 4 + 1 + j) (H.getD j [])) → hk_fr (fun s => 32 + nH * 4 + 1 ≤ s ∧ s < 36 + nH * 4) M0 L0 M L →
      wY_commit_31 post (nI H.length) (nI nH) (d + 1) (nI i) y1 y2 y3 y4 y5 yn ym (nI nH) yc yd w wl yk ye yp yq yr ys M L yY yA yR yP := by
  intro d
  induction d with
  | zero =>
    intro i M L w wl hi hS hO fr
    refine br_t (nI_le (by omega) (by omega)) ⟨vp_in_nI hH (by omega), nm_r (e' := upd yP nH (nI H.length)) (by rw [nI_clamp (by omega)]) (nm_r (nI_1 _) ?_)⟩
    exact k M L w wl (fun j hj => hO j (by omega)) fr
  | succ d ih =>
    intro i M L w wl hi hS hO fr
    have il : i < H.length := by omega
    refine br_f (nI_ge (by omega) (by omega)) (br_f (nI_ge (b := 3) (by omega) (by omega)) ?_)
    rw [nI_1]
    refine ya_slot nH (i + 1) ?_
    rw [show 32 + nH * 4 + (i + 1) = 32 + nH * 4 + 1 + i by omega]
    refine ya_begin (by omega) (fun L1 q1 f1 => ?_)
    have e1 : (97 : Int32) + nI i = nI (97 + i) := nI_add 97 i
    rw [e1]
    have src := hk_fr_hy f1 (s := 97 + i) (by intro y; have y : 97 + i = 32 + nH * 4 + 1 + i := y; omega) (hS i il)
    have li := l32 _ (hk_ix_mem il)
    refine ⟨vp_in_nI (by omega) (by omega), ?_⟩
    refine ya_all (by omega) (by omega) (by omega) li q1 src (by decide) (hk_szy src (by omega) li) (fun M2 L2 q2 f2 => ?_)
    have f12 := hk_fr_t f1 f2
    have f12' := hk_fr_w (V := fun s => 32 + nH * 4 + 1 ≤ s ∧ s < 36 + nH * 4) f12 (fun s y => by have y : s = 32 + nH * 4 + 1 + i := y; omega)
    refine nm_e ?_
    refine ih (i + 1) M2 L2 _ _ (by omega) (ya_hs_fr f12' hS (fun j hj => by omega)) (fun j hj => ?_) (hk_fr_t fr f12')
    by_cases u : j = i
    · subst u; exact q2
    · exact hk_fr_hy f12 (by intro y; have y : 32 + nH * 4 + 1 + j = 32 + nH * 4 + 1 + i := y; omega) (hO j (by omega))
theorem ya_commit {post : Int32 → SY → Prop} {nH : Nat} {Cn : List Nat} {H : List (List Nat)} {y : Int32} (hH : nH < 16) (lC : Cn.length ≤ 32) (lH : H.length ≤ 3) (l32 : ∀ y, y ∈ H → y.length ≤ 32) (hC : hk_hy yM yL 96 Cn) (hS : hk_hs (hk_hy yM yL) 97 H) (hy : y = nI H.length)
    (k : ∀ (M L : Nat → Int32) (w wl : Int32), hk_hy M L (32 + nH * 4) Cn → hk_hs (hk_hy M L) (32 + nH * 4 + 1) H → hk_fr (fun s => 32 + nH * 4 ≤ s ∧ s < 36 + nH * 4) yM yL M L → post (nI nH) (y1, y2, y3, y4, y5, yn, ym, nI (nH + 1), yc, yd, w, wl, yk, ye, yp, yq, yr, ys, M, L, yY, yA, yR, upd yP nH (nI H.length))) : wpY_commit post (y1, y2, y3, y4, y5, yn, ym, nI nH, yc, yd, yw, yl, yk, ye, yp, yq, yr, ys, yM, yL, yY, yA, yR, yP) y := by
  subst hy
  unfold wpY_commit
  dsimp only
  refine ya_slot nH 0 ?_
  rw [Nat.add_zero]
  refine ya_begin (by omega) (fun L1 q1 f1 => ?_)
  have src := hk_fr_hy f1 (s := 96) (by intro y; have y : 96 = 32 + nH * 4 := y; omega) hC
  refine ya_all (s := 96) (by omega) (by omega) (by omega) lC q1 src (by decide) (hk_szc src lC) (fun M2 L2 q2 f2 => ⟨H.length + 1, ?_⟩)
  have f12 := hk_fr_t f1 f2
  refine ya_commit_l hH lH l32 M2 L2 (fun M L w wl h1 f3 => ?_) H.length 0 M2 L2 _ _ (by omega) (ya_hs_fr f12 hS (fun j hj y => by have y : 97 + j = 32 + nH * 4 := y; omega)) (fun j hj => absurd hj (Nat.not_lt_zero j)) hk_fr_r
  refine k M L w wl (hk_fr_hy f3 (by omega) q2) h1 (hk_fr_t (hk_fr_w f12 (fun s y => by have y : s = 32 + nH * 4 := y; omega)) (hk_fr_w f3 (fun s y => ?_)))
  have y : 32 + nH * 4 + 1 ≤ s ∧ s < 36 + nH * 4 := y
  omega
end
