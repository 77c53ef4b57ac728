/-! the reference: what builds terms -/
section
variable {y1 y2 y3 y4 y5 yn ym yh yc yd yw yl yk ye yp yq yr ys : Int32} {yM yL yY yA yR yP : Nat → Int32}
theorem ya_begin {post : SY → Prop} {o : Nat} (ho : o < 110) (k : ∀ L : Nat → Int32, hk_hy yM L o [] → hk_fr (fun s => s = o) yM yL yM L → post (y1, y2, y3, y4, y5, yn, ym, yh, yc, yd, nI o, nI (min ([] : List Nat).length 33), yk, ye, yp, yq, yr, ys, yM, L, yY, yA, yR, yP)) : wpY_begin post (y1, y2, y3, y4, y5, yn, ym, yh, yc, yd, yw, yl, yk, ye, yp, yq, yr, ys, yM, yL, yY, yA, yR, yP) (nI o) := by
  refine ⟨vp_in_nI ho (by omega), nm_r (e' := upd yL o 0) (by rw [nI_clamp (by omega)]) ?_⟩
  exact k (upd yL o 0) hk_hy0 hk_fr_s
theorem ya_emit {post : SY → Prop} {o c : Nat} {l : List Nat} {y : Int32} (ho : o < 110) (h : hk_hy yM yL o l) (hl : l.length < 100000) (hy : y = nI c)
    (k : ∀ M L : Nat → Int32, hk_hy M L o (l ++ [c]) → hk_fr (fun s => s = o) yM yL M L → post (y1, y2, y3, y4, y5, yn, ym, yh, yc, yd, nI o, nI (min (l ++ [c]).length 33), yk, ye, yp, yq, yr, ys, M, L, yY, yA, yR, yP)) : wpY_emit post (y1, y2, y3, y4, y5, yn, ym, yh, yc, yd, nI o, nI (min l.length 33), yk, ye, yp, yq, yr, ys, yM, yL, yY, yA, yR, yP) y := by
  subst hy
  rw [hk_len1] at k
  have V : vp_in (nI o) 110 := vp_in_nI ho (by omega)
  have ec : (nI o).toNatClampNeg = o := nI_clamp (by omega)
  have go : ∀ M : Nat → Int32, hk_hy M (upd yL o (nI (min (l.length + 1) 33))) o (l ++ [c]) → hk_fr (fun s => s = o) yM yL M (upd yL o (nI (min (l.length + 1) 33))) → wY_emit_27 post y1 y2 y3 y4 y5 yn ym yh yc yd (nI o) (nI (min l.length 33)) yk ye yp yq yr ys M yL yY yA yR yP := by
    intro M h1 f1
    refine pk_le 33 (min l.length 33) (fun z => ⟨V, ?_⟩) (fun z => nm_r (nI_1 _) ⟨V, ?_⟩)
    · refine nm_r (e' := upd yL o (nI (min (l.length + 1) 33))) (by rw [ec, show min l.length 33 = min (l.length + 1) 33 by omega]) ?_
      rw [show min l.length 33 = min (l.length + 1) 33 by omega]
      exact k _ _ h1 f1
    · refine nm_r (e' := upd yL o (nI (min (l.length + 1) 33))) (by rw [ec, show min l.length 33 + 1 = min (l.length + 1) 33 by omega]) ?_
      rw [show min l.length 33 + 1 = min (l.length + 1) 33 by omega]
      exact k _ _ h1 f1
  refine pk_le 32 (min l.length 33) (fun z => go yM (hk_puty' h (by omega)) hk_fr_s) (fun z => ⟨?_, ?_⟩)
  · rw [show min l.length 33 = l.length by omega]; exact hk_vy ho (by omega)
  · refine nm_r (e' := upd yM (o * 32 + l.length) (nI c)) (by rw [show min l.length 33 = l.length by omega, hk_ad, nI_clamp (by omega)]) (go _ (hk_puty h) (hk_fr_p (by omega)))
theorem ya_part_l {post : SY → Prop} {o s st n : Nat} {src : List Nat} (ho : o < 110) (hs : s < 110) (hso : s ≠ o) (hn : st + n ≤ src.length) (hl : src.length ≤ 32) :
    ∀ (d i : Nat) (M L : Nat → Int32) (l : List Nat), i + d = n → hk_hy M L o l → hk_hy M L s src → l.length + d < 100000 →
      (∀ M' L' : Nat → Int32, hk_hy M' L' o (l ++ hk_fm (fun q => [hk_c src q]) (st + i) d) → hk_fr (fun s => s = o) M L M' L' → post (y1, y2, y3, y4, y5, yn, ym, yh, yc, yd, nI o, nI (min (l ++ hk_fm (fun q => [hk_c src q]) (st + i) d).length 33), yk, ye, yp, yq, yr, ys, M', L', yY, yA, yR, yP)) →
      wY_copyPart_3 post (nI s) (nI st) (nI n) (d + 1) (nI i) y1 y2 y3 y4 y5 yn ym yh yc yd (nI o) (nI (min l.length 33)) yk ye yp yq yr ys M L yY yA yR yP := by
  intro d
  induction d with
  | zero =>
    intro i M L l hi h hsrc hlen k
    have e : l ++ hk_fm (fun q => [hk_c src q]) (st + i) 0 = l := List.append_nil l
    rw [e] at k
    exact br_t (nI_le (by omega) (by omega)) (k M L h hk_fr_r)
  | succ d ih =>
    intro i M L l hi h hsrc hlen k
    rw [hk_fm_l, ← List.append_assoc] at k
    refine br_f (nI_ge (by omega) (by omega)) (br_f (nI_ge (b := 32) (by omega) (by omega)) ?_)
    refine ya_nd (p := st + i) hsrc hs (by omega) (by omega) ?_ (nI_add _ _)
    refine ya_emit (c := hk_c src (st + i)) ho h (by omega) rfl (fun M1 L1 h1 f1 => ?_)
    refine nm_r (nI_1 _) ?_
    exact ih (i + 1) M1 L1 (l ++ [hk_c src (st + i)]) (by omega) h1 (hk_fr_hy f1 hso hsrc) (by rw [hk_len1]; omega) (fun M2 L2 h2 f2 => k M2 L2 h2 (hk_fr_t f1 f2))
theorem ya_part {post : SY → Prop} {o s st n : Nat} {src l : List Nat} {y : Int32} (ho : o < 110) (hs : s < 110) (hso : s ≠ o) (hn : st + n ≤ src.length) (hl : src.length ≤ 32) (h : hk_hy yM yL o l) (hsrc : hk_hy yM yL s src) (hlen : l.length < 90000) (hy : y = nI n)
    (k : ∀ M L : Nat → Int32, hk_hy M L o (l ++ hk_fm (fun q => [hk_c src q]) st n) → hk_fr (fun s => s = o) yM yL M L → post (y1, y2, y3, y4, y5, yn, ym, yh, yc, yd, nI o, nI (min (l ++ hk_fm (fun q => [hk_c src q]) st n).length 33), yk, ye, yp, yq, yr, ys, M, L, yY, yA, yR, yP)) : wpY_copyPart post (y1, y2, y3, y4, y5, yn, ym, yh, yc, yd, nI o, nI (min l.length 33), yk, ye, yp, yq, yr, ys, yM, yL, yY, yA, yR, yP) (nI s) (nI st) y := by
  subst hy
  exact ⟨_, ya_part_l ho hs hso hn hl n 0 yM yL l (by omega) h hsrc (by omega) k⟩
theorem ya_all {post : SY → Prop} {o s : Nat} {src l : List Nat} {y : Int32} (ho : o < 110) (hs : s < 110) (hso : s ≠ o) (hl : src.length ≤ 32) (h : hk_hy yM yL o l) (hsrc : hk_hy yM yL s src) (hlen : l.length < 90000) (hy : y = nI src.length)
    (k : ∀ M L : Nat → Int32, hk_hy M L o (l ++ src) → hk_fr (fun s => s = o) yM yL M L → post (y1, y2, y3, y4, y5, yn, ym, yh, yc, yd, nI o, nI (min (l ++ src).length 33), yk, ye, yp, yq, yr, ys, M, L, yY, yA, yR, yP)) : wpY_copyPart post (y1, y2, y3, y4, y5, yn, ym, yh, yc, yd, nI o, nI (min l.length 33), yk, ye, yp, yq, yr, ys, yM, yL, yY, yA, yR, yP) (nI s) 0 y := by
  refine ya_part (st := 0) ho hs hso (by omega) hl h hsrc hlen hy ?_
  rw [hk_fm_all]
  exact k
theorem ya_head {post : SY → Prop} {o a : Nat} {y : Int32} (ho : o < 110) (h : hk_hy yM yL o []) (hy : y = nI a)
    (k : ∀ M L : Nat → Int32, hk_hy M L o [196608, 196608, 131072 + a] → hk_fr (fun s => s = o) yM yL M L → post (y1, y2, y3, y4, y5, yn, ym, yh, yc, yd, nI o, nI (min [196608, 196608, 131072 + a].length 33), yk, ye, yp, yq, yr, ys, M, L, yY, yA, yR, yP)) : wpY_emitEqHead post (y1, y2, y3, y4, y5, yn, ym, yh, yc, yd, nI o, nI (min ([] : List Nat).length 33), yk, ye, yp, yq, yr, ys, yM, yL, yY, yA, yR, yP) y := by
  subst hy
  refine ya_emit (c := 196608) (l := []) ho h (by decide) rfl (fun M1 L1 h1 f1 => ?_)
  refine ya_emit (c := 196608) (l := [196608]) ho h1 (by decide) rfl (fun M2 L2 h2 f2 => ?_)
  refine ya_emit (c := 131072 + a) (l := [196608, 196608]) ho h2 (by decide) (nI_add 131072 a) (fun M3 L3 h3 f3 => ?_)
  exact k M3 L3 h3 (hk_fr_t (hk_fr_t f1 f2) f3)
/-! abstraction, substitution, contraction -/
theorem ya_abs_l {post : SY → Prop} {o s st n vc m : Nat} {l : List Nat} (ho : o < 110) (hs : s < 110) (hso : s ≠ o) (g : hk_gt m l) (hn : st + n ≤ l.length) (hvc : vc < 524288) :
    ∀ (d i : Nat) (M L : Nat → Int32) (l0 : List Nat), i + d = n → hk_hy M L o l0 → hk_hy M L s l → l0.length + d < 100000 →
      (∀ M' L' : Nat → Int32, hk_hy M' L' o (l0 ++ hk_fm (fun q => [hk_ab1 l st vc q]) (st + i) d) → hk_fr (fun s => s = o) M L M' L' → post (y1, y2, y3, y4, y5, yn, ym, yh, yc, yd, nI o, nI (min (l0 ++ hk_fm (fun q => [hk_ab1 l st vc q]) (st + i) d).length 33), yk, ye, yp, yq, yr, ys, M', L', yY, yA, yR, yP)) →
      wY_absEmit_3 post (nI vc) (nI s) (nI st) (nI n) (d + 1) (nI i) y1 y2 y3 y4 y5 yn ym yh yc yd (nI o) (nI (min l0.length 33)) yk ye yp yq yr ys M L yY yA yR yP := by
  have hl := g.2.1
  intro d
  induction d with
  | zero =>
    intro i M L l0 hi h hsrc hlen k
    have e : l0 ++ hk_fm (fun q => [hk_ab1 l st vc q]) (st + i) 0 = l0 := List.append_nil l0
    rw [e] at k
    exact br_t (nI_le (by omega) (by omega)) (k M L h hk_fr_r)
  | succ d ih =>
    intro i M L l0 hi h hsrc hlen k
    have pl : st + i < l.length := by omega
    have xc := (hk_gt_c g pl).1
    rw [hk_fm_l, ← List.append_assoc] at k
    have go : ∀ (P : SY → Prop) (y : Int32), y = nI (hk_ab1 l st vc (st + i)) → (∀ M1 L1 : Nat → Int32, wY_absEmit_3 post (nI vc) (nI s) (nI st) (nI n) (d + 1) (nI (i + 1)) y1 y2 y3 y4 y5 yn ym yh yc yd (nI o) (nI (min (l0 ++ [hk_ab1 l st vc (st + i)]).length 33)) yk ye yp yq yr ys M1 L1 yY yA yR yP → P (y1, y2, y3, y4, y5, yn, ym, yh, yc, yd, nI o, nI (min (l0 ++ [hk_ab1 l st vc (st + i)]).length 33), yk, ye, yp, yq, yr, ys, M1, L1, yY, yA, yR, yP)) →
        wpY_emit P (y1, y2, y3, y4, y5, yn, ym, yh, yc, yd, nI o, nI (min l0.length 33), yk, ye, yp, yq, yr, ys, M, L, yY, yA, yR, yP) y := by
      intro P y hy hP
      exact ya_emit (c := hk_ab1 l st vc (st + i)) ho h (by omega) hy (fun M1 L1 h1 f1 => hP M1 L1 (ih (i + 1) M1 L1 (l0 ++ [hk_ab1 l st vc (st + i)]) (by omega) h1 (hk_fr_hy f1 hso hsrc) (by rw [hk_len1]; omega) (fun M2 L2 h2 f2 => k M2 L2 h2 (hk_fr_t f1 f2))))
    refine br_f (nI_ge (by omega) (by omega)) (br_f (nI_ge (b := 32) (by omega) (by omega)) ?_)
    refine ya_nd (p := st + i) hsrc hs pl (by omega) ?_ (nI_add _ _)
    refine pk_eq (hk_c l (st + i)) vc (fun e => ?_) (fun e => ?_)
    · refine ya_depth (st := st) (p := st + i) hsrc hs g (by omega) pl ⟨by decide, ?_⟩ (nI_add _ _)
      refine go _ _ ?_ (fun M1 L1 q => nm_r (nI_1 _) q)
      unfold hk_ab1
      rw [if_pos e, hk_tyn hvc, show (256 : Int32) = nI 256 from rfl, show (327680 : Int32) = nI 327680 from rfl, pk_mul, nI_add, nI_add]
    · refine go _ _ ?_ (fun M1 L1 q => nm_r (nI_1 _) q)
      unfold hk_ab1
      rw [if_neg e]
theorem ya_abs {post : SY → Prop} {o s st n vc m : Nat} {l l0 : List Nat} {y : Int32} (ho : o < 110) (hs : s < 110) (hso : s ≠ o) (g : hk_gt m l) (hn : st + n ≤ l.length) (hvc : vc < 524288) (h : hk_hy yM yL o l0) (hsrc : hk_hy yM yL s l) (hlen : l0.length < 90000) (hy : y = nI n)
    (k : ∀ M L : Nat → Int32, hk_hy M L o (l0 ++ hk_fm (fun q => [hk_ab1 l st vc q]) st n) → hk_fr (fun s => s = o) yM yL M L → post (y1, y2, y3, y4, y5, yn, ym, yh, yc, yd, nI o, nI (min (l0 ++ hk_fm (fun q => [hk_ab1 l st vc q]) st n).length 33), yk, ye, yp, yq, yr, ys, M, L, yY, yA, yR, yP)) : wpY_absEmit post (y1, y2, y3, y4, y5, yn, ym, yh, yc, yd, nI o, nI (min l0.length 33), yk, ye, yp, yq, yr, ys, yM, yL, yY, yA, yR, yP) (nI vc) (nI s) (nI st) y := by
  subst hy
  have hl := g.2.1
  exact ⟨_, ya_abs_l ho hs hso g hn hvc n 0 yM yL l0 (by omega) h hsrc (by omega) k⟩
theorem ya_sub_l {post : SY → Prop} {o s t vc m : Nat} {l u : List Nat} (ho : o < 110) (hs : s < 110) (ht : t < 110) (hso : s ≠ o) (hto : t ≠ o) (g : hk_gt m l) (gu : hk_gt m u) (hvc : vc < 524288) :
    ∀ (d p : Nat) (M L : Nat → Int32) (l0 : List Nat), p + d = l.length → hk_hy M L o l0 → hk_hy M L s l → hk_hy M L t u → l0.length + d * 32 < 80000 →
      (∀ M' L' : Nat → Int32, hk_hy M' L' o (l0 ++ hk_fm (fun q => if hk_c l q = vc then u else [hk_c l q]) p d) → hk_fr (fun s => s = o) M L M' L' → post (y1, y2, y3, y4, y5, yn, ym, yh, yc, yd, nI o, nI (min (l0 ++ hk_fm (fun q => if hk_c l q = vc then u else [hk_c l q]) p d).length 33), yk, ye, yp, yq, yr, ys, M', L', yY, yA, yR, yP)) →
      wY_substEmit_3 post (nI s) (nI vc) (nI t) (d + 1) (nI p) y1 y2 y3 y4 y5 yn ym yh yc yd (nI o) (nI (min l0.length 33)) yk ye yp yq yr ys M L yY yA yR yP := by
  have hl := g.2.1
  have hul := gu.2.1
  intro d
  induction d with
  | zero =>
    intro p M L l0 hp h hsrc hu hlen k
    have e : l0 ++ hk_fm (fun q => if hk_c l q = vc then u else [hk_c l q]) p 0 = l0 := List.append_nil l0
    rw [e] at k
    refine ⟨vp_in_nI hs (by omega), ?_⟩
    rw [hk_szy hsrc hs hl]
    exact br_t (nI_le (by omega) (by omega)) (k M L h hk_fr_r)
  | succ d ih =>
    intro p M L l0 hp h hsrc hu hlen k
    have pl : p < l.length := by omega
    have xc := (hk_gt_c g pl).1
    rw [hk_fm_l, ← List.append_assoc] at k
    refine ⟨vp_in_nI hs (by omega), ?_⟩
    rw [hk_szy hsrc hs hl]
    refine br_f (nI_ge (by omega) (by omega)) (br_f (nI_ge (b := 32) (by omega) (by omega)) ?_)
    refine ya_nd hsrc hs pl (by omega) ?_
    refine pk_eq (hk_c l p) vc (fun e => ⟨vp_in_nI ht (by omega), ?_⟩) (fun e => ?_)
    · rw [if_pos e] at k
      refine ya_all ho ht hto hul h hu (by omega) (hk_szy hu ht hul) (fun M1 L1 h1 f1 => ?_)
      refine nm_r (nI_1 _) ?_
      exact ih (p + 1) M1 L1 (l0 ++ u) (by omega) h1 (hk_fr_hy f1 hso hsrc) (hk_fr_hy f1 hto hu) (by rw [List.length_append]; omega) (fun M2 L2 h2 f2 => k M2 L2 h2 (hk_fr_t f1 f2))
    · rw [if_neg e] at k
      refine ya_emit (c := hk_c l p) ho h (by omega) rfl (fun M1 L1 h1 f1 => ?_)
      refine nm_r (nI_1 _) ?_
      exact ih (p + 1) M1 L1 (l0 ++ [hk_c l p]) (by omega) h1 (hk_fr_hy f1 hso hsrc) (hk_fr_hy f1 hto hu) (by rw [hk_len1]; omega) (fun M2 L2 h2 f2 => k M2 L2 h2 (hk_fr_t f1 f2))
theorem ya_sub {post : SY → Prop} {o s t vc m : Nat} {l u : List Nat} (ho : o < 110) (hs : s < 110) (ht : t < 110) (hso : s ≠ o) (hto : t ≠ o) (g : hk_gt m l) (gu : hk_gt m u) (hvc : vc < 524288) (h : hk_hy yM yL o []) (hsrc : hk_hy yM yL s l) (hu : hk_hy yM yL t u)
    (k : ∀ M L : Nat → Int32, hk_hy M L o (hk_sb l vc u) → hk_fr (fun s => s = o) yM yL M L → post (y1, y2, y3, y4, y5, yn, ym, yh, yc, yd, nI o, nI (min (hk_sb l vc u).length 33), yk, ye, yp, yq, yr, ys, M, L, yY, yA, yR, yP)) : wpY_substEmit post (y1, y2, y3, y4, y5, yn, ym, yh, yc, yd, nI o, nI (min ([] : List Nat).length 33), yk, ye, yp, yq, yr, ys, yM, yL, yY, yA, yR, yP) (nI s) (nI vc) (nI t) := by
  have hl := g.2.1
  exact ⟨_, ya_sub_l ho hs ht hso hto g gu hvc l.length 0 yM yL [] (by omega) h hsrc hu (by show 0 + l.length * 32 < 80000; omega) k⟩
theorem ya_lift_l {post : SY → Prop} {o s st n kk m : Nat} {l : List Nat} (ho : o < 110) (hs : s < 110) (hso : s ≠ o) (g : hk_gt m l) (hn : st + n ≤ l.length) (hk : kk ≤ 32) :
    ∀ (d i : Nat) (M L : Nat → Int32) (l0 : List Nat), i + d = n → hk_hy M L o l0 → hk_hy M L s l → l0.length + d < 100000 →
      (∀ M' L' : Nat → Int32, hk_hy M' L' o (l0 ++ hk_fm (fun q => [hk_lf l st kk q]) (st + i) d) → hk_fr (fun s => s = o) M L M' L' → post (y1, y2, y3, y4, y5, yn, ym, yh, yc, yd, nI o, nI (min (l0 ++ hk_fm (fun q => [hk_lf l st kk q]) (st + i) d).length 33), yk, ye, yp, yq, yr, ys, M', L', yY, yA, yR, yP)) →
      wY_shiftEmit_3 post (nI s) (nI st) (nI n) (nI kk) (d + 1) (nI i) y1 y2 y3 y4 y5 yn ym yh yc yd (nI o) (nI (min l0.length 33)) yk ye yp yq yr ys M L yY yA yR yP := by
  have hl := g.2.1
  intro d
  induction d with
  | zero =>
    intro i M L l0 hi h hsrc hlen k
    have e : l0 ++ hk_fm (fun q => [hk_lf l st kk q]) (st + i) 0 = l0 := List.append_nil l0
    rw [e] at k
    exact br_t (nI_le (by omega) (by omega)) (k M L h hk_fr_r)
  | succ d ih =>
    intro i M L l0 hi h hsrc hlen k
    have pl : st + i < l.length := by omega
    have xc := (hk_gt_c g pl).1
    have hd := hk_dp_le l st (st + i)
    rw [hk_fm_l, ← List.append_assoc] at k
    have go : ∀ y : Int32, y = nI (hk_lf l st kk (st + i)) → wY_shiftEmit_74 post (wY_shiftEmit_3 post (nI s) (nI st) (nI n) (nI kk) (d + 1)) (nI s) (nI st) (nI n) (nI kk) (nI i) y y1 y2 y3 y4 y5 yn ym yh yc yd (nI o) (nI (min l0.length 33)) yk ye yp yq yr ys M L yY yA yR yP := by
      intro y hy
      refine ya_emit (c := hk_lf l st kk (st + i)) ho h (by omega) hy (fun M1 L1 h1 f1 => ?_)
      refine nm_r (nI_1 _) ?_
      exact ih (i + 1) M1 L1 (l0 ++ [hk_lf l st kk (st + i)]) (by omega) h1 (hk_fr_hy f1 hso hsrc) (by rw [hk_len1]; omega) (fun M2 L2 h2 f2 => k M2 L2 h2 (hk_fr_t f1 f2))
    refine br_f (nI_ge (by omega) (by omega)) (br_f (nI_ge (b := 32) (by omega) (by omega)) ?_)
    refine ya_nd (p := st + i) hsrc hs pl (by omega) ⟨by decide, ?_⟩ (nI_add _ _)
    rw [hk_kd xc]
    refine pk_eq (hk_c l (st + i) / 65536) 5 (fun e => ?_) (fun e => go _ ?_)
    · refine ya_depth (st := st) (p := st + i) hsrc hs g (by omega) pl ⟨by decide, by decide, ?_⟩ (nI_add _ _)
      rw [hk_ixn xc]
      refine pk_lt (hk_c l (st + i) / 256 % 256) (hk_dp l st (st + i)) (fun z => go _ ?_) (fun z => nm_e (go _ ?_))
      · unfold hk_lf
        rw [if_neg (fun y => by omega)]
      · unfold hk_lf
        rw [if_pos ⟨e, z⟩, show (256 : Int32) = nI 256 from rfl, pk_mul, nI_add]
    · unfold hk_lf
      rw [if_neg (fun y => e y.1)]
theorem ya_con_l {post : SY → Prop} {o s b a r m : Nat} {l : List Nat} (ho : o < 110) (hs : s < 110) (hso : s ≠ o) (g : hk_gt m l) (hb : b ≤ a) (ha : a ≤ r) (hr : r ≤ l.length) :
    ∀ (d i : Nat) (M L : Nat → Int32) (l0 : List Nat), b + i + d = a → hk_hy M L o l0 → hk_hy M L s l → l0.length + d * 32 < 80000 →
      (∀ M' L' : Nat → Int32, hk_hy M' L' o (l0 ++ hk_fm (hk_cb l b a r) (b + i) d ++ hk_fm (fun q => [hk_c l q]) r (l.length - r)) → hk_fr (fun s => s = o) M L M' L' → post (y1, y2, y3, y4, y5, yn, ym, yh, yc, yd, nI o, nI (min (l0 ++ hk_fm (hk_cb l b a r) (b + i) d ++ hk_fm (fun q => [hk_c l q]) r (l.length - r)).length 33), yk, ye, yp, yq, yr, ys, M', L', yY, yA, yR, yP)) →
      wY_contractEmit_47 post (nI s) (nI l.length) (nI b) (nI (a - b)) (nI a) (nI (r - a)) (nI r) (d + 1) (nI i) y1 y2 y3 y4 y5 yn ym yh yc yd (nI o) (nI (min l0.length 33)) yk ye yp yq yr ys M L yY yA yR yP := by
  have hl := g.2.1
  intro d
  induction d with
  | zero =>
    intro i M L l0 hi h hsrc hlen k
    have e : l0 ++ hk_fm (hk_cb l b a r) (b + i) 0 = l0 := List.append_nil l0
    rw [e] at k
    refine br_t (nI_le (by omega) (by omega)) ?_
    exact ya_part (n := l.length - r) ho hs hso (by omega) hl h hsrc (by omega) (pk_sub hr) k
  | succ d ih =>
    intro i M L l0 hi h hsrc hlen k
    have pl : b + i < l.length := by omega
    have xc := (hk_gt_c g pl).1
    have hd := hk_dp_le l b (b + i)
    rw [hk_fm_l, ← List.append_assoc] at k
    have next : ∀ (M1 L1 : Nat → Int32) (w : List Nat), hk_cb l b a r (b + i) = w → w.length ≤ 32 → hk_hy M1 L1 o (l0 ++ w) → hk_fr (fun s => s = o) M L M1 L1 → wY_contractEmit_47 post (nI s) (nI l.length) (nI b) (nI (a - b)) (nI a) (nI (r - a)) (nI r) (d + 1) (nI (i + 1)) y1 y2 y3 y4 y5 yn ym yh yc yd (nI o) (nI (min (l0 ++ w).length 33)) yk ye yp yq yr ys M1 L1 yY yA yR yP := by
      intro M1 L1 w ew hw h1 f1
      rw [ew] at k
      exact ih (i + 1) M1 L1 (l0 ++ w) (by omega) h1 (hk_fr_hy f1 hso hsrc) (by rw [List.length_append]; omega) (fun M2 L2 h2 f2 => k M2 L2 h2 (hk_fr_t f1 f2))
    have one : ∀ (P : SY → Prop) (y : Int32) (c : Nat), (∀ M1 L1 : Nat → Int32, wY_contractEmit_47 post (nI s) (nI l.length) (nI b) (nI (a - b)) (nI a) (nI (r - a)) (nI r) (d + 1) (nI (i + 1)) y1 y2 y3 y4 y5 yn ym yh yc yd (nI o) (nI (min (l0 ++ [c]).length 33)) yk ye yp yq yr ys M1 L1 yY yA yR yP → P (y1, y2, y3, y4, y5, yn, ym, yh, yc, yd, nI o, nI (min (l0 ++ [c]).length 33), yk, ye, yp, yq, yr, ys, M1, L1, yY, yA, yR, yP)) → y = nI c → hk_cb l b a r (b + i) = [c] →
        wpY_emit P (y1, y2, y3, y4, y5, yn, ym, yh, yc, yd, nI o, nI (min l0.length 33), yk, ye, yp, yq, yr, ys, M, L, yY, yA, yR, yP) y := by
      intro P y c hP hy ew
      exact ya_emit (c := c) ho h (by omega) hy (fun M1 L1 h1 f1 => hP M1 L1 (next M1 L1 [c] ew (by show 1 ≤ 32; decide) h1 f1))
    refine br_f (nI_ge (by omega) (by omega)) (br_f (nI_ge (b := 32) (by omega) (by omega)) ?_)
    refine ya_nd (p := b + i) hsrc hs pl (by omega) ⟨by decide, ?_⟩ (nI_add _ _)
    rw [hk_kd xc]
    refine pk_eq (hk_c l (b + i) / 65536) 5 (fun e => ?_) (fun e => ?_)
    · refine ya_depth (st := b) (p := b + i) hsrc hs g (by omega) pl ⟨by decide, by decide, nm_r (hk_ixn xc) ?_⟩ (nI_add _ _)
      refine pk_le (hk_dp l b (b + i)) (hk_c l (b + i) / 256 % 256) (fun z => ?_) (fun z => ?_)
      · refine pk_eq (hk_c l (b + i) / 256 % 256) (hk_dp l b (b + i)) (fun e2 => ⟨r - a + 1, ?_⟩) (fun e2 => ?_)
        · refine ya_lift_l ho hs hso g (by omega) (by omega) (r - a) 0 M L l0 (by omega) h hsrc (by omega) (fun M1 L1 h1 f1 => ?_)
          refine nm_r (nI_1 _) (next M1 L1 _ ?_ ?_ h1 f1)
          · unfold hk_cb; rw [if_pos ⟨e, e2⟩]; rfl
          · rw [hk_fm_len]; omega
        · exact one _ _ (hk_c l (b + i) - 256) (fun M1 L1 q => nm_r (nI_1 _) q) (pk_sub (b := 256) (by omega)) (by unfold hk_cb; rw [if_neg (fun y => e2 y.2), if_pos ⟨e, by omega⟩])
      · exact one _ _ _ (fun M1 L1 q => nm_r (nI_1 _) q) rfl (by unfold hk_cb; rw [if_neg (fun y => by omega), if_neg (fun y => by omega)])
    · exact one _ _ _ (fun M1 L1 q => nm_r (nI_1 _) q) rfl (by unfold hk_cb; rw [if_neg (fun y => e y.1), if_neg (fun y => e y.1)])
theorem ya_contract {post : SY → Prop} {o s r m : Nat} {l : List Nat} {y : Int32} (ho : o < 110) (hs : s < 110) (hso : s ≠ o) (g : hk_gt m l) (hr : hk_rx l r) (h : hk_hy yM yL o []) (hsrc : hk_hy yM yL s l) (hy : y = nI l.length)
    (k : ∀ M L : Nat → Int32, hk_hy M L o (hk_con l r) → hk_fr (fun s => s = o) yM yL M L → post (y1, y2, y3, y4, y5, yn, ym, yh, yc, yd, nI o, nI (min (hk_con l r).length 33), yk, ye, yp, yq, yr, ys, M, L, yY, yA, yR, yP)) : wpY_contractEmit post (y1, y2, y3, y4, y5, yn, ym, yh, yc, yd, nI o, nI (min ([] : List Nat).length 33), yk, ye, yp, yq, yr, ys, yM, yL, yY, yA, yR, yP) (nI s) (nI r) y := by
  subst hy
  have hl := g.2.1
  have hc : ∀ c, c ∈ l → c < 524288 := fun c hc => (g.2.2 c hc).1
  obtain ⟨n, t1, t2, t3, t4, o1, o2, s1, s2⟩ := hk_rx_at g.1 hr
  have w2 := hk_at_lt t2
  have w3 := hk_at_lt t3
  have w4 := t4.1
  have e2 : nI r + 2 = nI (r + 2) := nI_add r 2
  refine nm_r e2 ?_
  refine ya_span hsrc hs hl hc t2 ?_
  refine nm_r (e' := nI (hk_e l (r + 2))) (by rw [nI_add, show r + 2 + (hk_e l (r + 2) - (r + 2)) = hk_e l (r + 2) by omega]) ?_
  refine ya_span hsrc hs hl hc t3 ?_
  refine nm_r (e' := nI (hk_e l (hk_e l (r + 2)))) (by rw [nI_add, show hk_e l (r + 2) + (hk_e l (hk_e l (r + 2)) - hk_e l (r + 2)) = hk_e l (hk_e l (r + 2)) by omega]) ?_
  refine ya_part (st := 0) (n := r) ho hs hso (by omega) hl h hsrc (by decide) rfl (fun M1 L1 h1 f1 => ⟨hk_e l (r + 2) - (r + 2) + 1, ?_⟩)
  rw [List.nil_append] at h1 ⊢
  refine ya_con_l (b := r + 2) (a := hk_e l (r + 2)) (r := hk_e l (hk_e l (r + 2))) ho hs hso g (by omega) (by omega) w4 (hk_e l (r + 2) - (r + 2)) 0 M1 L1 _ (by omega) h1 (hk_fr_hy f1 hso hsrc) (by rw [hk_fm_len]; omega) (fun M2 L2 h2 f2 => ?_)
  exact k M2 L2 h2 (hk_fr_t f1 f2)
end
