/-! the reference's rules, continued: ABS, INST -/
section
variable {y1 y2 y3 y4 y5 yn ym yh yc yd yw yl yk ye yp yq yr ys : Int32} {yM yL yY yA yR yP : Nat → Int32} {T : hk_T} {nM nH cM cH : Nat} {TY HC : Nat → Nat} {G : Nat → List Nat}
/-- the types fit: the equation of the abstractions -/
theorem yr_abs157 {post : Int32 → SY → Prop} {a vc t z : Nat} {la : List Nat} {HA : List (List Nat)} (hb : hk_tb T yA yR) (i1 : hk_ti T) (hH : nH < 16) (ha : a < nH) (ea : hk_ise la) (gcA : hk_gt T.1 la) (cA : hk_hy yM yL (32 + a * 4) la) (lA : HA.length ≤ 3) (gA : ∀ y, y ∈ HA → hk_gt T.1 y) (pA : yP a = nI HA.length) (sA : hk_hs (hk_hy yM yL) (32 + a * 4 + 1) HA)
    (dT : vc % 256 < T.1) (hvc : vc < 524288) (hv : vc / 65536 = 1) (hl : la.length + 2 ≤ 32) (hz : T.1 + z ≤ 48) (ht : (hk_it T (vc % 256) (hk_c la 2 % 256)).1 = some t) (hx : hk_xa T (vc % 256) (hk_c la 2 % 256) = (some t, (hk_ie (hk_it T (vc % 256) (hk_c la 2 % 256)).2 t).2)) (hne : (hk_it (hk_it T (vc % 256) (hk_c la 2 % 256)).2 t 0).1 ≠ none)
    (k1 : yr_K post T nM nH y1 y2 y3 y4 y5 yc yd yM yL yY yP (some (vl_abs t vc la, hk_un [] HA, (hk_xa T (vc % 256) (hk_c la 2 % 256)).2))) :
    wY_ruleAbs_157 post (nI a) (nI vc) (nI (32 + a * 4)) (nI (vc % 256)) (nI z) y1 y2 y3 y4 y5 (nI T.1) (nI nM) (nI nH) yc yd yw yl (nI 0) (nI (hk_c la 2 % 256)) 3 (nI (hk_e la 3 - 3)) (nI (hk_e la 3)) (nI (la.length - hk_e la 3)) yM yL yY yA yR yP := by
  obtain ⟨t1, t2, t3, t4, t5, t6, t7⟩ := hk_ise_at gcA.1 ea
  obtain ⟨-, -, -, -, sT, sT2, -, -⟩ := hk_ise_sides gcA ea
  have hn := i1.2.1
  have la32 := gcA.2.1
  obtain ⟨j1, j2, j3, j4⟩ := hk_it_ok (d := vc % 256) (c := hk_c la 2 % 256) i1 dT sT
  have tT := (j4 t ht).2
  have tT48 := j1.2.1
  have lU : (hk_un [] HA).length ≤ 0 + HA.length := (hk_un_len (ts := HA) (S := [])).2
  have e2 : (hk_xa T (vc % 256) (hk_c la 2 % 256)).2 = (hk_ie (hk_it T (vc % 256) (hk_c la 2 % 256)).2 t).2 := by rw [hx]
  rw [e2] at k1
  have gv := vg_abs (n := 48) (c := t) (Nat.le_refl _) (by omega) hv (hk_gt_mono gcA hn) ea hl
  have ez : nI T.1 + nI z = nI (T.1 + z) := nI_add _ _
  refine br_t (by rw [ez]; exact nI_le (b := 48) hz (by omega)) ?_
  refine ya_intern hb i1 dT sT (fun A R hb' => ?_)
  rw [ht]
  refine ya_internEq hb' j1 tT hne (fun A2 R2 hb2 => ?_)
  refine ya_begin (o := 96) (by omega) (fun L1 q1 f1 => ?_)
  refine ya_head (a := t) (by omega) q1 rfl (fun M2 L2 q2 f2 => ?_)
  have f12 := hk_fr_t f1 f2
  refine ya_emit (c := 262144 + vc % 256) (by omega) q2 (by simp) (nI_add 262144 _) (fun M3 L3 q3 f3 => ?_)
  have f13 := hk_fr_t f12 f3
  refine ya_abs (st := 3) (n := hk_e la 3 - 3) (by omega) (by omega) (by omega) gcA (by omega) hvc q3 (hk_fr_hy f13 (by omega) cA) (by simp) rfl (fun M4 L4 q4 f4 => ?_)
  have f14 := hk_fr_t f13 f4
  have n4 : ([196608, 196608, 131072 + t] ++ [262144 + vc % 256] ++ hk_fm (fun q => [hk_ab1 la 3 vc q]) 3 (hk_e la 3 - 3)).length = 4 + (hk_e la 3 - 3) := by
    rw [List.length_append, hk_fm_len]; rfl
  refine ya_emit (c := 262144 + vc % 256) (by omega) q4 (by omega) (nI_add 262144 _) (fun M5 L5 q5 f5 => ?_)
  have f15 := hk_fr_t f14 f5
  refine ya_abs (st := hk_e la 3) (n := la.length - hk_e la 3) (by omega) (by omega) (by omega) gcA (by omega) hvc q5 (hk_fr_hy f15 (by omega) cA) (by rw [List.length_append, n4]; show 4 + (hk_e la 3 - 3) + 1 < 90000; omega) rfl (fun M6 L6 q6 f6 => ?_)
  have FF := hk_fr_t f15 f6
  have el : [196608, 196608, 131072 + t] ++ [262144 + vc % 256] ++ hk_fm (fun q => [hk_ab1 la 3 vc q]) 3 (hk_e la 3 - 3) ++ [262144 + vc % 256] ++ hk_fm (fun q => [hk_ab1 la (hk_e la 3) vc q]) (hk_e la 3) (la.length - hk_e la 3) = vl_abs t vc la := by
    unfold vl_abs hk_abl
    simp
  have QQ : hk_hy M6 L6 96 (vl_abs t vc la) := by rw [← el]; exact q6
  have FG := hk_fr_w (V := fun s => 32 + nH * 4 ≤ s) FF (fun s e => by have e : s = 96 := e; omega)
  refine ya_add (C := []) (wf := fun _ => true) (n := T.1) (by omega) lA gA pA (ya_hs_fr FF sA (fun i hi => by omega)) (Or.inl ⟨rfl, fun _ => rfl⟩) (fun i hi => absurd hi (Nat.not_lt_zero i)) (by decide) ?_
  rw [hk_ft, List.nil_append]
  intro M7 L7 w7 wl7 h7 f7
  have F7 := hk_fr_t FG (hk_fr_w (V := fun s => 32 + nH * 4 ≤ s) f7 (fun s e => by have e : 100 ≤ s ∧ s < 108 := e; omega))
  have q7 := hk_fr_hy f7 (s := 96) (by omega) QQ
  refine ya_merge (by omega) gA h7 (fun h3 M8 L8 w8 wl8 h8 f8 => ?_) (fun h3 M8 L8 w8 wl8 f8 => by omega)
  refine ya_commit (by omega) gv.2.1 h3 (fun y hy => (hk_un_gt hk_nilm gA y hy).2.1) (hk_fr_hy f8 (by omega) q7) h8 rfl (fun M9 L9 w9 wl9 h9 h10 f9 => ?_)
  exact k1 A2 R2 M9 L9 w9 wl9 _ _ _ _ _ _ hb2 h9 h10 (hk_fr_t (hk_fr_t F7 (hk_fr_w f8 (fun s e => by have e : 97 ≤ s ∧ s < 100 := e; omega))) (hk_fr_w f9 (fun s e => e.1)))
theorem yr_abs_l {post : Int32 → SY → Prop} {a vc n : Nat} {A : List (List Nat)} (ha : a < 16) (hvc : vc < 524288) (lA : A.length ≤ 3) (gA : ∀ y, y ∈ A → hk_gt n y) (pA : yP a = nI A.length) (sA : hk_hs (hk_hy yM yL) (32 + a * 4 + 1) A) :
    ∀ (d i : Nat), i + d = A.length → ((∀ h, h ∈ A.drop i → ¬ vc ∈ h) → wY_ruleAbs_88 post (nI a) (nI vc) y1 y2 y3 y4 y5 yn ym yh yc yd yw yl yk ye yp yq yr ys yM yL yY yA yR yP) → (¬ (∀ h, h ∈ A.drop i → ¬ vc ∈ h) → post (-1) (y1, y2, y3, y4, y5, yn, ym, yh, yc, yd, yw, yl, yk, ye, yp, yq, yr, ys, yM, yL, yY, yA, yR, yP)) → wY_ruleAbs_48 post (nI a) (nI vc) y1 y2 y3 y4 y5 yn ym yh yc yd yw yl yk ye yp yq yr ys yM yL yY yA yR yP (d + 1) (nI (i + 1)) := by
  intro d
  induction d with
  | zero =>
    intro i hi k1 k0
    refine ⟨vp_in_nI ha (by omega), ?_⟩
    rw [nI_clamp (by omega), pA]
    refine br_t (nI_lt (by omega) (by omega)) (k1 (fun h hh => ?_))
    rw [List.drop_of_length_le (by omega)] at hh
    exact absurd hh List.not_mem_nil
  | succ d ih =>
    intro i hi k1 k0
    have il : i < A.length := by omega
    rw [hk_gd_drop il] at k1 k0
    refine ⟨vp_in_nI ha (by omega), ?_⟩
    rw [nI_clamp (by omega), pA]
    refine br_f (nI_nlt (by omega) (by omega)) (br_f (nI_nlt (b := i + 1) (a := 3) (by omega) (by omega)) ?_)
    refine ya_slot a (i + 1) ?_
    rw [show 32 + a * 4 + (i + 1) = 32 + a * 4 + 1 + i by omega]
    refine ya_has (sA i il) (by omega) (gA _ (hk_ix_mem il)) hvc (fun z => br_f (by decide) (k0 (fun c => c _ List.mem_cons_self z))) (fun z => br_t rfl (nm_r (nI_1 _) ?_))
    refine ih (i + 1) (by omega) (fun q => k1 (fun h hh => ?_)) (fun q => k0 (fun c => q (fun h hh => c h (List.mem_cons_of_mem _ hh))))
    rcases List.mem_cons.mp hh with e | e
    · rw [e]; exact z
    · exact q h e
theorem yr_abs {post : Int32 → SY → Prop} {a v vc : Nat} {HA : List (List Nat)} (I : hk_I T nM TY nH HC G cM cH) (R : hk_R T nM TY nH HC G yA yR yY yP (hk_hy yM yL)) (hH : nH < cH) (ha : a < nH) (hv : v < nM) (eA : HA = hk_H G (32 + a * 4 + 1) (HC a)) (evc : vc = hk_c (G v) 0)
    (k1 : ∀ t, (hk_xa T (vc % 256) (hk_c (G (32 + a * 4)) 2 % 256)).1 = some t → vc_abs T (G (32 + a * 4)) HA vc → yr_K post T nM nH y1 y2 y3 y4 y5 yc yd yM yL yY yP (some (vl_abs t vc (G (32 + a * 4)), hk_un [] HA, (hk_xa T (vc % 256) (hk_c (G (32 + a * 4)) 2 % 256)).2)))
    (k0 : ¬ vc_abs T (G (32 + a * 4)) HA vc → yr_K post T nM nH y1 y2 y3 y4 y5 yc yd yM yL yY yP none) : wpY_ruleAbs post (y1, y2, y3, y4, y5, nI T.1, nI nM, nI nH, yc, yd, yw, yl, nI 0, ye, yp, yq, yr, ys, yM, yL, yY, yA, yR, yP) (nI a) (nI v) := by
  obtain ⟨sA, pA, cA⟩ := hk_R_hs R ha
  obtain ⟨lA, gA, gcA⟩ := hk_I_hs I ha
  have vI := hk_I_var I hv
  rw [← evc] at vI
  rw [← eA] at sA pA lA gA
  obtain ⟨i1, i2, i3, i4, i5, i6, i7⟩ := I
  obtain ⟨r1, r2, r3⟩ := R
  obtain ⟨tyv, gv, -⟩ := i6 v hv
  obtain ⟨eYv, ehv⟩ := r2 v hv
  generalize G (32 + a * 4) = la at *
  have la32 := gcA.2.1
  have hn := i1.2.1
  have lv := gv.2.1
  have hvc : vc < 524288 := by rw [evc]; exact (hk_gt_c gv (hk_gt_pos gv)).1
  have ref : ∀ (c : ¬ vc_abs T la HA vc), post (-1) (y1, y2, y3, y4, y5, nI T.1, nI nM, nI nH, yc, yd, yw, yl, nI 0, ye, yp, yq, yr, ys, yM, yL, yY, yA, yR, yP) := fun c => k0 c yA yR yM yL yw yl _ ye yp yq yr ys r1 hk_fr_r
  refine hk_ok1 (by omega) ha (br_f (by decide) ?_)
  refine hk_ok1 (by omega) hv (br_f (by decide) ?_)
  refine ya_nd (p := 0) ehv (by omega) (hk_gt_pos gv) (by omega) ⟨vp_in_nI (by omega) (by omega), ?_⟩
  try dsimp only
  rw [hk_szy ehv (by omega) lv, ← evc]
  refine pk_eq (G v).length 1 (fun el => ⟨by decide, ?_⟩) (fun el => ref (fun c => el ?_))
  rotate_left
  · have := (vI c.2.1).1
    rw [this]; rfl
  rw [hk_kd hvc]
  refine pk_eq (vc / 65536) 1 (fun ek => ⟨HA.length + 1, ?_⟩) (fun ek => ref (fun c => ek c.2.1))
  obtain ⟨v1, v2, v3⟩ := vI ek
  have dT : vc % 256 < T.1 := by rw [← v2]; exact tyv
  refine yr_abs_l (by omega) hvc lA gA pA sA HA.length 0 (by omega) (fun oc => ?_) (fun oc => ref (fun c => oc (by rw [List.drop_zero]; exact c.2.2.1)))
  rw [List.drop_zero] at oc
  refine ya_slot a 0 ?_
  rw [Nat.add_zero]
  refine ya_split cA (by omega) gcA (fun ea => br_f (by decide) ?_) (fun ea => br_t rfl (ref (fun c => ea c.1)))
  obtain ⟨t1, t2, t3, t4, t5, t6, t7⟩ := hk_ise_at gcA.1 ea
  obtain ⟨-, -, -, -, sT, sT2, -, -⟩ := hk_ise_sides gcA ea
  have e5 : (5 : Int32) + nI (hk_e la 3 - 3) + nI (la.length - hk_e la 3) = nI (la.length + 2) := by
    rw [show (5 : Int32) = nI 5 from rfl, nI_add, nI_add, show 5 + (hk_e la 3 - 3) + (la.length - hk_e la 3) = la.length + 2 by omega]
  rw [e5]
  have ref2 : ∀ (c : ¬ vc_abs T la HA vc), post (-1) (y1, y2, y3, y4, y5, nI T.1, nI nM, nI nH, yc, yd, yw, yl, nI 0, nI (hk_c la 2 % 256), 3, nI (hk_e la 3 - 3), nI (hk_e la 3), nI (la.length - hk_e la 3), yM, yL, yY, yA, yR, yP) := fun c => k0 c yA yR yM yL yw yl _ _ _ _ _ _ r1 hk_fr_r
  refine pk_le (la.length + 2) 32 (fun zl => ⟨by decide, nm_r (hk_tyn hvc) ?_⟩) (fun zl => ref2 (fun c => by have := c.2.2.2.1; omega))
  refine ya_find r1 i1 (by omega) (by omega) ?_
  cases hf : hk_find T (vc % 256) (hk_c la 2 % 256) with
  | none =>
    refine br_f hk_m1_nge ?_
    by_cases z3 : T.1 + 3 ≤ 48
    · obtain ⟨x1, x2, x3⟩ := hk_xa_n i1 dT sT hf z3
      have hx : (hk_xa T (vc % 256) (hk_c la 2 % 256)).1 = some T.1 := by rw [x2]
      exact yr_abs157 (z := 3) r1 i1 (by omega) ha ea gcA cA lA gA pA sA dT hvc ek zl z3 x1 x2 x3 (k1 T.1 hx ⟨ea, ek, oc, zl, T.1, hx⟩)
    · refine br_f (fun y => ?_) (ref2 (fun c => ?_))
      · have e3 : nI T.1 + 3 = nI (T.1 + 3) := nI_add T.1 3
        rw [e3] at y
        exact nI_ge (b := T.1 + 3) (a := 48) (by omega) (by omega) y
      · obtain ⟨t, h⟩ := c.2.2.2.2
        rw [hk_xa_nz hf z3] at h; cases h
  | some t =>
    have w := hk_find_in hf (by have := i1.1; omega)
    have nd2 := hk_nd_le T t
    refine br_t (hk_o_ge (by omega)) ?_
    refine ya_need (a := t) r1 i1 w.2 ?_
    by_cases z3 : T.1 + hk_nd T t ≤ 48
    · obtain ⟨x1, x2, x3⟩ := hk_xa_s i1 hf z3
      have hx : (hk_xa T (vc % 256) (hk_c la 2 % 256)).1 = some t := by rw [x2]
      have x1a : (hk_it T (vc % 256) (hk_c la 2 % 256)).1 = some t := by rw [x1]
      have x1b : (hk_it T (vc % 256) (hk_c la 2 % 256)).2 = T := by rw [x1]
      exact yr_abs157 (z := hk_nd T t) r1 i1 (by omega) ha ea gcA cA lA gA pA sA dT hvc ek zl z3 x1a (by rw [x1b]; exact x2) (by rw [x1b]; exact x3) (k1 t hx ⟨ea, ek, oc, zl, t, hx⟩)
    · refine br_f (fun y => ?_) (ref2 (fun c => ?_))
      · rw [nI_add] at y
        exact nI_ge (b := T.1 + hk_nd T t) (a := 48) (by omega) (by omega) y
      · obtain ⟨q, h⟩ := c.2.2.2.2
        rw [hk_xa_sz i1 hf z3] at h; cases h
theorem yr_inst_l {post : Int32 → SY → Prop} {a t vc n : Nat} {A : List (List Nat)} {u : List Nat} (ha : a < 16) (ht : t < 32) (hvc : vc < 524288) (lA : A.length ≤ 3) (gA : ∀ y, y ∈ A → hk_gt n y) (gu : hk_gt n u) (pA : yP a = nI A.length) :
    ∀ (d i : Nat) (M L : Nat → Int32) (w wl : Int32) (C : List (List Nat)), i + d = A.length → C.length = i → hk_hs (hk_hy M L) (32 + a * 4 + 1) A → hk_hy M L t u → hk_hs (hk_hy M L) 100 C →
      ((∀ h, h ∈ A.drop i → (hk_sb h vc u).length ≤ 32) → ∀ (M' L' : Nat → Int32) (w' wl' : Int32), hk_hs (hk_hy M' L') 100 (C ++ vh_inst (A.drop i) vc u) → hk_fr (fun s => 100 ≤ s ∧ s < 108) M L M' L' → wY_ruleInst_172 post y1 y2 y3 y4 y5 yn ym yh yc yd w' wl' (nI (C ++ vh_inst (A.drop i) vc u).length) ye yp yq yr ys M' L' yY yA yR yP) →
      (¬ (∀ h, h ∈ A.drop i → (hk_sb h vc u).length ≤ 32) → ∀ (M' L' : Nat → Int32) (w' wl' w3 : Int32), hk_fr (fun s => 100 ≤ s ∧ s < 108) M L M' L' → post (-1) (y1, y2, y3, y4, y5, yn, ym, yh, yc, yd, w', wl', w3, ye, yp, yq, yr, ys, M', L', yY, yA, yR, yP)) →
      wY_ruleInst_103 post (nI a) (nI t) (nI vc) (d + 1) (nI (i + 1)) y1 y2 y3 y4 y5 yn ym yh yc yd w wl (nI C.length) ye yp yq yr ys M L yY yA yR yP := by
  intro d
  induction d with
  | zero =>
    intro i M L w wl C hi hCi hA hU hC k1 k0
    rw [List.drop_of_length_le (by omega)] at k1
    have e : C ++ vh_inst [] vc u = C := List.append_nil C
    rw [e] at k1
    refine ⟨vp_in_nI ha (by omega), ?_⟩
    rw [nI_clamp (by omega), pA]
    exact br_t (nI_lt (by omega) (by omega)) (k1 (fun h hh => absurd hh List.not_mem_nil) M L w wl hC hk_fr_r)
  | succ d ih =>
    intro i M L w wl C hi hCi hA hU hC k1 k0
    have il : i < A.length := by omega
    have gi := gA _ (hk_ix_mem il)
    rw [hk_gd_drop il] at k1 k0
    refine ⟨vp_in_nI ha (by omega), ?_⟩
    rw [nI_clamp (by omega), pA]
    refine br_f (nI_nlt (by omega) (by omega)) (br_f (nI_nlt (b := i + 1) (a := 3) (by omega) (by omega)) ?_)
    have e1 : (100 : Int32) + nI C.length = nI (100 + C.length) := nI_add 100 _
    rw [e1]
    refine ya_begin (by omega) (fun L1 q1 f1 => ?_)
    refine ya_slot a (i + 1) ?_
    rw [show 32 + a * 4 + (i + 1) = 32 + a * 4 + 1 + i by omega]
    have hi1 := hk_fr_hy f1 (s := 32 + a * 4 + 1 + i) (by omega) (hA i il)
    have hU1 := hk_fr_hy f1 (s := t) (by omega) hU
    have big := hk_sb_len gi.2.1 gu.2.1 (vc := vc)
    refine ya_sub (by omega) (by omega) (by omega) (by omega) (by omega) gi gu hvc q1 hi1 hU1 (fun M2 L2 q2 f2 => ?_)
    have f12 := hk_fr_t f1 f2
    have F12 := hk_fr_w (V := fun s => 100 ≤ s ∧ s < 108) f12 (fun s e => by have e : s = 100 + C.length := e; omega)
    refine pk_le (min (hk_sb (A.getD i []) vc u).length 33) 32 (fun z => nm_r (nI_1 _) (nm_r (nI_1 _) ?_)) (fun z => k0 (fun c => ?_) M2 L2 _ _ _ F12)
    · have el : C.length + 1 = (C ++ [hk_sb (A.getD i []) vc u]).length := by rw [List.length_append]; rfl
      have ev : C ++ vh_inst (A.getD i [] :: A.drop (i + 1)) vc u = C ++ [hk_sb (A.getD i []) vc u] ++ vh_inst (A.drop (i + 1)) vc u := by
        rw [List.append_assoc]; rfl
      rw [ev] at k1
      rw [el]
      refine ih (i + 1) M2 L2 _ _ (C ++ [hk_sb (A.getD i []) vc u]) (by omega) (by omega) (ya_hs_fr F12 hA (fun j hj => by omega)) (hk_fr_hy F12 (by omega) hU) ?_ (fun c M3 L3 w3 wl3 h3 f3 => k1 (fun h hh => ?_) M3 L3 w3 wl3 h3 (hk_fr_t F12 f3)) (fun c M3 L3 w3 wl3 x3 f3 => k0 (fun q => c (fun h hh => q h (List.mem_cons_of_mem _ hh))) M3 L3 w3 wl3 x3 (hk_fr_t F12 f3))
      · refine hk_hs_app (ya_hs_fr f12 hC (fun j hj e => ?_)) q2
        have e : 100 + j = 100 + C.length := e
        omega
      · rcases List.mem_cons.mp hh with e | e
        · rw [e]; omega
        · exact c h e
    · have := c _ List.mem_cons_self
      omega
theorem yr_inst {post : Int32 → SY → Prop} {a v t vc : Nat} {HA : List (List Nat)} (I : hk_I T nM TY nH HC G cM cH) (R : hk_R T nM TY nH HC G yA yR yY yP (hk_hy yM yL)) (hH : nH < cH) (ha : a < nH) (hv : v < nM) (ht : t < nM) (eA : HA = hk_H G (32 + a * 4 + 1) (HC a)) (evc : vc = hk_c (G v) 0)
    (k1 : (vc / 65536 = 1 ∧ TY t = vc % 256) ∧ vc_inst (G (32 + a * 4)) (G t) HA vc → yr_K post T nM nH y1 y2 y3 y4 y5 yc yd yM yL yY yP (some (hk_sb (G (32 + a * 4)) vc (G t), hk_un [] (vh_inst HA vc (G t)), T)))
    (k0 : ¬ ((vc / 65536 = 1 ∧ TY t = vc % 256) ∧ vc_inst (G (32 + a * 4)) (G t) HA vc) → yr_K post T nM nH y1 y2 y3 y4 y5 yc yd yM yL yY yP none) : wpY_ruleInst post (y1, y2, y3, y4, y5, nI T.1, nI nM, nI nH, yc, yd, yw, yl, nI 0, ye, yp, yq, yr, ys, yM, yL, yY, yA, yR, yP) (nI a) (nI v) (nI t) := by
  obtain ⟨sA, pA, cA⟩ := hk_R_hs R ha
  obtain ⟨lA, gA, gcA⟩ := hk_I_hs I ha
  have vI := hk_I_var I hv
  rw [← evc] at vI
  rw [← eA] at sA pA lA gA
  obtain ⟨i1, i2, i3, i4, i5, i6, i7⟩ := I
  obtain ⟨r1, r2, r3⟩ := R
  obtain ⟨tyv, gv, -⟩ := i6 v hv
  obtain ⟨eYv, ehv⟩ := r2 v hv
  obtain ⟨tyt, gt, -⟩ := i6 t ht
  obtain ⟨eYt, eht⟩ := r2 t ht
  have hn := i1.2.1
  have lv := gv.2.1
  generalize G (32 + a * 4) = la at *
  have hvc : vc < 524288 := by rw [evc]; exact (hk_gt_c gv (hk_gt_pos gv)).1
  have ref : ∀ (c : ¬ ((vc / 65536 = 1 ∧ TY t = vc % 256) ∧ vc_inst la (G t) HA vc)), post (-1) (y1, y2, y3, y4, y5, nI T.1, nI nM, nI nH, yc, yd, yw, yl, nI 0, ye, yp, yq, yr, ys, yM, yL, yY, yA, yR, yP) := fun c => k0 c yA yR yM yL yw yl _ ye yp yq yr ys r1 hk_fr_r
  refine hk_ok1 (by omega) ha (br_f (by decide) ?_)
  refine hk_ok1 (by omega) hv (br_f (by decide) ?_)
  refine hk_ok1 (by omega) ht (br_f (by decide) ?_)
  refine ya_nd (p := 0) ehv (by omega) (hk_gt_pos gv) (by omega) ⟨vp_in_nI (by omega) (by omega), ?_⟩
  try dsimp only
  rw [hk_szy ehv (by omega) lv, ← evc]
  refine pk_eq (G v).length 1 (fun el => ⟨by decide, ?_⟩) (fun el => ref (fun c => el ?_))
  rotate_left
  · have := (vI c.1.1).1
    rw [this]; rfl
  rw [hk_kd hvc]
  refine pk_eq (vc / 65536) 1 (fun ek => ⟨vp_in_nI (by omega) (by omega), by decide, ?_⟩) (fun ek => ref (fun c => ek c.1.1))
  have md : vc % 256 < 256 := Nat.mod_lt _ (by decide)
  rw [hk_tyn hvc, nI_clamp (n := t) (by omega), eYt]
  refine pk_eq (TY t) (vc % 256) (fun et => ?_) (fun et => ref (fun c => et c.1.2))
  refine ya_begin (o := 96) (by omega) (fun L1 q1 f1 => ?_)
  refine ya_slot a 0 ?_
  rw [Nat.add_zero]
  have big := hk_sb_len gcA.2.1 gt.2.1 (vc := vc)
  refine ya_sub (by omega) (by omega) (by omega) (by omega) (by omega) gcA gt hvc q1 (hk_fr_hy f1 (by omega) cA) (hk_fr_hy f1 (by omega) eht) (fun M2 L2 q2 f2 => ?_)
  have f12 := hk_fr_t f1 f2
  have F12 := hk_fr_w (V := fun s => 32 + nH * 4 ≤ s) f12 (fun s e => by have e : s = 96 := e; omega)
  refine pk_le (min (hk_sb la vc (G t)).length 33) 32 (fun z => ⟨HA.length + 1, ?_⟩) (fun z => k0 (fun c => by have := c.2.1; omega) yA yR M2 L2 _ _ _ _ _ _ _ _ r1 F12)
  have z3 : (hk_sb la vc (G t)).length ≤ 32 := by omega
  have W : ∀ s, 100 ≤ s ∧ s < 108 → 32 + nH * 4 ≤ s := fun s e => by omega
  refine yr_inst_l (n := T.1) (by omega) (by omega) hvc lA gA gt pA HA.length 0 M2 L2 _ _ [] (by omega) rfl (ya_hs_fr f12 sA (fun i hi e => by have e : 32 + a * 4 + 1 + i = 96 := e; omega)) (hk_fr_hy f12 (by omega) eht) (fun i hi => absurd hi (Nat.not_lt_zero i)) ?_ ?_
  · rw [List.drop_zero, List.nil_append]
    intro c M3 L3 w3 wl3 h3 f3
    have gI : ∀ y, y ∈ vh_inst HA vc (G t) → hk_gt T.1 y := by
      intro y hy
      obtain ⟨h, hh, rfl⟩ := List.mem_map.mp hy
      exact vg_inst ek (gA h hh) gt (c h hh)
    have lI : (vh_inst HA vc (G t)).length ≤ 6 := by unfold vh_inst; rw [List.length_map]; omega
    have F3 := hk_fr_t F12 (hk_fr_w f3 W)
    refine ya_merge lI gI h3 (fun hu M8 L8 w8 wl8 h8 f8 => br_t (nI_pos' (by omega)) ?_) (fun hu M8 L8 w8 wl8 f8 => br_f hk_m1_nge (k0 (fun q => by have := q.2.2.2; omega) yA yR M8 L8 w8 wl8 _ _ _ _ _ _ r1 (hk_fr_t F3 (hk_fr_w f8 (fun s e => by have e : 97 ≤ s ∧ s < 100 := e; omega)))))
    refine ya_commit (by omega) z3 hu (fun y hy => (hk_un_gt hk_nilm gI y hy).2.1) (hk_fr_hy f8 (by omega) (hk_fr_hy f3 (by omega) q2)) h8 rfl (fun M9 L9 w9 wl9 h9 h10 f9 => ?_)
    exact k1 ⟨⟨ek, et⟩, z3, c, hu⟩ yA yR M9 L9 w9 wl9 _ _ _ _ _ _ r1 h9 h10 (hk_fr_t (hk_fr_t F3 (hk_fr_w f8 (fun s e => by have e : 97 ≤ s ∧ s < 100 := e; omega))) (hk_fr_w f9 (fun s e => e.1)))
  · rw [List.drop_zero]
    intro c M3 L3 w3 wl3 x3 f3
    exact k0 (fun q => c q.2.2.1) yA yR M3 L3 w3 wl3 x3 _ _ _ _ _ r1 (hk_fr_t F12 (hk_fr_w f3 W))
end
