/-! the component's rules, continued: MK_COMB, ABS, EQ_MP, DEDUCT_ANTISYM, INST -/
section
variable {xn xc xm xd xh : Int32} {xA xR xK xS xY xP xE : Nat → Int32} {T : hk_T} {nM nH cM cH : Nat} {TY HC : Nat → Nat} {G : Nat → List Nat}
theorem xr_comb {post : Int32 → St2 → Prop} {a b cc : Nat} {HA HB : List (List Nat)} (I : hk_I T nM TY nH HC G cM cH) (R : hk_R T nM TY nH HC G xA xR xY xP (hk_h xK xS)) (hH : nH < cH) (hP : xP nH = nI 0) (ha : a < nH) (hb : b < nH) (eA : HA = hk_H G (32 + a * 4 + 1) (HC a)) (eB : HB = hk_H G (32 + b * 4 + 1) (HC b)) (hcc : cc = T.2.2 (hk_c (G (32 + a * 4)) 2 % 256))
    (k1 : wc_comb T cc (G (32 + a * 4)) (G (32 + b * 4)) HA HB → xr_K post T nM nH xc xd xK xS xY xP (some (vl_comb cc (G (32 + a * 4)) (G (32 + b * 4)), hk_un [] (HA ++ HB), (hk_ie T cc).2)))
    (k0 : ¬ wc_comb T cc (G (32 + a * 4)) (G (32 + b * 4)) HA HB → xr_K post T nM nH xc xd xK xS xY xP none) : wpX_byMkComb post (nI T.1, xc, nI nM, xd, nI nH, xA, xR, xK, xS, xY, xP, xE) (nI a) (nI b) := by
  obtain ⟨sA, pA, cA⟩ := hk_R_hs R ha
  obtain ⟨sB, pB, cB⟩ := hk_R_hs R hb
  obtain ⟨lA, gA, gcA⟩ := hk_I_hs I ha
  obtain ⟨lB, gB, gcB⟩ := hk_I_hs I hb
  rw [← eA] at sA pA lA gA
  rw [← eB] at sB pB lB gB
  obtain ⟨i1, i2, i3, i4, i5, i6, i7⟩ := I
  obtain ⟨r1, r2, r3⟩ := R
  generalize G (32 + a * 4) = la at *
  generalize G (32 + b * 4) = lb at *
  have la32 := gcA.2.1
  have lb32 := gcB.2.1
  have ref : ∀ (c : ¬ wc_comb T cc la lb HA HB), post 0 (nI T.1, xc, nI nM, xd, nI nH, xA, xR, xK, xS, xY, xP, xE) := fun c => k0 c xA xR xK xS xP xE r1 hk_fr_r (fun _ _ => rfl)
  unfold wpX_byMkComb
  dsimp only
  refine xa_iseq ha (by omega) cA gcA (fun ea => br_f (by decide) ?_) (fun ea => br_t rfl (ref (fun c => ea c.1)))
  refine xa_iseq hb (by omega) cB gcB (fun eb => br_f (by decide) ?_) (fun eb => br_t rfl (ref (fun c => eb c.2.1)))
  refine xa_part a 0 ?_
  refine xa_part b 0 ?_
  rw [Nat.add_zero, Nat.add_zero]
  obtain ⟨t1, t2, t3, t4, t5, t6, t7⟩ := hk_ise_at gcA.1 ea
  obtain ⟨u1, u2, u3, u4, u5, u6, u7⟩ := hk_ise_at gcB.1 eb
  obtain ⟨-, -, -, -, fT, fT2, -, -⟩ := hk_ise_sides gcA ea
  obtain ⟨-, -, -, -, aT, aT2, -, -⟩ := hk_ise_sides gcB eb
  have hn := i1.2.1
  refine xa_type (p := 2) cA (by omega) (by omega) (by omega) (hk_gt_c gcA (by omega)).1 ?_
  refine xa_type (p := 2) cB (by omega) (by omega) (by omega) (hk_gt_c gcB (by omega)).1 ?_
  refine xa_takes r1 i1 fT (by omega) (fun g3 gD => br_f (by decide) ?_) (fun g3 => br_t rfl (ref (fun c => g3 ⟨c.2.2.1, c.2.2.2.1⟩)))
  have cT := (i1.2.2.2.2.2.2 _ g3 fT).2
  rw [← hcc] at cT
  have eR : xR (nI (hk_c la 2 % 256)).toNatClampNeg = nI cc := by rw [nI_clamp (by omega), (r1 _ g3 fT).2, hcc]
  refine xa_end (p := 3) cA (by omega) la32 (fun c hc => (gcA.2.2 c hc).1) t1 ?_
  refine xa_end (p := 3) cB (by omega) lb32 (fun c hc => (gcB.2.2 c hc).1) u1 ?_
  refine xa_part nH 0 ?_
  rw [Nat.add_zero]
  have V48 : vp_in (nI (hk_c la 2 % 256)) 48 := vp_in_nI (by omega) (by omega)
  refine ⟨V48, ?_⟩
  rw [eR]
  refine xa_start (by omega) (fun K1 S1 q1 f1 => ?_)
  refine xa_append (c := 196608) (by omega) q1 (by simp) rfl (fun K2 S2 q2 f2 => ?_)
  have f12 := hk_fr_t f1 f2
  refine xa_run (p := 3) (by omega) (by omega) (by omega) (by omega) (by omega) la32 q2 (hk_fr_h f12 (by omega) cA) (by simp) (fun K3 S3 q3 f3 => ?_)
  have f13 := hk_fr_t f12 f3
  have n3 : ([196608, 196608, 131072 + cc] ++ [196608] ++ hk_fm (fun q => [hk_c la q]) 3 (hk_e la 3 - 3)).length = 4 + (hk_e la 3 - 3) := by
    rw [List.length_append, hk_fm_len]; rfl
  refine xa_run (p := 3) (by omega) (by omega) (by omega) (by omega) (by omega) lb32 q3 (hk_fr_h f13 (by omega) cB) (by omega) (fun K4 S4 q4 f4 => ?_)
  have f14 := hk_fr_t f13 f4
  have n4 := congrArg (· + (hk_e lb 3 - 3)) n3
  refine xa_append (c := 196608) (by omega) q4 (by rw [List.length_append, hk_fm_len]; omega) rfl (fun K5 S5 q5 f5 => ⟨vp_in_nI (by omega) (by omega), ?_⟩)
  have f15 := hk_fr_t f14 f5
  have cA5 := hk_fr_h f15 (by omega) cA
  try dsimp only
  rw [hk_sz cA5 (by omega)]
  refine xa_run (by omega) (by omega) (by omega) (by omega) (Nat.le_refl _) la32 q5 cA5 (by rw [List.length_append, List.length_append, hk_fm_len, n3]; show 4 + (hk_e la 3 - 3) + (hk_e lb 3 - 3) + 1 < 90000; omega) (fun K6 S6 q6 f6 => ⟨vp_in_nI (by omega) (by omega), ?_⟩)
  have f16 := hk_fr_t f15 f6
  have cB6 := hk_fr_h f16 (by omega) cB
  try dsimp only
  rw [hk_sz cB6 (by omega)]
  refine xa_run (by omega) (by omega) (by omega) (by omega) (Nat.le_refl _) lb32 q6 cB6 (by rw [List.length_append, List.length_append, List.length_append, hk_fm_len, hk_fm_len, n3]; show 4 + (hk_e la 3 - 3) + (hk_e lb 3 - 3) + 1 + (la.length - hk_e la 3) < 90000; omega) (fun K7 S7 q7 f7 => ⟨vp_in_nI (by omega) (by omega), ?_⟩)
  have f17 := hk_fr_t f16 f7
  have q7 : hk_h K7 S7 (32 + nH * 4) (vl_comb cc la lb) := q7
  have F17 := hk_fr_w (V := fun s => 32 + nH * 4 ≤ s) f17 (fun s e => Nat.le_of_eq e.symm)
  try dsimp only
  rw [hk_sz q7 (by omega)]
  have big : (vl_comb cc la lb).length < 2000 := by
    unfold vl_comb
    rw [List.length_append, List.length_append, List.length_append, List.length_append, n3, hk_fm_len, hk_fm_len, hk_fm_len]
    show 4 + (hk_e la 3 - 3) + (hk_e lb 3 - 3) + 1 + (la.length - hk_e la 3) + (lb.length - hk_e lb 3) < 2000
    omega
  refine pk_lt 32 (vl_comb cc la lb).length (fun z => k0 (fun c => by have := c.2.2.2.2.1; omega) xA xR K7 S7 xP xE r1 F17 (fun _ _ => rfl)) (fun z => ?_)
  have V : ∀ s, 32 + nH * 4 + 1 ≤ s ∧ s < 32 + nH * 4 + 1 + 3 → 32 + nH * 4 ≤ s := fun s e => by omega
  refine xa_add (H := []) (wf := fun _ => true) (n := T.1) (by omega) rfl ha lA gA pA (xa_hs_fr f17 sA (fun i hi => by omega)) (Or.inl ⟨rfl, fun _ => rfl⟩) (fun i hi => absurd hi (Nat.not_lt_zero i)) hP (by decide) hk_nilm (fun h3 K8 S8 P8 h8 f8 p1 p2 => br_f (by decide) ?_) (fun h3 K8 S8 P8 f8 p2 => br_t rfl ?_)
  rotate_left
  · rw [hk_ft] at h3
    refine k0 (fun c => ?_) xA xR K8 S8 P8 xE r1 (hk_fr_t F17 (hk_fr_w f8 V)) p2
    have c5 := c.2.2.2.2.2.1
    rw [hk_un_app] at c5
    have := (hk_un_len (ts := HB) (S := hk_un [] HA)).1
    omega
  rw [hk_ft] at h3 h8 p1
  refine xa_add (H := hk_un [] HA) (wf := fun _ => true) (n := T.1) (by omega) rfl hb lB gB ((p2 b (by omega)).trans pB) (xa_hs_fr f8 (xa_hs_fr f17 sB (fun i hi => by omega)) (fun i hi => by omega)) (Or.inl ⟨rfl, fun _ => rfl⟩) h8 p1 h3 (hk_un_gt hk_nilm gA) (fun h5 K9 S9 P9 h9 f9 p3 p4 => br_f (by decide) ⟨V48, ?_⟩) (fun h5 K9 S9 P9 f9 p4 => br_t rfl ?_)
  rotate_left
  · rw [hk_ft, ← hk_un_app] at h5
    exact k0 (fun c => by have := c.2.2.2.2.2.1; omega) xA xR K9 S9 P9 xE r1 (hk_fr_t (hk_fr_t F17 (hk_fr_w f8 V)) (hk_fr_w f9 V)) (fun h hne => (p4 h hne).trans (p2 h hne))
  rw [hk_ft, ← hk_un_app] at h5 h9 p3
  have F19 := hk_fr_t (hk_fr_t F17 (hk_fr_w f8 V)) (hk_fr_w f9 V)
  dsimp only
  rw [eR]
  refine xa_internEq r1 i1 cT (fun A R hb' => ?_)
  rcases Nat.lt_or_ge 48 (T.1 + hk_nd T cc) with w | w
  · rw [hk_xe_nofit i1 (by omega)] at hb' ⊢
    exact br_t rfl (k0 (fun c => by have := c.2.2.2.2.2.2; omega) A R K9 S9 P9 xE hb' F19 (fun h hne => (p4 h hne).trans (p2 h hne)))
  · obtain ⟨e, j, hj⟩ := hk_xe_fit i1 cT w
    have hj2 := (hk_ie_ok i1 cT).2.2 j hj
    have hj3 := (hk_ie_ok i1 cT).1.2.1
    rw [e] at hb' ⊢
    rw [hj]
    exact br_f (hk_o_ne (by omega)) (k1 ⟨ea, eb, g3, gD, z, h5, w⟩ A R K9 S9 P9 xE hb' (hk_fr_h f9 (by omega) (hk_fr_h f8 (by omega) q7)) h9 F19 p3 (fun h hne => (p4 h hne).trans (p2 h hne)))
theorem xa_occh_l {post : Int32 → Prop} {v a vc n : Nat} {A : List (List Nat)} (hv : xK (nI v * 32).toNatClampNeg = nI vc) (hvc : vc < 524288) (hv98 : v < 98) (ha : a < 16) (lA : A.length ≤ 3) (gA : ∀ y, y ∈ A → hk_gt n y) (hA : hk_hs (hk_h xK xS) (32 + a * 4 + 1) A) :
    ∀ (d i : Nat), i + d = A.length → ((∃ h, h ∈ A.drop i ∧ vc ∈ h) → post 1) → ((∀ h, h ∈ A.drop i → ¬ vc ∈ h) → post 0) → wX_occursInHyps_10 post (nI v) (nI a) (nI A.length) xn xc xm xd xh xA xR xK xS xY xP xE (d + 1) (nI (i + 1)) := by
  intro d
  induction d with
  | zero =>
    intro i hi k1 k0
    refine br_t (nI_lt (by omega) (by omega)) (k0 (fun h hh => ?_))
    rw [List.drop_of_length_le (by omega)] at hh
    exact absurd hh List.not_mem_nil
  | succ d ih =>
    intro i hi k1 k0
    have il : i < A.length := by omega
    rw [hk_gd_drop il] at k1 k0
    refine br_f (nI_nlt (by omega) (by omega)) ?_
    refine xa_part a (i + 1) ?_
    rw [show 32 + a * 4 + (i + 1) = 32 + a * 4 + 1 + i by omega]
    refine xa_occ hv hvc (hA i il) (by omega) hv98 (gA _ (hk_ix_mem il)) (fun z => br_f (by decide) (k1 ⟨_, List.mem_cons_self, z⟩)) (fun z => br_t rfl (nm_r (nI_1 _) ?_))
    refine ih (i + 1) (by omega) (fun q => k1 ?_) (fun q => k0 (fun h hh => ?_))
    · obtain ⟨h, h1, h2⟩ := q
      exact ⟨h, List.mem_cons_of_mem _ h1, h2⟩
    · rcases List.mem_cons.mp hh with e | e
      · rw [e]; exact z
      · exact q h e
theorem xa_occh {post : Int32 → Prop} {v a vc n : Nat} {A : List (List Nat)} (hv : xK (nI v * 32).toNatClampNeg = nI vc) (hvc : vc < 524288) (hv98 : v < 98) (ha : a < 16) (lA : A.length ≤ 3) (gA : ∀ y, y ∈ A → hk_gt n y) (hPa : xP a = nI A.length) (hA : hk_hs (hk_h xK xS) (32 + a * 4 + 1) A)
    (k1 : (∃ h, h ∈ A ∧ vc ∈ h) → post 1) (k0 : (∀ h, h ∈ A → ¬ vc ∈ h) → post 0) : wpX_occursInHyps post (xn, xc, xm, xd, xh, xA, xR, xK, xS, xY, xP, xE) (nI v) (nI a) :=
  ⟨vp_in_nI ha (by omega), nm_r (e' := nI A.length) (by rw [nI_clamp (by omega)]; exact hPa) ⟨A.length + 1, xa_occh_l hv hvc hv98 ha lA gA hA A.length 0 (by omega) k1 k0⟩⟩
theorem xr_abs {post : Int32 → St2 → Prop} {a v vc : Nat} {HA : List (List Nat)} (I : hk_I T nM TY nH HC G cM cH) (R : hk_R T nM TY nH HC G xA xR xY xP (hk_h xK xS)) (hH : nH < cH) (hP : xP nH = nI 0) (ha : a < nH) (hv : v < nM) (eA : HA = hk_H G (32 + a * 4 + 1) (HC a)) (evc : vc = hk_c (G v) 0)
    (k1 : ∀ t, (hk_xa T (vc % 256) (hk_c (G (32 + a * 4)) 2 % 256)).1 = some t → wc_abs T (G (32 + a * 4)) HA vc → xr_K post T nM nH xc xd xK xS xY xP (some (vl_abs t vc (G (32 + a * 4)), hk_un [] HA, (hk_xa T (vc % 256) (hk_c (G (32 + a * 4)) 2 % 256)).2)))
    (k0 : ¬ wc_abs T (G (32 + a * 4)) HA vc → xr_K post T nM nH xc xd xK xS xY xP none) : wpX_byAbs post (nI T.1, xc, nI nM, xd, nI nH, xA, xR, xK, xS, xY, xP, xE) (nI a) (nI v) := by
  obtain ⟨sA, pA, cA⟩ := hk_R_hs R ha
  obtain ⟨lA, gA, gcA⟩ := hk_I_hs I ha
  have vI := hk_I_var I hv
  rw [← evc] at vI
  rw [← eA] at sA pA lA gA
  obtain ⟨i1, i2, i3, i4, i5, i6, i7⟩ := I
  obtain ⟨r1, r2, r3⟩ := R
  obtain ⟨tyv, gv, -⟩ := i6 v hv
  obtain ⟨eYv, ehv⟩ := r2 v hv
  generalize G (32 + a * 4) = la at *
  have la32 := gcA.2.1
  have hn := i1.2.1
  have ref : ∀ (c : ¬ wc_abs T la HA vc), post 0 (nI T.1, xc, nI nM, xd, nI nH, xA, xR, xK, xS, xY, xP, xE) := fun c => k0 c xA xR xK xS xP xE r1 hk_fr_r (fun _ _ => rfl)
  unfold wpX_byAbs
  dsimp only
  refine xa_iseq ha (by omega) cA gcA (fun ea => br_f (by decide) ?_) (fun ea => br_t rfl (ref (fun c => ea c.1)))
  refine xa_var hv (by omega) ehv gv (fun ek => br_f (by decide) ?_) (fun ek => br_t rfl (ref (fun c => ek (by rw [← evc]; exact c.2.1))))
  rw [← evc] at ek
  obtain ⟨v1, v2, v3⟩ := vI ek
  rw [v1] at ehv
  have hvc : xK (nI v * 32).toNatClampNeg = nI vc := by
    rw [hk_ad0, nI_clamp (by omega)]
    exact ehv.2 0 (Nat.zero_lt_one) (by decide)
  refine xa_occh hvc v3 (by omega) (by omega) lA gA pA sA (fun oc => br_f (by decide) (ref (fun c => ?_))) (fun oc => br_t rfl ?_)
  · obtain ⟨h, h1, h2⟩ := oc
    exact c.2.2.1 h h1 h2
  refine xa_part a 0 ?_
  rw [Nat.add_zero]
  refine ⟨vp_in_nI (by omega) (by omega), ?_⟩
  try dsimp only
  rw [hk_sz cA (by omega)]
  have e2 : (2 : Int32) + nI la.length = nI (2 + la.length) := nI_add 2 la.length
  rw [e2]
  refine pk_lt 32 (2 + la.length) (fun z => ref (fun c => by have := c.2.2.2.1; omega)) (fun z => ?_)
  have V : ∀ s, 32 + nH * 4 + 1 ≤ s ∧ s < 32 + nH * 4 + 1 + 3 → 32 + nH * 4 ≤ s := fun s e => by omega
  have lU := (hk_un_len (ts := HA) (S := [])).2
  have lU : (hk_un [] HA).length ≤ 0 + HA.length := lU
  refine xa_add (H := []) (wf := fun _ => true) (n := T.1) (by omega) rfl ha lA gA pA sA (Or.inl ⟨rfl, fun _ => rfl⟩) (fun i hi => absurd hi (Nat.not_lt_zero i)) hP (by decide) hk_nilm (fun h3 K4 S4 P4 h4 f4 p1 p2 => br_f (by decide) ?_) (fun h3 K4 S4 P4 f4 p2 => ?_)
  rotate_left
  · rw [hk_ft] at h3
    omega
  rw [hk_ft] at h3 h4 p1
  have F4 := hk_fr_w (V := fun s => 32 + nH * 4 ≤ s) f4 V
  obtain ⟨t1, t2, t3, t4, t5, t6, t7⟩ := hk_ise_at gcA.1 ea
  obtain ⟨-, -, -, -, sT, sT2, -, -⟩ := hk_ise_sides gcA ea
  have cA4 := hk_fr_h f4 (by omega) cA
  have ehv4 := hk_fr_h f4 (by omega) ehv
  refine xa_type (p := 2) cA4 (by omega) (by omega) (by omega) (hk_gt_c gcA (by omega)).1 ⟨vp_in_nI (by omega) (by omega), ?_⟩
  dsimp only
  rw [nI_clamp (n := v) (by omega), eYv, v2]
  have dT : vc % 256 < T.1 := by rw [← v2]; exact tyv
  refine xa_internAbs r1 i1 dT sT (fun A R hb' => ?_)
  cases hx : (hk_xa T (vc % 256) (hk_c la 2 % 256)).1 with
  | none =>
    have e0 := hk_xa_none i1 dT sT hx
    rw [e0] at hb' ⊢
    refine br_t rfl (k0 (fun c => ?_) A R K4 S4 P4 xE hb' F4 p2)
    obtain ⟨t, ht⟩ := c.2.2.2.2
    rw [hx] at ht; cases ht
  | some t =>
    have ht48 := hk_xa_in i1 dT sT hx
    refine br_f (hk_o_ne (by omega)) ?_
    refine xa_part nH 0 ?_
    rw [Nat.add_zero]
    refine xa_end (p := 3) cA4 (by omega) la32 (fun c hc => (gcA.2.2 c hc).1) t1 ?_
    refine xa_start (by omega) (fun K5 S5 q5 f5 => ?_)
    have cA5 := hk_fr_h f5 (by omega) cA4
    have ehv5 := hk_fr_h f5 (by omega) ehv4
    refine xa_mark cA5 (by omega) gcA (fun E hE => ?_)
    refine xa_abs (f := 3) (by omega) (by omega) (by omega) (by omega) (by omega) gcA (by omega) (by omega) v3 (eYv.trans (congrArg nI v2)) (fun q h1 h2 => (hE q (by omega)).trans (by rw [hk_ise_dl ea h1])) q5 cA5 ehv5 (by simp) (fun K6 S6 q6 f6 => ⟨vp_in_nI (by omega) (by omega), ?_⟩)
    have cA6 := hk_fr_h f6 (by omega) cA5
    have ehv6 := hk_fr_h f6 (by omega) ehv5
    try dsimp only
    rw [hk_sz cA6 (by omega)]
    refine xa_abs (f := hk_e la 3) (by omega) (by omega) (by omega) (by omega) (by omega) gcA (by omega) (Nat.le_refl _) v3 (eYv.trans (congrArg nI v2)) (fun q h1 h2 => (hE q (by omega)).trans (by rw [hk_ise_dr ea t3 h1])) q6 cA6 ehv6 (by rw [List.length_append, hk_abl_len]; show 3 + (hk_e la 3 - 3 + 1) < 90000; omega) (fun K7 S7 q7 f7 => ?_)
    have f57 := hk_fr_t (hk_fr_t f5 f6) f7
    exact k1 t hx ⟨ea, ek, oc, by omega, t, hx⟩ A R K7 S7 P4 E hb' q7 (xa_hs_fr f57 h4 (fun i hi => by intro e; have e : 32 + nH * 4 + 1 + i = 32 + nH * 4 := e; omega)) (hk_fr_t F4 (hk_fr_w f57 (fun s e => Nat.le_of_eq e.symm))) p1 p2
theorem xr_mp {post : Int32 → St2 → Prop} {a b : Nat} {HA HB : List (List Nat)} (I : hk_I T nM TY nH HC G cM cH) (R : hk_R T nM TY nH HC G xA xR xY xP (hk_h xK xS)) (hH : nH < cH) (hP : xP nH = nI 0) (ha : a < nH) (hb : b < nH) (eA : HA = hk_H G (32 + a * 4 + 1) (HC a)) (eB : HB = hk_H G (32 + b * 4 + 1) (HC b))
    (k1 : wc_mp (G (32 + a * 4)) (G (32 + b * 4)) HA HB → xr_K post T nM nH xc xd xK xS xY xP (some (vl_mp (G (32 + a * 4)), hk_un [] (HA ++ HB), T)))
    (k0 : ¬ wc_mp (G (32 + a * 4)) (G (32 + b * 4)) HA HB → xr_K post T nM nH xc xd xK xS xY xP none) : wpX_byEqMp post (nI T.1, xc, nI nM, xd, nI nH, xA, xR, xK, xS, xY, xP, xE) (nI a) (nI b) := by
  obtain ⟨sA, pA, cA⟩ := hk_R_hs R ha
  obtain ⟨sB, pB, cB⟩ := hk_R_hs R hb
  obtain ⟨lA, gA, gcA⟩ := hk_I_hs I ha
  obtain ⟨lB, gB, gcB⟩ := hk_I_hs I hb
  rw [← eA] at sA pA lA gA
  rw [← eB] at sB pB lB gB
  obtain ⟨i1, i2, i3, i4, i5, i6, i7⟩ := I
  obtain ⟨r1, r2, r3⟩ := R
  generalize G (32 + a * 4) = la at *
  generalize G (32 + b * 4) = lb at *
  have la32 := gcA.2.1
  have lb32 := gcB.2.1
  have ref : ∀ (c : ¬ wc_mp la lb HA HB), post 0 (nI T.1, xc, nI nM, xd, nI nH, xA, xR, xK, xS, xY, xP, xE) := fun c => k0 c xA xR xK xS xP xE r1 hk_fr_r (fun _ _ => rfl)
  unfold wpX_byEqMp
  dsimp only
  refine xa_iseq ha (by omega) cA gcA (fun ea => br_f (by decide) ?_) (fun ea => br_t rfl (ref (fun c => ea c.1)))
  refine hk_ok1 (by omega) hb (br_f (by decide) ?_)
  refine xa_part a 0 ?_
  refine xa_part b 0 ?_
  rw [Nat.add_zero, Nat.add_zero]
  obtain ⟨t1, t2, t3, t4, t5, t6, t7⟩ := hk_ise_at gcA.1 ea
  have hn := i1.2.1
  refine xa_end (p := 3) cA (by omega) la32 (fun c hc => (gcA.2.2 c hc).1) t1 ?_
  have VB : vp_in (nI (32 + b * 4)) 98 := vp_in_nI (by omega) (by omega)
  refine ⟨VB, ?_⟩
  have e3 : nI (hk_e la 3) - 3 = nI (hk_e la 3 - 3) := pk_sub (b := 3) (by omega)
  rw [e3, hk_sz cB (by omega)]
  have dl : (lb.drop 0).take lb.length = lb := by rw [List.drop_zero, List.take_length]
  refine pk_eq (hk_e la 3 - 3) lb.length (fun en => ⟨VB, ?_⟩) (fun en => ref (fun c => ?_))
  rotate_left
  · have := congrArg List.length c.2.1
    rw [List.length_take, List.length_drop] at this
    omega
  refine xa_same cA cB (by omega) (by omega) gcA gcB (f := 3) (g := 0) (m := lb.length) (by omega) (by omega) (fun es => br_f (by decide) ?_) (fun es => br_t rfl (ref (fun c => es ?_)))
  rotate_left
  · rw [dl, ← en]; exact c.2.1
  rw [dl, ← en] at es
  refine xa_part nH 0 ?_
  rw [Nat.add_zero]
  refine ⟨vp_in_nI (by omega) (by omega), nm_r (e' := upd xS (32 + nH * 4) 0) (by rw [nI_clamp (by omega)]) ⟨vp_in_nI (by omega) (by omega), ?_⟩⟩
  have f0 : hk_fr (fun s => s = 32 + nH * 4) xK xS xK (upd xS (32 + nH * 4) 0) := hk_fr_s
  have cA0 := hk_fr_h f0 (by omega) cA
  try dsimp only
  rw [hk_sz cA0 (by omega)]
  refine xa_run (by omega) (by omega) (by omega) (by omega) (Nat.le_refl _) la32 hk_h0 cA0 (by decide) (fun K3 S3 q3 f3 => ?_)
  have f13 := hk_fr_t f0 f3
  have q3 : hk_h K3 S3 (32 + nH * 4) (vl_mp la) := q3
  have F13 := hk_fr_w (V := fun s => 32 + nH * 4 ≤ s) f13 (fun s e => Nat.le_of_eq e.symm)
  have V : ∀ s, 32 + nH * 4 + 1 ≤ s ∧ s < 32 + nH * 4 + 1 + 3 → 32 + nH * 4 ≤ s := fun s e => by omega
  refine xa_add (H := []) (wf := fun _ => true) (n := T.1) (by omega) rfl ha lA gA pA (xa_hs_fr f13 sA (fun i hi => by omega)) (Or.inl ⟨rfl, fun _ => rfl⟩) (fun i hi => absurd hi (Nat.not_lt_zero i)) hP (by decide) hk_nilm (fun h3 K4 S4 P4 h4 f4 p1 p2 => br_f (by decide) ?_) (fun h3 K4 S4 P4 f4 p2 => br_t rfl ?_)
  rotate_left
  · rw [hk_ft] at h3
    refine k0 (fun c => ?_) xA xR K4 S4 P4 xE r1 (hk_fr_t F13 (hk_fr_w f4 V)) p2
    have c5 := c.2.2
    rw [hk_un_app] at c5
    have := (hk_un_len (ts := HB) (S := hk_un [] HA)).1
    omega
  rw [hk_ft] at h3 h4 p1
  refine xa_add (H := hk_un [] HA) (wf := fun _ => true) (n := T.1) (by omega) rfl hb lB gB ((p2 b (by omega)).trans pB) (xa_hs_fr f4 (xa_hs_fr f13 sB (fun i hi => by omega)) (fun i hi => by omega)) (Or.inl ⟨rfl, fun _ => rfl⟩) h4 p1 h3 (hk_un_gt hk_nilm gA) (fun h5 K5 S5 P5 h6 f5 p3 p4 => br_f (by decide) ?_) (fun h5 K5 S5 P5 f5 p4 => br_t rfl ?_)
  · rw [hk_ft, ← hk_un_app] at h5 h6 p3
    exact k1 ⟨ea, es, h5⟩ xA xR K5 S5 P5 xE r1 (hk_fr_h f5 (by omega) (hk_fr_h f4 (by omega) q3)) h6 (hk_fr_t (hk_fr_t F13 (hk_fr_w f4 V)) (hk_fr_w f5 V)) p3 (fun h hne => (p4 h hne).trans (p2 h hne))
  · rw [hk_ft, ← hk_un_app] at h5
    exact k0 (fun c => by have := c.2.2; omega) xA xR K5 S5 P5 xE r1 (hk_fr_t (hk_fr_t F13 (hk_fr_w f4 V)) (hk_fr_w f5 V)) (fun h hne => (p4 h hne).trans (p2 h hne))
theorem xr_ded {post : Int32 → St2 → Prop} {a b : Nat} {HA HB : List (List Nat)} (I : hk_I T nM TY nH HC G cM cH) (R : hk_R T nM TY nH HC G xA xR xY xP (hk_h xK xS)) (hH : nH < cH) (hP : xP nH = nI 0) (ha : a < nH) (hb : b < nH) (eA : HA = hk_H G (32 + a * 4 + 1) (HC a)) (eB : HB = hk_H G (32 + b * 4 + 1) (HC b))
    (k1 : wc_ded (G (32 + a * 4)) (G (32 + b * 4)) HA HB → xr_K post T nM nH xc xd xK xS xY xP (some (hk_eq 0 (G (32 + a * 4)) (G (32 + b * 4)), vh_ded (G (32 + a * 4)) (G (32 + b * 4)) HA HB, T)))
    (k0 : ¬ wc_ded (G (32 + a * 4)) (G (32 + b * 4)) HA HB → xr_K post T nM nH xc xd xK xS xY xP none) : wpX_byDeductAntisym post (nI T.1, xc, nI nM, xd, nI nH, xA, xR, xK, xS, xY, xP, xE) (nI a) (nI b) := by
  obtain ⟨sA, pA, cA⟩ := hk_R_hs R ha
  obtain ⟨sB, pB, cB⟩ := hk_R_hs R hb
  obtain ⟨lA, gA, gcA⟩ := hk_I_hs I ha
  obtain ⟨lB, gB, gcB⟩ := hk_I_hs I hb
  rw [← eA] at sA pA lA gA
  rw [← eB] at sB pB lB gB
  obtain ⟨i1, i2, i3, i4, i5, i6, i7⟩ := I
  obtain ⟨r1, r2, r3⟩ := R
  generalize G (32 + a * 4) = la at *
  generalize G (32 + b * 4) = lb at *
  obtain ⟨b1, b2⟩ := hk_bool i1
  refine hk_ok1 (by omega) ha (br_f (by decide) ?_)
  refine hk_ok1 (by omega) hb (br_f (by decide) ?_)
  refine xa_part a 0 ?_
  refine xa_part b 0 ?_
  rw [Nat.add_zero, Nat.add_zero]
  have V : ∀ s, 32 + nH * 4 + 1 ≤ s ∧ s < 32 + nH * 4 + 1 + 3 → 32 + nH * 4 ≤ s := fun s e => by omega
  refine xa_add (H := []) (wf := hk_ne lb) (n := T.1) (by omega) rfl ha lA gA pA sA (Or.inr ⟨32 + b * 4, lb, rfl, by omega, by omega, gcB, cB, hk_ne_iff lb⟩) (fun i hi => absurd hi (Nat.not_lt_zero i)) hP (by decide) hk_nilm (fun h3 K4 S4 P4 h4 f4 p1 p2 => br_f (by decide) ?_) (fun h3 K4 S4 P4 f4 p2 => br_t rfl ?_)
  rotate_left
  · refine k0 (fun c => ?_) xA xR K4 S4 P4 xE r1 (hk_fr_w f4 V) p2
    have c5 := c.1
    unfold vh_ded at c5
    rw [hk_un_app] at c5
    have := (hk_un_len (ts := HB.filter (hk_ne la)) (S := hk_un [] (HA.filter (hk_ne lb)))).1
    omega
  refine xa_add (H := hk_un [] (HA.filter (hk_ne lb))) (wf := hk_ne la) (n := T.1) (by omega) rfl hb lB gB ((p2 b (by omega)).trans pB) (xa_hs_fr f4 sB (fun i hi => by omega)) (Or.inr ⟨32 + a * 4, la, rfl, by omega, by omega, gcA, hk_fr_h f4 (by omega) cA, hk_ne_iff la⟩) h4 p1 h3 (hk_un_gt hk_nilm (fun y hy => gA y ((List.mem_filter.mp hy).1))) (fun h5 K5 S5 P5 h6 f5 p3 p4 => br_f (by decide) ?_) (fun h5 K5 S5 P5 f5 p4 => br_t rfl ?_)
  rotate_left
  · rw [← hk_un_app] at h5
    refine k0 (fun c => ?_) xA xR K5 S5 P5 xE r1 (hk_fr_t (hk_fr_w f4 V) (hk_fr_w f5 V)) (fun h hne => (p4 h hne).trans (p2 h hne))
    have c5 := c.1
    unfold vh_ded at c5
    omega
  rw [← hk_un_app] at h5 h6 p3
  have F5 := hk_fr_t (hk_fr_w f4 V) (hk_fr_w f5 V)
  have f45 := hk_fr_t f4 f5
  refine xa_conc (a := 0) r1 i1 (by have := i1.1; omega) (by omega) (by omega) (by omega) (by omega) (by omega) gcA.2.1 gcB.2.1 (hk_fr_h f45 (by omega) cA) (hk_fr_h f45 (by omega) cB) (fun c A R K6 S6 hb6 q6 f6 => br_f (by decide) ?_) (fun c A R K6 S6 hb6 f6 => br_t rfl ?_)
  · rw [b2] at hb6 ⊢
    exact k1 ⟨h5, c.1⟩ A R K6 S6 P5 xE hb6 q6 (xa_hs_fr f6 h6 (fun i hi => by intro e; have e : 32 + nH * 4 + 1 + i = 32 + nH * 4 := e; omega)) (hk_fr_t F5 (hk_fr_w f6 (fun s e => Nat.le_of_eq e.symm))) p3 (fun h hne => (p4 h hne).trans (p2 h hne))
  · refine k0 (fun q => c ⟨q.2, by have := i1.2.1; omega⟩) A R K6 S6 P5 xE hb6 (hk_fr_t F5 (hk_fr_w f6 (fun s e => Nat.le_of_eq e.symm))) (fun h hne => (p4 h hne).trans (p2 h hne))
/-- the hypotheses with the term put in -/
theorem xr_inst_l {post : Int32 → St2 → Prop} {a v t vc n : Nat} {A : List (List Nat)} {u : List Nat} (hH : nH < 16) (ha : a < nH) (hv : v < 32) (ht : t < 32) (lA : A.length ≤ 3) (gA : ∀ y, y ∈ A → hk_gt n y) (gu : hk_gt n u) (hvk : vc / 65536 = 1) (hvc : vc < 524288) :
    ∀ (d i : Nat) (K S P : Nat → Int32) (H : List (List Nat)), i + d = A.length → hk_hs (hk_h K S) (32 + a * 4 + 1) A → hk_h K S v [vc] → hk_h K S t u → hk_hs (hk_h K S) (32 + nH * 4 + 1) H → P nH = nI H.length → H.length ≤ 3 → (∀ y, y ∈ H → hk_gt n y) →
      ((∀ h, h ∈ A.drop i → (hk_sb h vc u).length ≤ 32) → (hk_un H (vh_inst (A.drop i) vc u)).length ≤ 3 → ∀ K' S' P' : Nat → Int32, hk_hs (hk_h K' S') (32 + nH * 4 + 1) (hk_un H (vh_inst (A.drop i) vc u)) → hk_fr (fun s => 32 + nH * 4 + 1 ≤ s) K S K' S' → P' nH = nI (hk_un H (vh_inst (A.drop i) vc u)).length → (∀ h, h ≠ nH → P' h = P h) → post 1 (xn, xc, xm, xd, nI nH, xA, xR, K', S', xY, P', xE)) →
      (¬ ((∀ h, h ∈ A.drop i → (hk_sb h vc u).length ≤ 32) ∧ (hk_un H (vh_inst (A.drop i) vc u)).length ≤ 3) → ∀ K' S' P' : Nat → Int32, hk_fr (fun s => 32 + nH * 4 + 1 ≤ s) K S K' S' → (∀ h, h ≠ nH → P' h = P h) → post 0 (xn, xc, xm, xd, nI nH, xA, xR, K', S', xY, P', xE)) →
      wX_byInst_93 post (nI a) (nI v) (nI t) (nI A.length) (d + 1) (nI (i + 1)) xn xc xm xd (nI nH) xA xR K S xY P xE := by
  intro d
  induction d with
  | zero =>
    intro i K S P H hi hA hV hU hh hP hl gH k1 k0
    rw [List.drop_of_length_le (by omega)] at k1
    exact br_t (nI_lt (by omega) (by omega)) (k1 (fun h hh => absurd hh List.not_mem_nil) hl K S P hh hk_fr_r hP (fun _ _ => rfl))
  | succ d ih =>
    intro i K S P H hi hA hV hU hh hP hl gH k1 k0
    have il : i < A.length := by omega
    have gi := gA _ (hk_ix_mem il)
    rw [hk_gd_drop il] at k1 k0
    refine br_f (nI_nlt (by omega) (by omega)) ?_
    refine xa_part a (i + 1) ?_
    rw [show 32 + a * 4 + (i + 1) = 32 + a * 4 + 1 + i by omega]
    refine xa_sub (o := 96) (by omega) (by omega) (by omega) (by omega) (by omega) (by omega) (by omega) gi gu hvc (hA i il) hV hU (fun K1 S1 h1 f1 => ?_)
    have f1' := hk_fr_w (V := fun s => 32 + nH * 4 + 1 ≤ s) f1 (fun s e => by have e : s = 96 := e; omega)
    have big := hk_sb_len gi.2.1 gu.2.1 (vc := vc)
    refine pk_lt 32 (hk_sb (A.getD i []) vc u).length (fun z => k0 (fun c => ?_) K1 S1 P f1' (fun _ _ => rfl)) (fun z => ?_) rfl h1.1
    · have := c.1 _ List.mem_cons_self
      omega
    have gs := vg_inst hvk gi gu z
    refine xa_ins (s := 96) (n := n) hH rfl (by omega) (by omega) gs gH h1 (xa_hs_fr f1 hh (fun j hj => by intro e; have e : 32 + nH * 4 + 1 + j = 96 := e; omega)) hP hl (fun h3 K2 S2 P2 h2 f2 p1 p2 => br_f (by decide) (nm_r (nI_1 _) ?_)) (fun h3 => br_t rfl (k0 (fun c => ?_) K1 S1 P f1' (fun _ _ => rfl)))
    · have f2' := hk_fr_w (V := fun s => 32 + nH * 4 + 1 ≤ s) f2 (fun s e => e.1)
      have f12 := hk_fr_t f1' f2'
      refine ih (i + 1) K2 S2 P2 (hk_ins (hk_sb (A.getD i []) vc u) H) (by omega) (xa_hs_fr f12 hA (fun j hj => by omega)) (hk_fr_h f12 (by omega) hV) (hk_fr_h f12 (by omega) hU) h2 p1 h3 (fun y hy => ?_) (fun c1 c2 K3 S3 P3 h4 f3 q1 q2 => k1 (fun h hh => ?_) c2 K3 S3 P3 h4 (hk_fr_t f12 f3) q1 (fun h hne => (q2 h hne).trans (p2 h hne))) (fun c K3 S3 P3 f3 q2 => k0 (fun q => c ⟨fun h hh => q.1 h (List.mem_cons_of_mem _ hh), q.2⟩) K3 S3 P3 (hk_fr_t f12 f3) (fun h hne => (q2 h hne).trans (p2 h hne)))
      · rcases hk_ins_mem.mp hy with e | e
        · rw [e]; exact gs
        · exact gH y e
      · rcases List.mem_cons.mp hh with e | e
        · rw [e]; exact z
        · exact c1 h e
    · have c2 : (hk_un (hk_ins (hk_sb (A.getD i []) vc u) H) (vh_inst (A.drop (i + 1)) vc u)).length ≤ 3 := c.2
      have := (hk_un_len (ts := vh_inst (A.drop (i + 1)) vc u) (S := hk_ins (hk_sb (A.getD i []) vc u) H)).1
      omega
theorem xr_inst {post : Int32 → St2 → Prop} {a v t vc : Nat} {HA : List (List Nat)} (I : hk_I T nM TY nH HC G cM cH) (R : hk_R T nM TY nH HC G xA xR xY xP (hk_h xK xS)) (hH : nH < cH) (hP : xP nH = nI 0) (ha : a < nH) (hv : v < nM) (ht : t < nM) (eA : HA = hk_H G (32 + a * 4 + 1) (HC a)) (evc : vc = hk_c (G v) 0)
    (k1 : (vc / 65536 = 1 ∧ TY t = vc % 256) ∧ wc_inst (G (32 + a * 4)) (G t) HA vc → xr_K post T nM nH xc xd xK xS xY xP (some (hk_sb (G (32 + a * 4)) vc (G t), hk_un [] (vh_inst HA vc (G t)), T)))
    (k0 : ¬ ((vc / 65536 = 1 ∧ TY t = vc % 256) ∧ wc_inst (G (32 + a * 4)) (G t) HA vc) → xr_K post T nM nH xc xd xK xS xY xP none) : wpX_byInst post (nI T.1, xc, nI nM, xd, nI nH, xA, xR, xK, xS, xY, xP, xE) (nI a) (nI v) (nI t) := by
  obtain ⟨sA, pA, cA⟩ := hk_R_hs R ha
  obtain ⟨lA, gA, gcA⟩ := hk_I_hs I ha
  have vI := hk_I_var I hv
  rw [← evc] at vI
  rw [← eA] at sA pA lA gA
  obtain ⟨i1, i2, i3, i4, i5, i6, i7⟩ := I
  obtain ⟨r1, r2, r3⟩ := R
  obtain ⟨tyv, gv, -⟩ := i6 v hv
  obtain ⟨eYv, ehv⟩ := r2 v hv
  obtain ⟨tyt, gt, -⟩ := i6 t ht
  obtain ⟨eYt, eht⟩ := r2 t ht
  have hn := i1.2.1
  generalize G (32 + a * 4) = la at *
  have ref : ∀ (c : ¬ ((vc / 65536 = 1 ∧ TY t = vc % 256) ∧ wc_inst la (G t) HA vc)), post 0 (nI T.1, xc, nI nM, xd, nI nH, xA, xR, xK, xS, xY, xP, xE) := fun c => k0 c xA xR xK xS xP xE r1 hk_fr_r (fun _ _ => rfl)
  refine hk_ok1 (by omega) ha (br_f (by decide) ?_)
  refine xa_var hv (by omega) ehv gv (fun ek => br_f (by decide) ?_) (fun ek => br_t rfl (ref (fun c => ek (by rw [← evc]; exact c.1.1))))
  rw [← evc] at ek
  obtain ⟨v1, v2, v3⟩ := vI ek
  rw [v1] at ehv
  refine hk_ok1 (by omega) ht (br_f (by decide) ⟨vp_in_nI (by omega) (by omega), vp_in_nI (by omega) (by omega), ?_⟩)
  rw [nI_clamp (n := v) (by omega), nI_clamp (n := t) (by omega), eYv, eYt]
  refine pk_eq (TY v) (TY t) (fun et => ?_) (fun et => ref (fun c => et (by rw [v2, c.1.2])))
  refine xa_part a 0 ?_
  refine xa_part nH 0 ?_
  rw [Nat.add_zero, Nat.add_zero]
  have big := hk_sb_len gcA.2.1 gt.2.1 (vc := vc)
  refine xa_sub (by omega) (by omega) (by omega) (by omega) (by omega) (by omega) (by omega) gcA gt v3 cA ehv eht (fun K1 S1 h1 f1 => ⟨vp_in_nI (by omega) (by omega), ?_⟩)
  have F1 := hk_fr_w (V := fun s => 32 + nH * 4 ≤ s) f1 (fun s e => Nat.le_of_eq e.symm)
  try dsimp only
  rw [hk_sz h1 (by omega)]
  refine pk_le (hk_sb la vc (G t)).length 32 (fun z => ⟨vp_in_nI (by omega) (by omega), nm_r (e' := nI HA.length) (by rw [nI_clamp (by omega)]; exact pA) ⟨HA.length + 1, ?_⟩⟩) (fun z => k0 (fun c => by have := c.2.1; omega) xA xR K1 S1 xP xE r1 F1 (fun _ _ => rfl))
  refine xr_inst_l (by omega) ha (by omega) (by omega) lA gA gt ek v3 HA.length 0 K1 S1 xP [] (by omega) (xa_hs_fr f1 sA (fun i hi => by intro e; have e : 32 + a * 4 + 1 + i = 32 + nH * 4 := e; omega)) (hk_fr_h f1 (by omega) ehv) (hk_fr_h f1 (by omega) eht) (fun i hi => absurd hi (Nat.not_lt_zero i)) hP (by decide) hk_nilm ?_ ?_
  · rw [List.drop_zero]
    intro c1 c2 K2 S2 P2 h2 f2 q1 q2
    exact k1 ⟨⟨ek, by rw [← et, v2]⟩, z, c1, c2⟩ xA xR K2 S2 P2 xE r1 (hk_fr_h f2 (by omega) h1) h2 (hk_fr_t F1 (hk_fr_w f2 (fun s e => by have e : 32 + nH * 4 + 1 ≤ s := e; omega))) q1 q2
  · rw [List.drop_zero]
    intro c K2 S2 P2 f2 q2
    exact k0 (fun q => c ⟨q.2.2.1, q.2.2.2⟩) xA xR K2 S2 P2 xE r1 (hk_fr_t F1 (hk_fr_w f2 (fun s e => by have e : 32 + nH * 4 + 1 ≤ s := e; omega))) q2
end
