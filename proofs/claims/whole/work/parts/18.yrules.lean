/-! the reference's rules, continued -/
section
variable {y1 y2 y3 y4 y5 yn ym yh yc yd yw yl yk ye yp yq yr ys : Int32} {yM yL yY yA yR yP : Nat → Int32} {T : hk_T} {nM nH cM cH : Nat} {TY HC : Nat → Nat} {G : Nat → List Nat}
theorem yr_trans {post : Int32 → SY → Prop} {a b : Nat} {HA HB : List (List Nat)} (I : hk_I T nM TY nH HC G cM cH) (R : hk_R T nM TY nH HC G yA yR yY yP (hk_hy yM yL)) (hH : nH < cH) (ha : a < nH) (hb : b < nH) (eA : HA = hk_H G (32 + a * 4 + 1) (HC a)) (eB : HB = hk_H G (32 + b * 4 + 1) (HC b))
    (k1 : vc_trans (G (32 + a * 4)) (G (32 + b * 4)) HA HB → yr_K post T nM nH y1 y2 y3 y4 y5 yc yd yM yL yY yP (some (vl_trans (G (32 + a * 4)) (G (32 + b * 4)), hk_un [] (HA ++ HB), T)))
    (k0 : ¬ vc_trans (G (32 + a * 4)) (G (32 + b * 4)) HA HB → yr_K post T nM nH y1 y2 y3 y4 y5 yc yd yM yL yY yP none) : wpY_ruleTrans post (y1, y2, y3, y4, y5, nI T.1, nI nM, nI nH, yc, yd, yw, yl, nI 0, ye, yp, yq, yr, ys, yM, yL, yY, yA, yR, yP) (nI a) (nI b) := by
  obtain ⟨sA, pA, cA⟩ := hk_R_hs R ha
  obtain ⟨sB, pB, cB⟩ := hk_R_hs R hb
  obtain ⟨lA, gA, gcA⟩ := hk_I_hs I ha
  obtain ⟨lB, gB, gcB⟩ := hk_I_hs I hb
  rw [← eA] at sA pA lA gA
  rw [← eB] at sB pB lB gB
  obtain ⟨i1, i2, i3, i4, i5, i6, i7⟩ := I
  obtain ⟨r1, r2, r3⟩ := R
  generalize G (32 + a * 4) = la at *
  generalize G (32 + b * 4) = lb at *
  have la32 := gcA.2.1
  have lb32 := gcB.2.1
  have hn := i1.2.1
  have gAB : ∀ y, y ∈ HA ++ HB → hk_gt T.1 y := fun y hy => (List.mem_append.mp hy).elim (gA y) (gB y)
  have lAB : (HA ++ HB).length ≤ 6 := by rw [List.length_append]; omega
  refine hk_ok1 (by omega) ha (br_f (by decide) ?_)
  refine hk_ok1 (by omega) hb (br_f (by decide) ?_)
  refine ya_slot a 0 ?_
  refine ya_slot b 0 ?_
  rw [Nat.add_zero, Nat.add_zero]
  refine ya_split cB (by omega) gcB (fun eb => br_f (by decide) ?_) (fun eb => br_t rfl (k0 (fun c => eb c.2.1) yA yR yM yL yw yl _ ye yp yq yr ys r1 hk_fr_r))
  refine ya_split cA (by omega) gcA (fun ea => br_f (by decide) ?_) (fun ea => br_t rfl (k0 (fun c => ea c.1) yA yR yM yL yw yl _ _ _ _ _ _ r1 hk_fr_r))
  obtain ⟨t1, t2, t3, t4, t5, t6, t7⟩ := hk_ise_at gcA.1 ea
  obtain ⟨u1, u2, u3, u4, u5, u6, u7⟩ := hk_ise_at gcB.1 eb
  obtain ⟨-, -, -, -, ty, ty2, dA, -⟩ := hk_ise_sides gcA ea
  have dl : (la.drop (hk_e la 3)).take (la.length - hk_e la 3) = la.drop (hk_e la 3) := List.take_of_length_le (by rw [List.length_drop]; omega)
  refine ya_cmpp (oa := hk_e la 3) (ob := 3) (na := la.length - hk_e la 3) (nb := hk_e lb 3 - 3) cA cB (by omega) (by omega) gcA gcB (by omega) (by omega) rfl rfl (fun r hr => ?_)
  rw [dl] at hr
  refine br_c (fun z => ?_) (fun z => k0 (fun c => z (hr.mpr c.2.2.1)) yA yR yM yL yw yl _ _ _ _ _ _ r1 hk_fr_r)
  have es := hr.mp z
  refine ya_begin (o := 96) (by omega) (fun L1 q1 f1 => ?_)
  refine ya_head (a := hk_c la 2 % 256) (by omega) q1 rfl (fun M2 L2 q2 f2 => ?_)
  have f12 := hk_fr_t f1 f2
  refine ya_part (st := 3) (n := hk_e la 3 - 3) (by omega) (by omega) (by omega) (by omega) la32 q2 (hk_fr_hy f12 (by omega) cA) (by simp) rfl (fun M3 L3 q3 f3 => ?_)
  have f13 := hk_fr_t f12 f3
  refine ya_part (st := hk_e lb 3) (n := lb.length - hk_e lb 3) (by omega) (by omega) (by omega) (by omega) lb32 q3 (hk_fr_hy f13 (by omega) cB) (by rw [List.length_append, hk_fm_len]; show 3 + (hk_e la 3 - 3) < 90000; omega) rfl (fun M4 L4 q4 f4 => ?_)
  have FF := hk_fr_t f13 f4
  have QQ : hk_hy M4 L4 96 (vl_trans la lb) := q4
  have FG := hk_fr_w (V := fun s => 32 + nH * 4 ≤ s) FF (fun s e => by have e : s = 96 := e; omega)
  refine pk_le (min (vl_trans la lb).length 33) 32 (fun z2 => ?_) (fun z2 => k0 (fun c => by have := c.2.2.2.1; omega) yA yR M4 L4 _ _ _ _ _ _ _ _ r1 FG)
  have z3 : (vl_trans la lb).length ≤ 32 := by omega
  refine ya_add (C := []) (wf := fun _ => true) (n := T.1) (by omega) lA gA pA (ya_hs_fr FF sA (fun i hi => by omega)) (Or.inl ⟨rfl, fun _ => rfl⟩) (fun i hi => absurd hi (Nat.not_lt_zero i)) (by decide) ?_
  rw [hk_ft, List.nil_append]
  intro M6 L6 w6 wl6 h6 f6
  refine ya_add (C := HA) (wf := fun _ => true) (n := T.1) (by omega) lB gB pB (ya_hs_fr f6 (ya_hs_fr FF sB (fun i hi => by omega)) (fun i hi => by omega)) (Or.inl ⟨rfl, fun _ => rfl⟩) h6 lA ?_
  rw [hk_ft]
  intro M7 L7 w7 wl7 h7 f7
  have f67 := hk_fr_t f6 f7
  have F7 := hk_fr_t FG (hk_fr_w (V := fun s => 32 + nH * 4 ≤ s) f67 (fun s e => by have e : 100 ≤ s ∧ s < 108 := e; omega))
  have q7 := hk_fr_hy f67 (s := 96) (by omega) QQ
  refine ya_merge lAB gAB h7 (fun h3 M8 L8 w8 wl8 h8 f8 => br_t (nI_pos' (by omega)) ?_) (fun h3 M8 L8 w8 wl8 f8 => br_f hk_m1_nge (k0 (fun c => by have := c.2.2.2.2; omega) yA yR M8 L8 w8 wl8 _ _ _ _ _ _ r1 (hk_fr_t F7 (hk_fr_w f8 (fun s e => by have e : 97 ≤ s ∧ s < 100 := e; omega)))))
  refine ya_commit (by omega) z3 h3 (fun y hy => (hk_un_gt hk_nilm gAB y hy).2.1) (hk_fr_hy f8 (by omega) q7) h8 rfl (fun M9 L9 w9 wl9 h9 h10 f9 => ?_)
  exact k1 ⟨ea, eb, es, z3, h3⟩ yA yR M9 L9 w9 wl9 _ _ _ _ _ _ r1 h9 h10 (hk_fr_t (hk_fr_t F7 (hk_fr_w f8 (fun s e => by have e : 97 ≤ s ∧ s < 100 := e; omega))) (hk_fr_w f9 (fun s e => e.1)))
theorem yr_comb {post : Int32 → SY → Prop} {a b cc : Nat} {HA HB : List (List Nat)} (I : hk_I T nM TY nH HC G cM cH) (R : hk_R T nM TY nH HC G yA yR yY yP (hk_hy yM yL)) (hH : nH < cH) (ha : a < nH) (hb : b < nH) (eA : HA = hk_H G (32 + a * 4 + 1) (HC a)) (eB : HB = hk_H G (32 + b * 4 + 1) (HC b)) (hcc : cc = T.2.2 (hk_c (G (32 + a * 4)) 2 % 256))
    (k1 : vc_comb T cc (G (32 + a * 4)) (G (32 + b * 4)) HA HB → yr_K post T nM nH y1 y2 y3 y4 y5 yc yd yM yL yY yP (some (vl_comb cc (G (32 + a * 4)) (G (32 + b * 4)), hk_un [] (HA ++ HB), (hk_ie T cc).2)))
    (k0 : ¬ vc_comb T cc (G (32 + a * 4)) (G (32 + b * 4)) HA HB → yr_K post T nM nH y1 y2 y3 y4 y5 yc yd yM yL yY yP none) : wpY_ruleMkComb post (y1, y2, y3, y4, y5, nI T.1, nI nM, nI nH, yc, yd, yw, yl, nI 0, ye, yp, yq, yr, ys, yM, yL, yY, yA, yR, yP) (nI a) (nI b) := by
  obtain ⟨sA, pA, cA⟩ := hk_R_hs R ha
  obtain ⟨sB, pB, cB⟩ := hk_R_hs R hb
  obtain ⟨lA, gA, gcA⟩ := hk_I_hs I ha
  obtain ⟨lB, gB, gcB⟩ := hk_I_hs I hb
  rw [← eA] at sA pA lA gA
  rw [← eB] at sB pB lB gB
  obtain ⟨i1, i2, i3, i4, i5, i6, i7⟩ := I
  obtain ⟨r1, r2, r3⟩ := R
  generalize G (32 + a * 4) = la at *
  generalize G (32 + b * 4) = lb at *
  have la32 := gcA.2.1
  have lb32 := gcB.2.1
  have hn := i1.2.1
  have gAB : ∀ y, y ∈ HA ++ HB → hk_gt T.1 y := fun y hy => (List.mem_append.mp hy).elim (gA y) (gB y)
  have lAB : (HA ++ HB).length ≤ 6 := by rw [List.length_append]; omega
  refine hk_ok1 (by omega) ha (br_f (by decide) ?_)
  refine hk_ok1 (by omega) hb (br_f (by decide) ?_)
  refine ya_slot a 0 ?_
  refine ya_slot b 0 ?_
  rw [Nat.add_zero, Nat.add_zero]
  refine ya_split cB (by omega) gcB (fun eb => br_f (by decide) ?_) (fun eb => br_t rfl (k0 (fun c => eb c.2.1) yA yR yM yL yw yl _ ye yp yq yr ys r1 hk_fr_r))
  refine ya_split cA (by omega) gcA (fun ea => br_f (by decide) ?_) (fun ea => br_t rfl (k0 (fun c => ea c.1) yA yR yM yL yw yl _ _ _ _ _ _ r1 hk_fr_r))
  obtain ⟨t1, t2, t3, t4, t5, t6, t7⟩ := hk_ise_at gcA.1 ea
  obtain ⟨u1, u2, u3, u4, u5, u6, u7⟩ := hk_ise_at gcB.1 eb
  obtain ⟨-, -, -, -, fT, fT2, -, -⟩ := hk_ise_sides gcA ea
  obtain ⟨-, -, -, -, aT, aT2, -, -⟩ := hk_ise_sides gcB eb
  have nd2 := hk_nd_le T cc
  refine pk_lt (hk_c la 2 % 256) 3 (fun z => k0 (fun c => by have := c.2.2.1; omega) yA yR yM yL yw yl _ _ _ _ _ _ r1 hk_fr_r) (fun g3 => ?_)
  refine br_f (nI_ge fT (by omega)) ?_
  have V48 : vp_in (nI (hk_c la 2 % 256)) 48 := vp_in_nI (by omega) (by omega)
  have cT := (i1.2.2.2.2.2.2 _ g3 fT).2
  rw [← hcc] at cT
  have dT := (i1.2.2.2.2.2.2 _ g3 fT).1
  have eD : yA (nI (hk_c la 2 % 256)).toNatClampNeg = nI (T.2.1 (hk_c la 2 % 256)) := by rw [nI_clamp (by omega), (r1 _ g3 fT).1]
  have eR : yR (nI (hk_c la 2 % 256)).toNatClampNeg = nI cc := by rw [nI_clamp (by omega), (r1 _ g3 fT).2, hcc]
  refine ⟨V48, ?_⟩
  rw [eD]
  refine pk_eq (T.2.1 (hk_c la 2 % 256)) (hk_c lb 2 % 256) (fun gD => ⟨V48, nm_r eR ?_⟩) (fun gD => k0 (fun c => gD c.2.2.2.1) yA yR yM yL yw yl _ _ _ _ _ _ r1 hk_fr_r)
  refine ya_need r1 i1 cT ?_
  rw [nI_add]
  refine pk_le (T.1 + hk_nd T cc) 48 (fun fit => ?_) (fun fit => k0 (fun c => by have := c.2.2.2.2.2.2; omega) yA yR yM yL yw yl _ _ _ _ _ _ r1 hk_fr_r)
  refine ya_begin (o := 96) (by omega) (fun L1 q1 f1 => ?_)
  refine ya_head (a := cc) (by omega) q1 rfl (fun M2 L2 q2 f2 => ?_)
  have f12 := hk_fr_t f1 f2
  refine ya_emit (c := 196608) (by omega) q2 (by simp) rfl (fun M3 L3 q3 f3 => ?_)
  have f13 := hk_fr_t f12 f3
  refine ya_part (st := 3) (n := hk_e la 3 - 3) (by omega) (by omega) (by omega) (by omega) la32 q3 (hk_fr_hy f13 (by omega) cA) (by simp) rfl (fun M4 L4 q4 f4 => ?_)
  have f14 := hk_fr_t f13 f4
  have n3 : ([196608, 196608, 131072 + cc] ++ [196608] ++ hk_fm (fun q => [hk_c la q]) 3 (hk_e la 3 - 3)).length = 4 + (hk_e la 3 - 3) := by
    rw [List.length_append, hk_fm_len]; rfl
  refine ya_part (st := 3) (n := hk_e lb 3 - 3) (by omega) (by omega) (by omega) (by omega) lb32 q4 (hk_fr_hy f14 (by omega) cB) (by omega) rfl (fun M5 L5 q5 f5 => ?_)
  have f15 := hk_fr_t f14 f5
  refine ya_emit (c := 196608) (by omega) q5 (by rw [List.length_append, hk_fm_len]; omega) rfl (fun N6 P6 q6 g6 => ?_)
  have f16 := hk_fr_t f15 g6
  refine ya_part (st := hk_e la 3) (n := la.length - hk_e la 3) (by omega) (by omega) (by omega) (by omega) la32 q6 (hk_fr_hy f16 (by omega) cA) (by rw [List.length_append, List.length_append, hk_fm_len, n3]; show 4 + (hk_e la 3 - 3) + (hk_e lb 3 - 3) + 1 < 90000; omega) rfl (fun N7 P7 q7' g7 => ?_)
  have f17 := hk_fr_t f16 g7
  refine ya_part (st := hk_e lb 3) (n := lb.length - hk_e lb 3) (by omega) (by omega) (by omega) (by omega) lb32 q7' (hk_fr_hy f17 (by omega) cB) (by rw [List.length_append, List.length_append, List.length_append, hk_fm_len, hk_fm_len, n3]; show 4 + (hk_e la 3 - 3) + (hk_e lb 3 - 3) + 1 + (la.length - hk_e la 3) < 90000; omega) rfl (fun M4 L4 q4 f4 => ?_)
  have FF := hk_fr_t f17 f4
  have QQ : hk_hy M4 L4 96 (vl_comb cc la lb) := q4
  have FG := hk_fr_w (V := fun s => 32 + nH * 4 ≤ s) FF (fun s e => by have e : s = 96 := e; omega)
  refine pk_le (min (vl_comb cc la lb).length 33) 32 (fun z2 => ?_) (fun z2 => k0 (fun c => by have := c.2.2.2.2.1; omega) yA yR M4 L4 _ _ _ _ _ _ _ _ r1 FG)
  have z3 : (vl_comb cc la lb).length ≤ 32 := by omega
  refine ya_add (C := []) (wf := fun _ => true) (n := T.1) (by omega) lA gA pA (ya_hs_fr FF sA (fun i hi => by omega)) (Or.inl ⟨rfl, fun _ => rfl⟩) (fun i hi => absurd hi (Nat.not_lt_zero i)) (by decide) ?_
  rw [hk_ft, List.nil_append]
  intro M6 L6 w6 wl6 h6 f6
  refine ya_add (C := HA) (wf := fun _ => true) (n := T.1) (by omega) lB gB pB (ya_hs_fr f6 (ya_hs_fr FF sB (fun i hi => by omega)) (fun i hi => by omega)) (Or.inl ⟨rfl, fun _ => rfl⟩) h6 lA ?_
  rw [hk_ft]
  intro M7 L7 w7 wl7 h7 f7
  have f67 := hk_fr_t f6 f7
  have F7 := hk_fr_t FG (hk_fr_w (V := fun s => 32 + nH * 4 ≤ s) f67 (fun s e => by have e : 100 ≤ s ∧ s < 108 := e; omega))
  have q7 := hk_fr_hy f67 (s := 96) (by omega) QQ
  refine ya_merge lAB gAB h7 (fun h3 M8 L8 w8 wl8 h8 f8 => br_t (nI_pos' (by omega)) ?_) (fun h3 M8 L8 w8 wl8 f8 => br_f hk_m1_nge (k0 (fun c => by have := c.2.2.2.2.2.1; omega) yA yR M8 L8 w8 wl8 _ _ _ _ _ _ r1 (hk_fr_t F7 (hk_fr_w f8 (fun s e => by have e : 97 ≤ s ∧ s < 100 := e; omega)))))
  refine ya_internEq r1 i1 cT (hk_fit1 fit) (fun A R hb' => ?_)
  refine ya_commit (by omega) z3 h3 (fun y hy => (hk_un_gt hk_nilm gAB y hy).2.1) (hk_fr_hy f8 (by omega) q7) h8 rfl (fun M9 L9 w9 wl9 h9 h10 f9 => ?_)
  exact k1 ⟨ea, eb, g3, gD, z3, h3, fit⟩ A R M9 L9 w9 wl9 _ _ _ _ _ _ hb' h9 h10 (hk_fr_t (hk_fr_t F7 (hk_fr_w f8 (fun s e => by have e : 97 ≤ s ∧ s < 100 := e; omega))) (hk_fr_w f9 (fun s e => e.1)))
theorem yr_mp {post : Int32 → SY → Prop} {a b : Nat} {HA HB : List (List Nat)} (I : hk_I T nM TY nH HC G cM cH) (R : hk_R T nM TY nH HC G yA yR yY yP (hk_hy yM yL)) (hH : nH < cH) (ha : a < nH) (hb : b < nH) (eA : HA = hk_H G (32 + a * 4 + 1) (HC a)) (eB : HB = hk_H G (32 + b * 4 + 1) (HC b))
    (k1 : vc_mp (G (32 + a * 4)) (G (32 + b * 4)) HA HB → yr_K post T nM nH y1 y2 y3 y4 y5 yc yd yM yL yY yP (some (vl_mp (G (32 + a * 4)), hk_un [] (HA ++ HB), T)))
    (k0 : ¬ vc_mp (G (32 + a * 4)) (G (32 + b * 4)) HA HB → yr_K post T nM nH y1 y2 y3 y4 y5 yc yd yM yL yY yP none) : wpY_ruleEqMp post (y1, y2, y3, y4, y5, nI T.1, nI nM, nI nH, yc, yd, yw, yl, nI 0, ye, yp, yq, yr, ys, yM, yL, yY, yA, yR, yP) (nI a) (nI b) := by
  obtain ⟨sA, pA, cA⟩ := hk_R_hs R ha
  obtain ⟨sB, pB, cB⟩ := hk_R_hs R hb
  obtain ⟨lA, gA, gcA⟩ := hk_I_hs I ha
  obtain ⟨lB, gB, gcB⟩ := hk_I_hs I hb
  rw [← eA] at sA pA lA gA
  rw [← eB] at sB pB lB gB
  obtain ⟨i1, i2, i3, i4, i5, i6, i7⟩ := I
  obtain ⟨r1, r2, r3⟩ := R
  generalize G (32 + a * 4) = la at *
  generalize G (32 + b * 4) = lb at *
  have la32 := gcA.2.1
  have lb32 := gcB.2.1
  have hn := i1.2.1
  have gAB : ∀ y, y ∈ HA ++ HB → hk_gt T.1 y := fun y hy => (List.mem_append.mp hy).elim (gA y) (gB y)
  have lAB : (HA ++ HB).length ≤ 6 := by rw [List.length_append]; omega
  refine hk_ok1 (by omega) ha (br_f (by decide) ?_)
  refine hk_ok1 (by omega) hb (br_f (by decide) ?_)
  refine ya_slot a 0 ?_
  refine ya_slot b 0 ?_
  rw [Nat.add_zero, Nat.add_zero]
  refine ya_split cA (by omega) gcA (fun ea => br_f (by decide) ?_) (fun ea => br_t rfl (k0 (fun c => ea c.1) yA yR yM yL yw yl _ ye yp yq yr ys r1 hk_fr_r))
  obtain ⟨t1, t2, t3, t4, t5, t6, t7⟩ := hk_ise_at gcA.1 ea
  have dl : (lb.drop 0).take lb.length = lb := by rw [List.drop_zero, List.take_length]
  refine ⟨vp_in_nI (by omega) (by omega), ?_⟩
  refine ya_cmpp (oa := 3) (ob := 0) (na := hk_e la 3 - 3) (nb := lb.length) cA cB (by omega) (by omega) gcA gcB (by omega) (by omega) rfl (hk_szy cB (by omega) lb32) (fun r hr => ?_)
  rw [dl] at hr
  refine br_c (fun z => ?_) (fun z => k0 (fun c => z (hr.mpr c.2.1)) yA yR yM yL yw yl _ _ _ _ _ _ r1 hk_fr_r)
  have es := hr.mp z
  refine ya_begin (o := 96) (by omega) (fun L1 q1 f1 => ?_)
  refine ya_part (st := hk_e la 3) (n := la.length - hk_e la 3) (by omega) (by omega) (by omega) (by omega) la32 q1 (hk_fr_hy f1 (by omega) cA) (by decide) rfl (fun M4 L4 q4 f4 => ?_)
  have FF := hk_fr_t f1 f4
  have QQ : hk_hy M4 L4 96 (vl_mp la) := q4
  have FG := hk_fr_w (V := fun s => 32 + nH * 4 ≤ s) FF (fun s e => by have e : s = 96 := e; omega)
  have z3 := (vg_mp gcA ea).2.1
  refine ya_add (C := []) (wf := fun _ => true) (n := T.1) (by omega) lA gA pA (ya_hs_fr FF sA (fun i hi => by omega)) (Or.inl ⟨rfl, fun _ => rfl⟩) (fun i hi => absurd hi (Nat.not_lt_zero i)) (by decide) ?_
  rw [hk_ft, List.nil_append]
  intro M6 L6 w6 wl6 h6 f6
  refine ya_add (C := HA) (wf := fun _ => true) (n := T.1) (by omega) lB gB pB (ya_hs_fr f6 (ya_hs_fr FF sB (fun i hi => by omega)) (fun i hi => by omega)) (Or.inl ⟨rfl, fun _ => rfl⟩) h6 lA ?_
  rw [hk_ft]
  intro M7 L7 w7 wl7 h7 f7
  have f67 := hk_fr_t f6 f7
  have F7 := hk_fr_t FG (hk_fr_w (V := fun s => 32 + nH * 4 ≤ s) f67 (fun s e => by have e : 100 ≤ s ∧ s < 108 := e; omega))
  have q7 := hk_fr_hy f67 (s := 96) (by omega) QQ
  refine ya_merge lAB gAB h7 (fun h3 M8 L8 w8 wl8 h8 f8 => br_t (nI_pos' (by omega)) ?_) (fun h3 M8 L8 w8 wl8 f8 => br_f hk_m1_nge (k0 (fun c => by have := c.2.2; omega) yA yR M8 L8 w8 wl8 _ _ _ _ _ _ r1 (hk_fr_t F7 (hk_fr_w f8 (fun s e => by have e : 97 ≤ s ∧ s < 100 := e; omega)))))
  refine ya_commit (by omega) z3 h3 (fun y hy => (hk_un_gt hk_nilm gAB y hy).2.1) (hk_fr_hy f8 (by omega) q7) h8 rfl (fun M9 L9 w9 wl9 h9 h10 f9 => ?_)
  exact k1 ⟨ea, es, h3⟩ yA yR M9 L9 w9 wl9 _ _ _ _ _ _ r1 h9 h10 (hk_fr_t (hk_fr_t F7 (hk_fr_w f8 (fun s e => by have e : 97 ≤ s ∧ s < 100 := e; omega))) (hk_fr_w f9 (fun s e => e.1)))
theorem yr_ded {post : Int32 → SY → Prop} {a b : Nat} {HA HB : List (List Nat)} (I : hk_I T nM TY nH HC G cM cH) (R : hk_R T nM TY nH HC G yA yR yY yP (hk_hy yM yL)) (hH : nH < cH) (ha : a < nH) (hb : b < nH) (eA : HA = hk_H G (32 + a * 4 + 1) (HC a)) (eB : HB = hk_H G (32 + b * 4 + 1) (HC b))
    (k1 : vc_ded (G (32 + a * 4)) (G (32 + b * 4)) HA HB → yr_K post T nM nH y1 y2 y3 y4 y5 yc yd yM yL yY yP (some (hk_eq 0 (G (32 + a * 4)) (G (32 + b * 4)), vh_ded (G (32 + a * 4)) (G (32 + b * 4)) HA HB, T)))
    (k0 : ¬ vc_ded (G (32 + a * 4)) (G (32 + b * 4)) HA HB → yr_K post T nM nH y1 y2 y3 y4 y5 yc yd yM yL yY yP none) : wpY_ruleDeduct post (y1, y2, y3, y4, y5, nI T.1, nI nM, nI nH, yc, yd, yw, yl, nI 0, ye, yp, yq, yr, ys, yM, yL, yY, yA, yR, yP) (nI a) (nI b) := by
  obtain ⟨sA, pA, cA⟩ := hk_R_hs R ha
  obtain ⟨sB, pB, cB⟩ := hk_R_hs R hb
  obtain ⟨lA, gA, gcA⟩ := hk_I_hs I ha
  obtain ⟨lB, gB, gcB⟩ := hk_I_hs I hb
  rw [← eA] at sA pA lA gA
  rw [← eB] at sB pB lB gB
  obtain ⟨i1, i2, i3, i4, i5, i6, i7⟩ := I
  obtain ⟨r1, r2, r3⟩ := R
  generalize G (32 + a * 4) = la at *
  generalize G (32 + b * 4) = lb at *
  have la32 := gcA.2.1
  have lb32 := gcB.2.1
  have hn := i1.2.1
  have gAB : ∀ y, y ∈ HA ++ HB → hk_gt T.1 y := fun y hy => (List.mem_append.mp hy).elim (gA y) (gB y)
  have lAB : (HA ++ HB).length ≤ 6 := by rw [List.length_append]; omega
  refine hk_ok1 (by omega) ha (br_f (by decide) ?_)
  refine hk_ok1 (by omega) hb (br_f (by decide) ?_)
  refine ya_slot a 0 ?_
  refine ya_slot b 0 ?_
  rw [Nat.add_zero, Nat.add_zero]
  have VA : vp_in (nI (32 + a * 4)) 110 := vp_in_nI (by omega) (by omega)
  have VB : vp_in (nI (32 + b * 4)) 110 := vp_in_nI (by omega) (by omega)
  refine ya_begin (o := 96) (by omega) (fun L1 q1 f1 => ?_)
  refine ya_head (a := 0) (by omega) q1 rfl (fun M2 L2 q2 f2 => ⟨VA, ?_⟩)
  have f12 := hk_fr_t f1 f2
  have cA2 := hk_fr_hy f12 (s := 32 + a * 4) (by omega) cA
  refine ya_all (by omega) (by omega) (by omega) la32 q2 cA2 (by simp) (hk_szy cA2 (by omega) la32) (fun M3 L3 q3 f3 => ⟨VB, ?_⟩)
  have f13 := hk_fr_t f12 f3
  have cB3 := hk_fr_hy f13 (s := 32 + b * 4) (by omega) cB
  refine ya_all (by omega) (by omega) (by omega) lb32 q3 cB3 (by rw [List.length_append]; show 3 + la.length < 90000; omega) (hk_szy cB3 (by omega) lb32) (fun M4 L4 q4 f4 => ?_)
  have FF := hk_fr_t f13 f4
  have QQ : hk_hy M4 L4 96 (hk_eq 0 la lb) := q4
  have FG := hk_fr_w (V := fun s => 32 + nH * 4 ≤ s) FF (fun s e => by have e : s = 96 := e; omega)
  have el := hk_eq_len 0 la lb
  refine pk_le (min (hk_eq 0 la lb).length 33) 32 (fun z2 => ⟨VB, ?_⟩) (fun z2 => k0 (fun c => by have := c.2; omega) yA yR M4 L4 _ _ _ _ _ _ _ _ r1 FG)
  have z3 : (hk_eq 0 la lb).length ≤ 32 := by omega
  have cA4 := hk_fr_hy FF (s := 32 + a * 4) (by omega) cA
  have cB4 := hk_fr_hy FF (s := 32 + b * 4) (by omega) cB
  refine ya_add (C := []) (wf := hk_ne lb) (n := T.1) (by omega) lA gA pA (ya_hs_fr FF sA (fun i hi => by omega)) (Or.inr ⟨32 + b * 4, lb, rfl, rfl, hk_szy cB4 (by omega) lb32, by omega, gcB, cB4, hk_ne_iff lb⟩) (fun i hi => absurd hi (Nat.not_lt_zero i)) (by decide) ?_
  rw [List.nil_append]
  intro M6 L6 w6 wl6 h6 f6
  refine ⟨VA, ?_⟩
  have cA6 := hk_fr_hy f6 (s := 32 + a * 4) (by omega) cA4
  have lfA := List.length_filter_le (hk_ne lb) HA
  have lfB := List.length_filter_le (hk_ne la) HB
  refine ya_add (C := HA.filter (hk_ne lb)) (wf := hk_ne la) (n := T.1) (by omega) lB gB pB (ya_hs_fr f6 (ya_hs_fr FF sB (fun i hi => by omega)) (fun i hi => by omega)) (Or.inr ⟨32 + a * 4, la, rfl, rfl, hk_szy cA6 (by omega) la32, by omega, gcA, cA6, hk_ne_iff la⟩) h6 (by omega) ?_
  intro M7 L7 w7 wl7 h7 f7
  have f67 := hk_fr_t f6 f7
  have F7 := hk_fr_t FG (hk_fr_w (V := fun s => 32 + nH * 4 ≤ s) f67 (fun s e => by have e : 100 ≤ s ∧ s < 108 := e; omega))
  have q7 := hk_fr_hy f67 (s := 96) (by omega) QQ
  have gF : ∀ y, y ∈ HA.filter (hk_ne lb) ++ HB.filter (hk_ne la) → hk_gt T.1 y := fun y hy => (List.mem_append.mp hy).elim (fun z => gA y ((List.mem_filter.mp z).1)) (fun z => gB y ((List.mem_filter.mp z).1))
  have lF : (HA.filter (hk_ne lb) ++ HB.filter (hk_ne la)).length ≤ 6 := by rw [List.length_append]; omega
  refine ya_merge lF gF h7 (fun h3 M8 L8 w8 wl8 h8 f8 => br_t (nI_pos' (by omega)) ?_) (fun h3 M8 L8 w8 wl8 f8 => br_f hk_m1_nge (k0 (fun c => by have := c.1; unfold vh_ded at this; omega) yA yR M8 L8 w8 wl8 _ _ _ _ _ _ r1 (hk_fr_t F7 (hk_fr_w f8 (fun s e => by have e : 97 ≤ s ∧ s < 100 := e; omega)))))
  refine ya_commit (by omega) z3 h3 (fun y hy => (hk_un_gt hk_nilm gF y hy).2.1) (hk_fr_hy f8 (by omega) q7) h8 rfl (fun M9 L9 w9 wl9 h9 h10 f9 => ?_)
  exact k1 ⟨h3, z3⟩ yA yR M9 L9 w9 wl9 _ _ _ _ _ _ r1 h9 h10 (hk_fr_t (hk_fr_t F7 (hk_fr_w f8 (fun s e => by have e : 97 ≤ s ∧ s < 100 := e; omega))) (hk_fr_w f9 (fun s e => e.1)))
end
