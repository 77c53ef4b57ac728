/-! the reference's rules -/
section
variable {y1 y2 y3 y4 y5 yn ym yh yc yd yw yl yk ye yp yq yr ys : Int32} {yM yL yY yA yR yP : Nat → Int32} {T : hk_T} {nM nH cM cH : Nat} {TY HC : Nat → Nat} {G : Nat → List Nat}
/-- t = r, where what r is stands in slot 108 -/
theorem yr_eqt {post : Int32 → SY → Prop} {t ty : Nat} {l r : List Nat} (M0 L0 : Nat → Int32) (hb : hk_tb T yA yR) (hT : hk_ti T) (hty : ty < T.1) (hH : nH < 16) (ht : t < 32) (ll : l.length ≤ 32) (lr : r.length < 100000) (h1 : hk_hy yM yL t l) (h2 : hk_hy yM yL 108 r) (fit : T.1 + hk_nd T ty ≤ 48) (fr : hk_fr (fun s => 32 + nH * 4 ≤ s) M0 L0 yM yL)
    (k1 : (hk_eq ty l r).length ≤ 32 → yr_K post T nM nH y1 y2 y3 y4 y5 yc yd M0 L0 yY yP (some (hk_eq ty l r, [], (hk_ie T ty).2)))
    (k0 : ¬ (hk_eq ty l r).length ≤ 32 → yr_K post T nM nH y1 y2 y3 y4 y5 yc yd M0 L0 yY yP none) : wY_ruleEqTerm_215 post (nI t) (nI ty) y1 y2 y3 y4 y5 (nI T.1) (nI nM) (nI nH) yc yd yw yl yk ye yp yq yr ys yM yL yY yA yR yP := by
  have el := hk_eq_len ty l r
  refine pk_le (min r.length 33) 32 (fun z => ?_) (fun z => k0 (by omega) yA yR yM yL yw yl yk ye yp yq yr ys hb fr) h2.1 rfl
  have lr : r.length ≤ 32 := by omega
  refine ya_begin (o := 96) (by omega) (fun L1 q1 f1 => ?_)
  refine ya_head (a := ty) (by omega) q1 rfl (fun M2 L2 q2 f2 => ⟨vp_in_nI (by omega) (by omega), ?_⟩)
  have f12 := hk_fr_t f1 f2
  have t2 := hk_fr_hy f12 (s := t) (by omega) h1
  refine ya_all (by omega) (by omega) (by omega) ll q2 t2 (by simp) (hk_szy t2 (by omega) ll) (fun M3 L3 q3 f3 => ?_)
  have f13 := hk_fr_t f12 f3
  have r3 := hk_fr_hy f13 (s := 108) (by omega) h2
  refine ya_all (s := 108) (by omega) (by omega) (by omega) lr q3 r3 (by rw [List.length_append]; show 3 + l.length < 90000; omega) (hk_szc r3 lr) (fun M4 L4 q4 f4 => ?_)
  have f14 := hk_fr_t f13 f4
  have F14 := hk_fr_t fr (hk_fr_w (V := fun s => 32 + nH * 4 ≤ s) f14 (fun s e => by have e : s = 96 := e; omega))
  have q4 : hk_hy M4 L4 96 (hk_eq ty l r) := q4
  refine pk_le (min (hk_eq ty l r).length 33) 32 (fun w => ?_) (fun w => k0 (by omega) yA yR M4 L4 _ _ yk ye yp yq yr ys hb F14)
  refine ya_internEq hb hT hty (hk_fit1 fit) (fun A R hb' => ?_)
  refine ya_commit (H := []) hH (by omega) (by decide) (fun y hy => absurd hy List.not_mem_nil) q4 (fun i hi => absurd hi (Nat.not_lt_zero i)) rfl (fun M5 L5 w5 wl5 q5 h5 f5 => ?_)
  exact k1 (by omega) A R M5 L5 w5 wl5 yk ye yp yq yr ys hb' q5 h5 (hk_fr_t F14 (hk_fr_w f5 (fun s e => e.1)))
theorem yr_eq0 {post : Int32 → SY → Prop} {x kd : Int32} (hb : hk_tb T yA yR) (h : ∀ j, j < nM → x ≠ nI j) (k : yr_K post T nM nH y1 y2 y3 y4 y5 yc yd yM yL yY yP none) : wpY_ruleEqTerm post (y1, y2, y3, y4, y5, nI T.1, nI nM, nI nH, yc, yd, yw, yl, yk, ye, yp, yq, yr, ys, yM, yL, yY, yA, yR, yP) kd x :=
  hk_ok0 h (br_t rfl (k yA yR yM yL yw yl yk ye yp yq yr ys hb hk_fr_r))
theorem yr_refl {post : Int32 → SY → Prop} {t : Nat} (I : hk_I T nM TY nH HC G cM cH) (R : hk_R T nM TY nH HC G yA yR yY yP (hk_hy yM yL)) (hH : nH < cH) (ht : t < nM)
    (k1 : hk_fq T (TY t) (G t) (G t) → yr_K post T nM nH y1 y2 y3 y4 y5 yc yd yM yL yY yP (some (hk_eq (TY t) (G t) (G t), [], (hk_ie T (TY t)).2))) (k0 : ¬ hk_fq T (TY t) (G t) (G t) → yr_K post T nM nH y1 y2 y3 y4 y5 yc yd yM yL yY yP none) : wpY_ruleEqTerm post (y1, y2, y3, y4, y5, nI T.1, nI nM, nI nH, yc, yd, yw, yl, yk, ye, yp, yq, yr, ys, yM, yL, yY, yA, yR, yP) 1 (nI t) := by
  obtain ⟨i1, i2, i3, i4, i5, i6, i7⟩ := I
  obtain ⟨r1, r2, r3⟩ := R
  obtain ⟨ty, g, -⟩ := i6 t ht
  obtain ⟨eY, eh⟩ := r2 t ht
  have hn := i1.2.1
  have nd2 := hk_nd_le T (TY t)
  refine hk_ok1 (by omega) ht (br_f (by decide) ⟨vp_in_nI (by omega) (by omega), nm_r (e' := nI (TY t)) (by rw [nI_clamp (by omega)]; exact eY) ?_⟩)
  refine ya_need r1 i1 ty ?_
  rw [nI_add]
  refine pk_le (T.1 + hk_nd T (TY t)) 48 (fun fit => ?_) (fun fit => k0 (fun c => by have := c.2; omega) yA yR yM yL yw yl yk ye yp yq yr ys r1 hk_fr_r)
  refine ya_begin (o := 108) (by omega) (fun L1 q1 f1 => ⟨vp_in_nI (by omega) (by omega), ?_⟩)
  have t1 := hk_fr_hy f1 (s := t) (by omega) eh
  refine ya_all (by omega) (by omega) (by omega) g.2.1 q1 t1 (by decide) (hk_szy t1 (by omega) g.2.1) (fun M2 L2 q2 f2 => ?_)
  have f12 := hk_fr_t f1 f2
  refine br_f (by decide) (br_f (by decide) ?_)
  exact yr_eqt (r := G t) yM yL r1 i1 ty (by omega) (by omega) g.2.1 (by have := g.2.1; omega) (hk_fr_hy f12 (by omega) eh) q2 fit (hk_fr_w f12 (fun s e => by have e : s = 108 := e; omega)) (fun c => k1 ⟨c, fit⟩) (fun c => k0 (fun q => c q.1))
theorem yr_beta {post : Int32 → SY → Prop} {t : Nat} (I : hk_I T nM TY nH HC G cM cH) (R : hk_R T nM TY nH HC G yA yR yY yP (hk_hy yM yL)) (hH : nH < cH) (ht : t < nM)
    (k1 : hk_rx (G t) 0 ∧ hk_fq T (TY t) (G t) (hk_con (G t) 0) → yr_K post T nM nH y1 y2 y3 y4 y5 yc yd yM yL yY yP (some (hk_eq (TY t) (G t) (hk_con (G t) 0), [], (hk_ie T (TY t)).2))) (k0 : ¬ (hk_rx (G t) 0 ∧ hk_fq T (TY t) (G t) (hk_con (G t) 0)) → yr_K post T nM nH y1 y2 y3 y4 y5 yc yd yM yL yY yP none) : wpY_ruleEqTerm post (y1, y2, y3, y4, y5, nI T.1, nI nM, nI nH, yc, yd, yw, yl, yk, ye, yp, yq, yr, ys, yM, yL, yY, yA, yR, yP) 5 (nI t) := by
  obtain ⟨i1, i2, i3, i4, i5, i6, i7⟩ := I
  obtain ⟨r1, r2, r3⟩ := R
  obtain ⟨ty, g, -⟩ := i6 t ht
  obtain ⟨eY, eh⟩ := r2 t ht
  have hn := i1.2.1
  have nd2 := hk_nd_le T (TY t)
  have l32 := g.2.1
  refine hk_ok1 (by omega) ht (br_f (by decide) ⟨vp_in_nI (by omega) (by omega), nm_r (e' := nI (TY t)) (by rw [nI_clamp (by omega)]; exact eY) ?_⟩)
  refine ya_need r1 i1 ty ?_
  rw [nI_add]
  refine pk_le (T.1 + hk_nd T (TY t)) 48 (fun fit => ?_) (fun fit => k0 (fun c => by have := c.2.2; omega) yA yR yM yL yw yl yk ye yp yq yr ys r1 hk_fr_r)
  refine ya_begin (o := 108) (by omega) (fun L1 q1 f1 => ⟨vp_in_nI (by omega) (by omega), ?_⟩)
  have t1 := hk_fr_hy f1 (s := t) (by omega) eh
  refine ya_all (by omega) (by omega) (by omega) l32 q1 t1 (by decide) (hk_szy t1 (by omega) l32) (fun M2 L2 q2 f2 => ?_)
  have f12 := hk_fr_t f1 f2
  have F12 := hk_fr_w (V := fun s => 32 + nH * 4 ≤ s) f12 (fun s e => by have e : s = 108 := e; omega)
  have t2 := hk_fr_hy f12 (s := t) (by omega) eh
  refine br_t rfl ?_
  have l0 := hk_gt_pos g
  have c0 := (hk_gt_c g l0).1
  refine ya_nd (p := 0) t2 (by omega) l0 (by omega) ⟨by decide, ?_⟩
  rw [hk_kd c0]
  refine pk_eq (hk_c (G t) 0 / 65536) 3 (fun e0 => ?_) (fun e => k0 (fun c => e c.1.2.1) yA yR M2 L2 _ _ yk ye yp yq yr ys r1 F12)
  have a1 := hk_at_s (hk_at0 g.1)
  rw [hk_ar_3 e0] at a1
  have l1 := hk_at_lt a1
  have c1 : hk_c (G t) 1 < 524288 := (hk_gt_c g l1).1
  refine ya_nd (p := 1) t2 (by omega) l1 (by omega) ⟨by decide, ?_⟩
  rw [hk_kd c1]
  refine pk_eq (hk_c (G t) 1 / 65536) 4 (fun e1 => ?_) (fun e => k0 (fun c => e c.1.2.2) yA yR M2 L2 _ _ yk ye yp yq yr ys r1 F12)
  have rx : hk_rx (G t) 0 := ⟨l1, e0, e1⟩
  have big := hk_con_len g.1 l32 rx
  refine ya_begin (o := 108) (by omega) (fun L3 q3 f3 => ⟨vp_in_nI (by omega) (by omega), ?_⟩)
  have t3 := hk_fr_hy f3 (s := t) (by omega) t2
  refine ya_contract (r := 0) (by omega) (by omega) (by omega) g rx q3 t3 (hk_szy t3 (by omega) l32) (fun M4 L4 q4 f4 => ?_)
  have f34 := hk_fr_t f3 f4
  refine br_f (by decide) ?_
  exact yr_eqt yM yL r1 i1 ty (by omega) (by omega) l32 (by omega) (hk_fr_hy f34 (by omega) t2) q4 fit (hk_fr_t F12 (hk_fr_w f34 (fun s e => by have e : s = 108 := e; omega))) (fun c => k1 ⟨rx, c, fit⟩) (fun c => k0 (fun q => c q.2.1))
theorem yr_norm_l {post : Int32 → SY → Prop} {t ty n : Nat} (M0 L0 : Nat → Int32) :
    ∀ (d st : Nat) (M L : Nat → Int32) (w wl : Int32) (cur : List Nat), st + d = 64 → hk_gt n cur → hk_hy M L 108 cur → hk_fr (fun s => s = 108 ∨ s = 109) M0 L0 M L →
      (∀ r, hk_nf d cur = some r → ∀ (M' L' : Nat → Int32) (w' wl' : Int32), hk_hy M' L' 108 r → hk_fr (fun s => s = 108 ∨ s = 109) M0 L0 M' L' → wY_ruleEqTerm_208 post (nI t) (nI ty) 1 y1 y2 y3 y4 y5 yn ym yh yc yd w' wl' yk ye yp yq yr ys M' L' yY yA yR yP) →
      (hk_nf d cur = none → ∀ (M' L' : Nat → Int32) (w' wl' : Int32), hk_fr (fun s => s = 108 ∨ s = 109) M0 L0 M' L' → post (-1) (y1, y2, y3, y4, y5, yn, ym, yh, yc, yd, w', wl', yk, ye, yp, yq, yr, ys, M', L', yY, yA, yR, yP)) →
      wY_ruleEqTerm_115 post (nI t) (nI ty) 0 (d + 1) (nI st) y1 y2 y3 y4 y5 yn ym yh yc yd w wl yk ye yp yq yr ys M L yY yA yR yP := by
  intro d
  induction d with
  | zero =>
    intro st M L w wl cur hst g h fr kS k0
    refine br_f (nI_nlt (a := 64) (by omega) (by omega)) ?_
    refine ya_lr (s := 108) h (by omega) g ?_
    cases e : hk_lr cur cur.length 0 with
    | none => exact br_f hk_m1_nge (kS cur (hk_nf_n 0 e) M L w wl h fr)
    | some r =>
      have q := (hk_lr_in e).1
      have hl := g.2.1
      exact br_t (hk_o_ge (by omega)) (pk_eq st 64 (fun _ => k0 (hk_nf_0 e) M L w wl fr) (fun z => by omega))
  | succ d ih =>
    intro st M L w wl cur hst g h fr kS k0
    refine br_f (nI_nlt (a := 64) (by omega) (by omega)) ?_
    refine ya_lr (s := 108) h (by omega) g ?_
    cases e : hk_lr cur cur.length 0 with
    | none => exact br_f hk_m1_nge (kS cur (hk_nf_n (d + 1) e) M L w wl h fr)
    | some r =>
      have rx := hk_lr_in e
      have q := rx.1
      have hl := g.2.1
      have big := hk_con_len g.1 hl rx
      refine br_t (hk_o_ge (by omega)) (pk_eq st 64 (fun z => by omega) (fun z => ?_))
      refine ya_begin (o := 109) (by omega) (fun L1 q1 f1 => ?_)
      have h1 := hk_fr_hy f1 (s := 108) (by omega) h
      refine ya_contract (s := 108) (r := r) (by omega) (by omega) (by omega) g rx q1 h1 (hk_szc h1 hl) (fun M2 L2 q2 f2 => ?_)
      have fr2 := hk_fr_t fr (hk_fr_w (V := fun s => s = 108 ∨ s = 109) (hk_fr_t f1 f2) (fun s e => Or.inr e))
      refine pk_le (min (hk_con cur r).length 33) 32 (fun z2 => ?_) (fun z2 => k0 (hk_nf_z e (by omega)) M2 L2 _ _ fr2)
      have z3 : (hk_con cur r).length ≤ 32 := by omega
      rw [hk_nf_s e z3] at kS k0
      have g1 := hk_con_gt g rx z3
      refine ya_begin (o := 108) (by omega) (fun L3 q3 f3 => ?_)
      have h3 := hk_fr_hy f3 (s := 109) (by omega) q2
      refine ya_all (s := 109) (by omega) (by omega) (by omega) z3 q3 h3 (by decide) (hk_szc h3 z3) (fun M4 L4 q4 f4 => ?_)
      refine nm_r (nI_1 _) ?_
      exact ih (st + 1) M4 L4 _ _ (hk_con cur r) (by omega) g1 q4 (hk_fr_t fr2 (hk_fr_w (hk_fr_t f3 f4) (fun s e => Or.inl e))) kS k0
theorem yr_norm {post : Int32 → SY → Prop} {t : Nat} (I : hk_I T nM TY nH HC G cM cH) (R : hk_R T nM TY nH HC G yA yR yY yP (hk_hy yM yL)) (hH : nH < cH) (ht : t < nM)
    (k1 : ∀ r, hk_nf 64 (G t) = some r → hk_fq T (TY t) (G t) r → yr_K post T nM nH y1 y2 y3 y4 y5 yc yd yM yL yY yP (some (hk_eq (TY t) (G t) r, [], (hk_ie T (TY t)).2))) (k0 : (∀ r, hk_nf 64 (G t) = some r → ¬ hk_fq T (TY t) (G t) r) → yr_K post T nM nH y1 y2 y3 y4 y5 yc yd yM yL yY yP none) : wpY_ruleEqTerm post (y1, y2, y3, y4, y5, nI T.1, nI nM, nI nH, yc, yd, yw, yl, yk, ye, yp, yq, yr, ys, yM, yL, yY, yA, yR, yP) 6 (nI t) := by
  obtain ⟨i1, i2, i3, i4, i5, i6, i7⟩ := I
  obtain ⟨r1, r2, r3⟩ := R
  obtain ⟨ty, g, -⟩ := i6 t ht
  obtain ⟨eY, eh⟩ := r2 t ht
  have hn := i1.2.1
  have nd2 := hk_nd_le T (TY t)
  have l32 := g.2.1
  have W : ∀ s, s = 108 ∨ s = 109 → 32 + nH * 4 ≤ s := fun s e => by omega
  refine hk_ok1 (by omega) ht (br_f (by decide) ⟨vp_in_nI (by omega) (by omega), nm_r (e' := nI (TY t)) (by rw [nI_clamp (by omega)]; exact eY) ?_⟩)
  refine ya_need r1 i1 ty ?_
  rw [nI_add]
  refine pk_le (T.1 + hk_nd T (TY t)) 48 (fun fit => ?_) (fun fit => k0 (fun r _ c => by have := c.2; omega) yA yR yM yL yw yl yk ye yp yq yr ys r1 hk_fr_r)
  refine ya_begin (o := 108) (by omega) (fun L1 q1 f1 => ⟨vp_in_nI (by omega) (by omega), ?_⟩)
  have t1 := hk_fr_hy f1 (s := t) (by omega) eh
  refine ya_all (by omega) (by omega) (by omega) l32 q1 t1 (by decide) (hk_szy t1 (by omega) l32) (fun M2 L2 q2 f2 => ?_)
  have f12 := hk_fr_t f1 f2
  refine br_f (by decide) (br_t rfl ⟨65, ?_⟩)
  refine yr_norm_l yM yL 64 0 M2 L2 _ _ (G t) (by omega) g q2 (hk_fr_w f12 (fun s e => Or.inl e)) (fun r hr M3 L3 w3 wl3 h3 f3 => ?_) (fun hr M3 L3 w3 wl3 f3 => ?_)
  · have gr := hk_nf_gt g hr
    refine br_f (by decide) ?_
    refine yr_eqt yM yL r1 i1 ty (by omega) (by omega) l32 (by have := gr.2.1; omega) (hk_fr_hy f3 (by omega) eh) h3 fit (hk_fr_w f3 W) (fun c => k1 r hr ⟨c, fit⟩) (fun c => k0 (fun q hq z => ?_))
    rw [hr] at hq
    cases hq
    exact c z.1
  · refine k0 (fun q hq => ?_) yA yR M3 L3 w3 wl3 yk ye yp yq yr ys r1 (hk_fr_w f3 W)
    rw [hr] at hq; cases hq
end
