/-! the component's rules, continued -/
section
variable {xn xc xm xd xh : Int32} {xA xR xK xS xY xP xE : Nat → Int32} {T : hk_T} {nM nH cM cH : Nat} {TY HC : Nat → Nat} {G : Nat → List Nat}
theorem xr_norm_l {post : Int32 → St2 → Prop} {t n : Nat} (K0 S0 : Nat → Int32) :
    ∀ (d st : Nat) (K S E : Nat → Int32) (cur : List Nat), st + d = 64 → hk_gt n cur → hk_h K S 96 cur → hk_fr (fun s => s = 96 ∨ s = 97) K0 S0 K S →
      (∀ r, hk_nf d cur = some r → ∀ K' S' E' : Nat → Int32, hk_h K' S' 96 r → hk_fr (fun s => s = 96 ∨ s = 97) K0 S0 K' S' → wX_byBetaNorm_81 post (nI t) (-1) xn xc xm xd xh xA xR K' S' xY xP E') →
      (hk_nf d cur = none → ∀ K' S' E' : Nat → Int32, hk_fr (fun s => s = 96 ∨ s = 97) K0 S0 K' S' → post 0 (xn, xc, xm, xd, xh, xA, xR, K', S', xY, xP, E')) →
      wX_byBetaNorm_26 post (nI t) (d + 1) (hk_o (hk_lr cur cur.length 0)) (nI st) xn xc xm xd xh xA xR K S xY xP E := by
  intro d
  induction d with
  | zero =>
    intro st K S E cur hst g h fr kS k0
    refine br_t (nI_le (a := 64) (by omega) (by omega)) ?_
    cases e : hk_lr cur cur.length 0 with
    | none => exact kS cur (hk_nf_n 0 e) K S E h fr
    | some r =>
      have w := (hk_lr_in e).1
      have hl := g.2.1
      exact br_f (hk_o_ne (by omega)) (k0 (hk_nf_0 e) K S E fr)
  | succ d ih =>
    intro st K S E cur hst g h fr kS k0
    refine br_f (nI_ge (b := 64) (by omega) (by omega)) ?_
    cases e : hk_lr cur cur.length 0 with
    | none => exact br_t rfl (kS cur (hk_nf_n (d + 1) e) K S E h fr)
    | some r =>
      have rx := hk_lr_in e
      have w := rx.1
      have hl := g.2.1
      refine br_f (hk_o_ne (by omega)) ?_
      refine xa_contract (s := 96) (o := 97) (r := r) (by omega) (by omega) (by omega) g rx h (fun K1 S1 E1 h1 f1 => ?_)
      have fr1 := hk_fr_t fr (hk_fr_w f1 (fun s e => Or.inr e))
      have big := hk_con_len g.1 g.2.1 rx
      refine pk_le (hk_con cur r).length 32 (fun z => ?_) (fun z => k0 (hk_nf_z e (by omega)) K1 S1 E1 fr1) h1.1 rfl
      rw [hk_nf_s e z] at kS k0
      have g1 := hk_con_gt g rx z
      refine xa_copy (s := 97) (o := 96) (by omega) (by omega) (by omega) z h1 (fun K2 S2 h2 f2 => ?_)
      refine xa_lr (s := 96) h2 (by omega) g1 (nm_r (nI_1 _) ?_)
      exact ih (st + 1) K2 S2 E1 (hk_con cur r) (by omega) g1 h2 (hk_fr_t fr1 (hk_fr_w f2 (fun s e => Or.inl e))) kS k0
theorem xr_norm0 {post : Int32 → St2 → Prop} {x : Int32} (hb : hk_tb T xA xR) (h : ∀ j, j < nM → x ≠ nI j) (k : xr_K post T nM nH xc xd xK xS xY xP none) : wpX_byBetaNorm post (nI T.1, xc, nI nM, xd, nI nH, xA, xR, xK, xS, xY, xP, xE) x :=
  hk_ok0 h (br_t rfl (k xA xR xK xS xP xE hb hk_fr_r (fun _ _ => rfl)))
theorem xr_norm {post : Int32 → St2 → Prop} {t : Nat} (I : hk_I T nM TY nH HC G cM cH) (R : hk_R T nM TY nH HC G xA xR xY xP (hk_h xK xS)) (hH : nH < cH) (hP : xP nH = nI 0) (ht : t < nM)
    (k1 : ∀ r, hk_nf 64 (G t) = some r → hk_fq T (TY t) (G t) r → xr_K post T nM nH xc xd xK xS xY xP (some (hk_eq (TY t) (G t) r, [], (hk_ie T (TY t)).2))) (k0 : (∀ r, hk_nf 64 (G t) = some r → ¬ hk_fq T (TY t) (G t) r) → xr_K post T nM nH xc xd xK xS xY xP none) : wpX_byBetaNorm post (nI T.1, xc, nI nM, xd, nI nH, xA, xR, xK, xS, xY, xP, xE) (nI t) := by
  obtain ⟨i1, i2, i3, i4, i5, i6, i7⟩ := I
  obtain ⟨r1, r2, r3⟩ := R
  obtain ⟨ty, g, -⟩ := i6 t ht
  obtain ⟨eY, eh⟩ := r2 t ht
  have W : ∀ s, s = 96 ∨ s = 97 → 32 + nH * 4 ≤ s := fun s e => by omega
  refine hk_ok1 (by omega) ht (br_f (by decide) ?_)
  refine xa_copy (s := t) (o := 96) (by omega) (by omega) (by omega) g.2.1 eh (fun K1 S1 h1 f1 => ?_)
  refine xa_lr (s := 96) h1 (by omega) g ⟨65, ?_⟩
  refine xr_norm_l xK xS 64 0 K1 S1 xE (G t) (by omega) g h1 (hk_fr_w f1 (fun s e => Or.inl e)) (fun r hr K2 S2 E2 h2 f2 => ?_) (fun hn K2 S2 E2 f2 => ?_)
  · have gr := hk_nf_gt g hr
    refine br_t rfl ⟨vp_in_nI (by omega) (by omega), ?_⟩
    rw [nI_clamp (by omega), eY]
    refine xa_conc r1 i1 ty (by omega) (s := t) (t := 96) (by omega) (by omega) (by omega) (by omega) g.2.1 gr.2.1 (hk_fr_h f2 (by omega) eh) h2 (fun c A R K3 S3 hb h3 f3 => br_f (by decide) ?_) (fun c A R K3 S3 hb f3 => br_t rfl ?_)
    · exact k1 r hr c A R K3 S3 xP E2 hb h3 (fun i hi => absurd hi (Nat.not_lt_zero i)) (hk_fr_t (hk_fr_w f2 W) (hk_fr_w f3 (fun s e => Nat.le_of_eq e.symm))) hP (fun _ _ => rfl)
    · refine k0 (fun q hq => ?_) A R K3 S3 xP E2 hb (hk_fr_t (hk_fr_w f2 W) (hk_fr_w f3 (fun s e => Nat.le_of_eq e.symm))) (fun _ _ => rfl)
      rw [hr] at hq
      cases hq
      exact c
  · refine k0 (fun q hq => ?_) xA xR K2 S2 xP E2 r1 (hk_fr_w f2 W) (fun _ _ => rfl)
    rw [hn] at hq; cases hq
theorem xr_assume0 {post : Int32 → St2 → Prop} {x : Int32} (hb : hk_tb T xA xR) (h : ∀ j, j < nM → x ≠ nI j) (k : xr_K post T nM nH xc xd xK xS xY xP none) : wpX_byAssume post (nI T.1, xc, nI nM, xd, nI nH, xA, xR, xK, xS, xY, xP, xE) x :=
  hk_ok0 h (br_t rfl (k xA xR xK xS xP xE hb hk_fr_r (fun _ _ => rfl)))
theorem xr_assume {post : Int32 → St2 → Prop} {t : Nat} (I : hk_I T nM TY nH HC G cM cH) (R : hk_R T nM TY nH HC G xA xR xY xP (hk_h xK xS)) (hH : nH < cH) (hP : xP nH = nI 0) (ht : t < nM)
    (k1 : TY t = 0 → xr_K post T nM nH xc xd xK xS xY xP (some (G t, [G t], T))) (k0 : TY t ≠ 0 → xr_K post T nM nH xc xd xK xS xY xP none) : wpX_byAssume post (nI T.1, xc, nI nM, xd, nI nH, xA, xR, xK, xS, xY, xP, xE) (nI t) := by
  obtain ⟨i1, i2, i3, i4, i5, i6, i7⟩ := I
  obtain ⟨r1, r2, r3⟩ := R
  obtain ⟨ty, g, -⟩ := i6 t ht
  obtain ⟨eY, eh⟩ := r2 t ht
  have hn := i1.2.1
  refine hk_ok1 (by omega) ht (br_f (by decide) ⟨vp_in_nI (by omega) (by omega), ?_⟩)
  rw [nI_clamp (by omega), eY]
  refine pk_eq (TY t) 0 (fun z => ?_) (fun z => k0 z xA xR xK xS xP xE r1 hk_fr_r (fun _ _ => rfl))
  refine xa_part nH 0 ?_
  rw [Nat.add_zero]
  refine xa_copy (by omega) (by omega) (by omega) g.2.1 eh (fun K1 S1 h1 f1 => ?_)
  refine xa_ins (H := []) (n := T.1) (by omega) rfl (by omega) (by omega) g hk_nilm (hk_fr_h f1 (by omega) eh) (fun i hi => absurd hi (Nat.not_lt_zero i)) hP (by decide) (fun _ K2 S2 P2 h2 f2 p1 p2 => ⟨rfl, ?_⟩) (fun h3 => absurd h3 (by show ¬ 3 < 1; decide))
  exact k1 z xA xR K2 S2 P2 xE r1 (hk_fr_h f2 (by omega) h1) h2 (hk_fr_t (hk_fr_w f1 (fun s e => Nat.le_of_eq e.symm)) (hk_fr_w f2 (fun s e => by have e : 32 + nH * 4 + 1 ≤ s ∧ s < 32 + nH * 4 + 1 + 3 := e; omega))) p1 p2
theorem xr_trans {post : Int32 → St2 → Prop} {a b : Nat} {HA HB : List (List Nat)} (I : hk_I T nM TY nH HC G cM cH) (R : hk_R T nM TY nH HC G xA xR xY xP (hk_h xK xS)) (hH : nH < cH) (hP : xP nH = nI 0) (ha : a < nH) (hb : b < nH) (eA : HA = hk_H G (32 + a * 4 + 1) (HC a)) (eB : HB = hk_H G (32 + b * 4 + 1) (HC b))
    (k1 : wc_trans (G (32 + a * 4)) (G (32 + b * 4)) HA HB → xr_K post T nM nH xc xd xK xS xY xP (some (vl_trans (G (32 + a * 4)) (G (32 + b * 4)), hk_un [] (HA ++ HB), T)))
    (k0 : ¬ wc_trans (G (32 + a * 4)) (G (32 + b * 4)) HA HB → xr_K post T nM nH xc xd xK xS xY xP none) : wpX_byTrans post (nI T.1, xc, nI nM, xd, nI nH, xA, xR, xK, xS, xY, xP, xE) (nI a) (nI b) := by
  obtain ⟨sA, pA, cA⟩ := hk_R_hs R ha
  obtain ⟨sB, pB, cB⟩ := hk_R_hs R hb
  obtain ⟨lA, gA, gcA⟩ := hk_I_hs I ha
  obtain ⟨lB, gB, gcB⟩ := hk_I_hs I hb
  rw [← eA] at sA pA lA gA
  rw [← eB] at sB pB lB gB
  obtain ⟨i1, i2, i3, i4, i5, i6, i7⟩ := I
  obtain ⟨r1, r2, r3⟩ := R
  generalize G (32 + a * 4) = la at *
  generalize G (32 + b * 4) = lb at *
  have la32 := gcA.2.1
  have lb32 := gcB.2.1
  have ref : ∀ (c : ¬ wc_trans la lb HA HB), post 0 (nI T.1, xc, nI nM, xd, nI nH, xA, xR, xK, xS, xY, xP, xE) := fun c => k0 c xA xR xK xS xP xE r1 hk_fr_r (fun _ _ => rfl)
  unfold wpX_byTrans
  dsimp only
  refine xa_iseq ha (by omega) cA gcA (fun ea => br_f (by decide) ?_) (fun ea => br_t rfl (ref (fun c => ea c.1)))
  refine xa_iseq hb (by omega) cB gcB (fun eb => br_f (by decide) ?_) (fun eb => br_t rfl (ref (fun c => eb c.2.1)))
  refine xa_part a 0 ?_
  refine xa_part b 0 ?_
  rw [Nat.add_zero, Nat.add_zero]
  obtain ⟨t1, t2, t3, t4, t5, t6, t7⟩ := hk_ise_at gcA.1 ea
  obtain ⟨u1, u2, u3, u4, u5, u6, u7⟩ := hk_ise_at gcB.1 eb
  obtain ⟨-, -, -, -, ty, ty2, dA, -⟩ := hk_ise_sides gcA ea
  have hn := i1.2.1
  refine xa_end (p := 3) cA (by omega) la32 (fun c hc => (gcA.2.2 c hc).1) t1 ?_
  refine xa_end (p := 3) cB (by omega) lb32 (fun c hc => (gcB.2.2 c hc).1) u1 ?_
  refine ⟨vp_in_nI (by omega) (by omega), nm_r (e' := nI (la.length - hk_e la 3)) (by rw [hk_sz cA (by omega), pk_sub (by omega)]) ?_⟩
  have e3 : nI (hk_e lb 3) - 3 = nI (hk_e lb 3 - 3) := pk_sub (b := 3) (by omega)
  rw [e3]
  have dl : (la.drop (hk_e la 3)).take (la.length - hk_e la 3) = la.drop (hk_e la 3) := List.take_of_length_le (by rw [List.length_drop]; omega)
  refine pk_eq (hk_e lb 3 - 3) (la.length - hk_e la 3) (fun en => ?_) (fun en => ref (fun c => ?_))
  rotate_left
  · have := congrArg List.length c.2.2.1
    rw [List.length_drop, List.length_take, List.length_drop] at this
    omega
  refine xa_same cA cB (by omega) (by omega) gcA gcB (f := hk_e la 3) (g := 3) (m := la.length - hk_e la 3) (by omega) (by omega) (fun es => br_f (by decide) ?_) (fun es => br_t rfl (ref (fun c => es ?_)))
  rotate_left
  · rw [dl, ← en]; exact c.2.2.1
  rw [dl, ← en] at es
  refine xa_part nH 0 ?_
  rw [Nat.add_zero]
  refine xa_type (p := 2) cA (by omega) (by omega) (by omega) (hk_gt_c gcA (by omega)).1 ?_
  refine xa_start (by omega) (fun K1 S1 q1 f1 => ?_)
  refine xa_run (p := 3) (by omega) (by omega) (by omega) (by omega) (by omega) la32 q1 (hk_fr_h f1 (by omega) cA) (by simp) (fun K2 S2 q2 f2 => ⟨vp_in_nI (by omega) (by omega), ?_⟩)
  have f12 := hk_fr_t f1 f2
  have cB2 := hk_fr_h f12 (by omega) cB
  try dsimp only
  rw [hk_sz cB2 (by omega)]
  refine xa_run (by omega) (by omega) (by omega) (by omega) (Nat.le_refl _) lb32 q2 cB2 (by rw [List.length_append, hk_fm_len]; show 3 + (hk_e la 3 - 3) < 90000; omega) (fun K3 S3 q3 f3 => ⟨vp_in_nI (by omega) (by omega), ?_⟩)
  have f13 := hk_fr_t f12 f3
  have q3 : hk_h K3 S3 (32 + nH * 4) (vl_trans la lb) := q3
  have F13 := hk_fr_w (V := fun s => 32 + nH * 4 ≤ s) f13 (fun s e => Nat.le_of_eq e.symm)
  try dsimp only
  rw [hk_sz q3 (by omega)]
  have big : (vl_trans la lb).length < 2000 := by
    unfold vl_trans
    rw [List.length_append, List.length_append, hk_fm_len, hk_fm_len]
    show 3 + (hk_e la 3 - 3) + (lb.length - hk_e lb 3) < 2000
    omega
  refine pk_lt 32 (vl_trans la lb).length (fun z => k0 (fun c => by have := c.2.2.2.1; omega) xA xR K3 S3 xP xE r1 F13 (fun _ _ => rfl)) (fun z => ?_)
  have V : ∀ s, 32 + nH * 4 + 1 ≤ s ∧ s < 32 + nH * 4 + 1 + 3 → 32 + nH * 4 ≤ s := fun s e => by omega
  refine xa_add (H := []) (wf := fun _ => true) (n := T.1) (by omega) rfl ha lA gA pA (xa_hs_fr f13 sA (fun i hi => by omega)) (Or.inl ⟨rfl, fun _ => rfl⟩) (fun i hi => absurd hi (Nat.not_lt_zero i)) hP (by decide) hk_nilm (fun h3 K4 S4 P4 h4 f4 p1 p2 => br_f (by decide) ?_) (fun h3 K4 S4 P4 f4 p2 => br_t rfl ?_)
  rotate_left
  · rw [hk_ft] at h3
    refine k0 (fun c => ?_) xA xR K4 S4 P4 xE r1 (hk_fr_t F13 (hk_fr_w f4 V)) p2
    have c5 := c.2.2.2.2
    rw [hk_un_app] at c5
    have := (hk_un_len (ts := HB) (S := hk_un [] HA)).1
    omega
  rw [hk_ft] at h3 h4 p1
  refine xa_add (H := hk_un [] HA) (wf := fun _ => true) (n := T.1) (by omega) rfl hb lB gB ((p2 b (by omega)).trans pB) (xa_hs_fr f4 (xa_hs_fr f13 sB (fun i hi => by omega)) (fun i hi => by omega)) (Or.inl ⟨rfl, fun _ => rfl⟩) h4 p1 h3 (hk_un_gt hk_nilm gA) (fun h5 K5 S5 P5 h6 f5 p3 p4 => br_f (by decide) ?_) (fun h5 K5 S5 P5 f5 p4 => br_t rfl ?_)
  · rw [hk_ft, ← hk_un_app] at h5 h6 p3
    exact k1 ⟨ea, eb, es, z, h5⟩ xA xR K5 S5 P5 xE r1 (hk_fr_h f5 (by omega) (hk_fr_h f4 (by omega) q3)) h6 (hk_fr_t (hk_fr_t F13 (hk_fr_w f4 V)) (hk_fr_w f5 V)) p3 (fun h hne => (p4 h hne).trans (p2 h hne))
  · rw [hk_ft, ← hk_un_app] at h5
    exact k0 (fun c => by have := c.2.2.2.2; omega) xA xR K5 S5 P5 xE r1 (hk_fr_t (hk_fr_t F13 (hk_fr_w f4 V)) (hk_fr_w f5 V)) (fun h hne => (p4 h hne).trans (p2 h hne))
end
