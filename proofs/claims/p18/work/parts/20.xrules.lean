/-! the component's rules -/
section
variable {xn xc xm xd xh : Int32} {xA xR xK xS xY xP xE : Nat → Int32} {T : hk_T} {nM nH cM cH : Nat} {TY HC : Nat → Nat} {G : Nat → List Nat}
theorem xa_iseq {post : Int32 → Prop} {a n : Nat} {l : List Nat} (ha : a < nH) (hH : nH ≤ 16) (h : hk_h xK xS (32 + a * 4) l) (g : hk_gt n l) (k1 : hk_ise l → post 1) (k0 : ¬ hk_ise l → post 0) : wpX_isEquation post (xn, xc, xm, xd, nI nH, xA, xR, xK, xS, xY, xP, xE) (nI a) := by
  have hl := g.2.1
  have l0 := hk_gt_pos g
  refine hk_ok1 (by omega) ha (br_f (by decide) ?_)
  refine xa_part a 0 ?_
  rw [Nat.add_zero]
  have c0 := (hk_gt_c g l0).1
  refine xa_kind (p := 0) h (by omega) l0 (by omega) c0 ?_
  refine pk_eq (hk_c l 0 / 65536) 3 (fun e0 => ?_) (fun e => k0 (fun q => e q.1))
  have a1 := hk_at_s (hk_at0 g.1)
  rw [hk_ar_3 e0] at a1
  have l1 := hk_at_lt a1
  have c1 : hk_c l 1 < 524288 := (hk_gt_c g l1).1
  refine xa_kind (p := 1) h (by omega) l1 (by omega) c1 ?_
  refine pk_eq (hk_c l 1 / 65536) 3 (fun e1 => ?_) (fun e => k0 (fun q => e q.2.1))
  have a2 := hk_at_s a1
  rw [hk_ar_3 e1] at a2
  have l2 := hk_at_lt a2
  have c2 : hk_c l 2 < 524288 := (hk_gt_c g l2).1
  refine xa_kind (p := 2) h (by omega) l2 (by omega) c2 ?_
  exact pk_eq (hk_c l 2 / 65536) 2 (fun e2 => k1 ⟨e0, e1, e2⟩) (fun e => k0 (fun q => e q.2.2))
theorem xa_iseq0 {post : Int32 → Prop} {x : Int32} (h : ∀ j, j < nH → x ≠ nI j) (k : post 0) : wpX_isEquation post (xn, xc, xm, xd, nI nH, xA, xR, xK, xS, xY, xP, xE) x := hk_ok0 h (br_t rfl k)
theorem xa_var {post : Int32 → Prop} {t n : Nat} {l : List Nat} (ht : t < nM) (h32 : nM ≤ 32) (h : hk_h xK xS t l) (g : hk_gt n l) (k1 : hk_c l 0 / 65536 = 1 → post 1) (k0 : ¬ hk_c l 0 / 65536 = 1 → post 0) : wpX_isVariable post (xn, xc, nI nM, xd, xh, xA, xR, xK, xS, xY, xP, xE) (nI t) := by
  have c0 := (hk_gt_c g (hk_gt_pos g)).1
  refine hk_ok1 (by omega) ht (br_f (by decide) ?_)
  refine xa_kind (p := 0) h (by omega) (hk_gt_pos g) (by omega) c0 ?_
  exact pk_eq (hk_c l 0 / 65536) 1 k1 k0
theorem xa_var0 {post : Int32 → Prop} {x : Int32} (h : ∀ j, j < nM → x ≠ nI j) (k : post 0) : wpX_isVariable post (xn, xc, nI nM, xd, xh, xA, xR, xK, xS, xY, xP, xE) x := hk_ok0 h (br_t rfl k)
theorem xa_conc {post : Int32 → St2 → Prop} {a s t : Nat} {l r : List Nat} (hb : hk_tb T xA xR) (ht : hk_ti T) (ha : a < T.1) (hH : nH < 16) (hs : s < 98) (ht' : t < 98) (hso : s ≠ 32 + nH * 4) (hto : t ≠ 32 + nH * 4) (ll : l.length ≤ 32) (lr : r.length ≤ 32) (h1 : hk_h xK xS s l) (h2 : hk_h xK xS t r)
    (k1 : (hk_eq a l r).length ≤ 32 ∧ T.1 + hk_nd T a ≤ 48 → ∀ A R K S : Nat → Int32, hk_tb (hk_ie T a).2 A R → hk_h K S (32 + nH * 4) (hk_eq a l r) → hk_fr (fun s => s = 32 + nH * 4) xK xS K S → post 1 (nI (hk_ie T a).2.1, xc, xm, xd, nI nH, A, R, K, S, xY, xP, xE))
    (k0 : ¬ ((hk_eq a l r).length ≤ 32 ∧ T.1 + hk_nd T a ≤ 48) → ∀ A R K S : Nat → Int32, hk_tb T A R → hk_fr (fun s => s = 32 + nH * 4) xK xS K S → post 0 (nI T.1, xc, xm, xd, nI nH, A, R, K, S, xY, xP, xE)) : wpX_concludeEquation post (nI T.1, xc, xm, xd, nI nH, xA, xR, xK, xS, xY, xP, xE) (nI a) (nI s) (nI t) := by
  have el := hk_eq_len a l r
  unfold wpX_concludeEquation
  dsimp only
  refine xa_part nH 0 ?_
  rw [Nat.add_zero]
  refine xa_start (by omega) (fun K1 S1 q1 f1 => ⟨vp_in_nI hs (by omega), ?_⟩)
  have s1 := hk_fr_h f1 hso h1
  have t1 := hk_fr_h f1 hto h2
  refine xa_all (by omega) hs hso ll q1 s1 (by simp) (hk_sz s1 (by omega)) (fun K2 S2 q2 f2 => ⟨vp_in_nI ht' (by omega), ?_⟩)
  have t2 := hk_fr_h f2 hto t1
  refine xa_all (by omega) ht' hto lr q2 t2 (by rw [List.length_append]; show 3 + l.length < 90000; omega) (hk_sz t2 (by omega)) (fun K3 S3 q3 f3 => ?_)
  have f13 := hk_fr_t (hk_fr_t f1 f2) f3
  have q3 : hk_h K3 S3 (32 + nH * 4) (hk_eq a l r) := q3
  refine ⟨vp_in_nI (by omega) (by omega), ?_⟩
  dsimp only
  rw [hk_sz q3 (by omega)]
  refine pk_lt 32 (hk_eq a l r).length (fun z => k0 (fun y => by omega) xA xR K3 S3 hb f13) (fun z => ?_)
  refine xa_internEq hb ht ha (fun A R hb' => ?_)
  rcases Nat.lt_or_ge 48 (T.1 + hk_nd T a) with w | w
  · rw [hk_xe_nofit ht (by omega)] at hb' ⊢
    exact br_t rfl (k0 (fun y => by omega) A R K3 S3 hb' f13)
  · obtain ⟨e, j, hj⟩ := hk_xe_fit ht ha w
    have hj2 := (hk_ie_ok ht ha).2.2 j hj
    have hj3 := (hk_ie_ok ht ha).1.2.1
    rw [e] at hb' ⊢
    rw [hj]
    exact br_f (hk_o_ne (by omega)) (k1 ⟨z, w⟩ A R K3 S3 hb' q3 f13)
/-! t = r for a term t: REFL, BETA, BETA_NORM -/
def hk_fq (T : hk_T) (a : Nat) (l r : List Nat) : Prop := (hk_eq a l r).length ≤ 32 ∧ T.1 + hk_nd T a ≤ 48
theorem hk_fq_good {T : hk_T} {a : Nat} {l r : List Nat} (ht : hk_ti T) (ha : a < T.1) (gl : hk_gt T.1 l) (rr : hk_run 1 r = some 0) (rc : ∀ c, c ∈ r → hk_gc T.1 c) (h : hk_fq T a l r) : hk_good T (some (hk_eq a l r, [], (hk_ie T a).2)) := by
  obtain ⟨i1, i2, i3⟩ := hk_ie_ok ht ha
  have hn := ht.2.1
  have g : hk_gt T.1 (hk_eq a l r) := ⟨hk_eq_run (by omega) gl.1 rr, h.1, hk_eq_gc ha hn gl.2.2 rc⟩
  exact ⟨hk_gt_mono g i2, fun y hy => absurd hy List.not_mem_nil, by decide, i1, i2⟩
theorem xr_refl0 {post : Int32 → St2 → Prop} {x : Int32} (hb : hk_tb T xA xR) (h : ∀ j, j < nM → x ≠ nI j) (k : xr_K post T nM nH xc xd xK xS xY xP none) : wpX_byRefl post (nI T.1, xc, nI nM, xd, nI nH, xA, xR, xK, xS, xY, xP, xE) x :=
  hk_ok0 h (br_t rfl (k xA xR xK xS xP xE hb hk_fr_r (fun _ _ => rfl)))
theorem xr_refl {post : Int32 → St2 → Prop} {t : Nat} (I : hk_I T nM TY nH HC G cM cH) (R : hk_R T nM TY nH HC G xA xR xY xP (hk_h xK xS)) (hH : nH < cH) (hP : xP nH = nI 0) (ht : t < nM)
    (k1 : hk_fq T (TY t) (G t) (G t) → xr_K post T nM nH xc xd xK xS xY xP (some (hk_eq (TY t) (G t) (G t), [], (hk_ie T (TY t)).2))) (k0 : ¬ hk_fq T (TY t) (G t) (G t) → xr_K post T nM nH xc xd xK xS xY xP none) : wpX_byRefl post (nI T.1, xc, nI nM, xd, nI nH, xA, xR, xK, xS, xY, xP, xE) (nI t) := by
  obtain ⟨i1, i2, i3, i4, i5, i6, i7⟩ := I
  obtain ⟨r1, r2, r3⟩ := R
  obtain ⟨ty, g, -⟩ := i6 t ht
  obtain ⟨eY, eh⟩ := r2 t ht
  refine hk_ok1 (by omega) ht (br_f (by decide) ⟨vp_in_nI (by omega) (by omega), ?_⟩)
  rw [nI_clamp (by omega), eY]
  refine xa_conc r1 i1 ty (by omega) (by omega) (by omega) (by omega) (by omega) g.2.1 g.2.1 eh eh (fun c A R K S hb h f => br_f (by decide) ?_) (fun c A R K S hb f => br_t rfl ?_)
  · exact k1 c A R K S xP xE hb h (fun i hi => absurd hi (Nat.not_lt_zero i)) (hk_fr_w f (fun s e => Nat.le_of_eq e.symm)) hP (fun _ _ => rfl)
  · exact k0 c A R K S xP xE hb (hk_fr_w f (fun s e => Nat.le_of_eq e.symm)) (fun _ _ => rfl)
theorem xr_beta0 {post : Int32 → St2 → Prop} {x : Int32} (hb : hk_tb T xA xR) (h : ∀ j, j < nM → x ≠ nI j) (k : xr_K post T nM nH xc xd xK xS xY xP none) : wpX_byBeta post (nI T.1, xc, nI nM, xd, nI nH, xA, xR, xK, xS, xY, xP, xE) x :=
  hk_ok0 h (br_t rfl (k xA xR xK xS xP xE hb hk_fr_r (fun _ _ => rfl)))
theorem xr_beta {post : Int32 → St2 → Prop} {t : Nat} (I : hk_I T nM TY nH HC G cM cH) (R : hk_R T nM TY nH HC G xA xR xY xP (hk_h xK xS)) (hH : nH < cH) (hP : xP nH = nI 0) (ht : t < nM)
    (k1 : hk_rx (G t) 0 ∧ hk_fq T (TY t) (G t) (hk_con (G t) 0) → xr_K post T nM nH xc xd xK xS xY xP (some (hk_eq (TY t) (G t) (hk_con (G t) 0), [], (hk_ie T (TY t)).2))) (k0 : ¬ (hk_rx (G t) 0 ∧ hk_fq T (TY t) (G t) (hk_con (G t) 0)) → xr_K post T nM nH xc xd xK xS xY xP none) : wpX_byBeta post (nI T.1, xc, nI nM, xd, nI nH, xA, xR, xK, xS, xY, xP, xE) (nI t) := by
  obtain ⟨i1, i2, i3, i4, i5, i6, i7⟩ := I
  obtain ⟨r1, r2, r3⟩ := R
  obtain ⟨ty, g, -⟩ := i6 t ht
  obtain ⟨eY, eh⟩ := r2 t ht
  refine hk_ok1 (by omega) ht (br_f (by decide) ?_)
  refine xa_redex (p := 0) eh (by omega) g (hk_gt_pos g) (fun rx => br_f (by decide) ?_) (fun rx => br_t rfl (k0 (fun c => rx c.1) xA xR xK xS xP xE r1 hk_fr_r (fun _ _ => rfl)))
  refine xa_contract (o := 96) (r := 0) (by omega) (by omega) (by omega) g rx eh (fun K S E h f => ?_)
  have f' := hk_fr_w (V := fun s => 32 + nH * 4 ≤ s) f (fun s e => by have e : s = 96 := e; omega)
  have big := hk_con_len g.1 g.2.1 rx
  refine pk_lt 32 (hk_con (G t) 0).length (fun z => k0 (fun c => ?_) xA xR K S xP E r1 f' (fun _ _ => rfl)) (fun z => ⟨vp_in_nI (by omega) (by omega), ?_⟩) rfl h.1
  · have := c.2.1
    rw [hk_eq_len] at this
    omega
  rw [nI_clamp (by omega), eY]
  refine xa_conc r1 i1 ty (by omega) (s := t) (t := 96) (by omega) (by omega) (by omega) (by omega) g.2.1 z (hk_fr_h f (by omega) eh) h (fun c A R K2 S2 hb h2 f2 => br_f (by decide) ?_) (fun c A R K2 S2 hb f2 => br_t rfl ?_)
  · exact k1 ⟨rx, c⟩ A R K2 S2 xP E hb h2 (fun i hi => absurd hi (Nat.not_lt_zero i)) (hk_fr_t f' (hk_fr_w f2 (fun s e => Nat.le_of_eq e.symm))) hP (fun _ _ => rfl)
  · exact k0 (fun q => c q.2) A R K2 S2 xP E hb (hk_fr_t f' (hk_fr_w f2 (fun s e => Nat.le_of_eq e.symm))) (fun _ _ => rfl)
end
