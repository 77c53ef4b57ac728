/-! rule -/
section
variable {xn xc xm xd xh : Int32} {xA xR xK xS xY xP xE : Nat → Int32} {y1 y2 y3 y4 y5 yn ym yh yc yd yw yl yk ye yp yq yr ys : Int32} {yM yL yY yA yR yP : Nat → Int32} {T : hk_T} {nM nH cM cH : Nat} {TY HC : Nat → Nat} {G : Nat → List Nat}
def zx_K (post : Int32 → SX → Prop) (T : hk_T) (nM nH : Nat) (xc xd : Int32) (xK xS xY xP : Nat → Int32) : hk_O → Prop
  | none => ∀ A R K S P E : Nat → Int32, hk_tb T A R → hk_fr (fun s => 32 + nH * 4 ≤ s) xK xS K S → (∀ h, h ≠ nH → P h = xP h) → post (-1) (nI T.1, xc, nI nM, xd, nI nH, A, R, K, S, xY, P, E)
  | some (Cn, H, T') => ∀ A R K S P E : Nat → Int32, hk_tb T' A R → hk_h K S (32 + nH * 4) Cn → hk_hs (hk_h K S) (32 + nH * 4 + 1) H → hk_fr (fun s => 32 + nH * 4 ≤ s) xK xS K S → P nH = nI H.length → (∀ h, h ≠ nH → P h = xP h) →
      post (nI nH) (nI T'.1, xc, nI nM, xd, nI (nH + 1), A, R, K, S, xY, P, E)
theorem zx_up {post Q : Int32 → SX → Prop} {o : hk_O} (hQ : ∀ (r : Int32) (xn xc xm xd xh : Int32) (xA xR xK xS xY xP xE : Nat → Int32), wX_rule_188 post r xn xc xm xd xh xA xR xK xS xY xP xE → Q r (xn, xc, xm, xd, xh, xA, xR, xK, xS, xY, xP, xE)) (k : zx_K post T nM nH xc xd xK xS xY xP o) : xr_K Q T nM nH xc xd xK xS xY (upd xP nH 0) o := by
  cases o with
  | none =>
    intro A R K S P E hb f p
    exact hQ _ _ _ _ _ _ _ _ _ _ _ _ _ (br_t rfl (k A R K S P E hb f (fun h hne => (p h hne).trans (pk_un hne))))
  | some q =>
    obtain ⟨Cn, H, T'⟩ := q
    intro A R K S P E hb h1 h2 f p1 p2
    refine hQ _ _ _ _ _ _ _ _ _ _ _ _ _ (br_f (by decide) (nm_r (nI_1 _) ?_))
    rw [nI_pred]
    exact k A R K S P E hb h1 h2 f p1 (fun h hne => (p2 h hne).trans (pk_un hne))
theorem zy_up {post Q : Int32 → SY → Prop} {o : hk_O} (hQ : ∀ (r : Int32) (y1 y2 y3 y4 y5 yn ym yh yc yd yw yl yk ye yp yq yr ys : Int32) (yM yL yY yA yR yP : Nat → Int32), post r (y1, y2, y3, y4, y5, yn, ym, yh, yc, yd, yw, yl, yk, ye, yp, yq, yr, ys, yM, yL, yY, yA, yR, yP) → Q r (y1, y2, y3, y4, y5, yn, ym, yh, yc, yd, yw, yl, yk, ye, yp, yq, yr, ys, yM, yL, yY, yA, yR, yP)) (k : yr_K post T nM nH y1 y2 y3 y4 y5 yc yd yM yL yY yP o) : yr_K Q T nM nH y1 y2 y3 y4 y5 yc yd yM yL yY yP o := by
  cases o with
  | none =>
    intro A R M L w1 w2 w3 w4 w5 w6 w7 w8 hb f
    exact hQ _ _ _ _ _ _ _ _ _ _ _ _ _ _ _ _ _ _ _ _ _ _ _ _ _ (k A R M L w1 w2 w3 w4 w5 w6 w7 w8 hb f)
  | some q =>
    obtain ⟨Cn, H, T'⟩ := q
    intro A R M L w1 w2 w3 w4 w5 w6 w7 w8 hb h1 h2 f
    exact hQ _ _ _ _ _ _ _ _ _ _ _ _ _ _ _ _ _ _ _ _ _ _ _ _ _ (k A R M L w1 w2 w3 w4 w5 w6 w7 w8 hb h1 h2 f)
theorem hk_R_zero (J : hk_I T nM TY nH HC G cM cH) (RX : hk_R T nM TY nH HC G xA xR xY xP (hk_h xK xS)) : hk_R T nM TY nH HC G xA xR xY (upd xP nH 0) (hk_h xK xS) :=
  hk_R_keep RX RX.1 (fun s l _ h => h) (fun h hne => pk_un hne) (by have := J.2.1; have := J.2.2.1; omega) (fun h hh => (J.2.2.2.2.2.2 h hh).1)
theorem vr_refl (J : hk_I T nM TY nH HC G cM cH) (RX : hk_R T nM TY nH HC G xA xR xY xP (hk_h xK xS)) (RY : hk_R T nM TY nH HC G yA yR yY yP (hk_hy yM yL)) (hH : nH < cH) (v2 v3 v4 : Int32) :
    ∃ o : hk_O, hk_good T o ∧ (∀ post : Int32 → SX → Prop, zx_K post T nM nH (nI cM) (nI cH) xK xS xY xP o → wpX_rule post (nI T.1, nI cM, nI nM, nI cH, nI nH, xA, xR, xK, xS, xY, xP, xE) 1 v2 v3 v4) ∧ (∀ post : Int32 → SY → Prop, yr_K post T nM nH y1 y2 y3 y4 y5 (nI cM) (nI cH) yM yL yY yP o → wpY_rule post (y1, y2, y3, y4, y5, nI T.1, nI nM, nI nH, nI cM, nI cH, yw, yl, yk, ye, yp, yq, yr, ys, yM, yL, yY, yA, yR, yP) 1 v2 v3 v4) := by
  have h5 := J.2.2.2.2.1
  have h32 := J.2.2.1
  have h2 := J.2.1
  have hn := J.1.2.1
  have R0 := hk_R_zero J RX
  rcases hk_val v2 nM with h | ⟨t, ht, rfl⟩
  · exact ⟨none, trivial, fun post k => br_t (nI_lt hH (by omega)) ⟨vp_in_nI (by omega) (by omega), nm_r (e' := upd xP nH 0) (by rw [nI_clamp (by omega)]) (br_f (by decide) (br_f (by decide) (br_t rfl (xr_refl0 RX.1 h (zx_up (fun _ _ _ _ _ _ _ _ _ _ _ _ _ h => h) k)))))⟩, fun post k => br_t (nI_lt hH (by omega)) (br_t rfl (yr_eq0 RY.1 h (zy_up (fun _ _ _ _ _ _ _ _ _ _ _ _ _ _ _ _ _ _ _ _ _ _ _ _ _ h => h) k)))⟩
  · obtain ⟨ty, g, -⟩ := J.2.2.2.2.2.1 t ht
    by_cases c : hk_fq T (TY t) (G t) (G t)
    · exact ⟨some (hk_eq (TY t) (G t) (G t), [], (hk_ie T (TY t)).2), hk_fq_good J.1 ty g g.1 g.2.2 c, fun post k => br_t (nI_lt hH (by omega)) ⟨vp_in_nI (by omega) (by omega), nm_r (e' := upd xP nH 0) (by rw [nI_clamp (by omega)]) (br_f (by decide) (br_f (by decide) (br_t rfl (xr_refl J R0 hH pk_us ht (fun _ => (zx_up (fun _ _ _ _ _ _ _ _ _ _ _ _ _ h => h) k)) (fun n => absurd c n)))))⟩, fun post k => br_t (nI_lt hH (by omega)) (br_t rfl (yr_refl J RY hH ht (fun _ => (zy_up (fun _ _ _ _ _ _ _ _ _ _ _ _ _ _ _ _ _ _ _ _ _ _ _ _ _ h => h) k)) (fun n => absurd c n)))⟩
    · exact ⟨none, trivial, fun post k => br_t (nI_lt hH (by omega)) ⟨vp_in_nI (by omega) (by omega), nm_r (e' := upd xP nH 0) (by rw [nI_clamp (by omega)]) (br_f (by decide) (br_f (by decide) (br_t rfl (xr_refl J R0 hH pk_us ht (fun c' => absurd c' c) (fun _ => (zx_up (fun _ _ _ _ _ _ _ _ _ _ _ _ _ h => h) k))))))⟩, fun post k => br_t (nI_lt hH (by omega)) (br_t rfl (yr_refl J RY hH ht (fun c' => absurd c' c) (fun _ => (zy_up (fun _ _ _ _ _ _ _ _ _ _ _ _ _ _ _ _ _ _ _ _ _ _ _ _ _ h => h) k))))⟩
theorem vr_beta (J : hk_I T nM TY nH HC G cM cH) (RX : hk_R T nM TY nH HC G xA xR xY xP (hk_h xK xS)) (RY : hk_R T nM TY nH HC G yA yR yY yP (hk_hy yM yL)) (hH : nH < cH) (v2 v3 v4 : Int32) :
    ∃ o : hk_O, hk_good T o ∧ (∀ post : Int32 → SX → Prop, zx_K post T nM nH (nI cM) (nI cH) xK xS xY xP o → wpX_rule post (nI T.1, nI cM, nI nM, nI cH, nI nH, xA, xR, xK, xS, xY, xP, xE) 5 v2 v3 v4) ∧ (∀ post : Int32 → SY → Prop, yr_K post T nM nH y1 y2 y3 y4 y5 (nI cM) (nI cH) yM yL yY yP o → wpY_rule post (y1, y2, y3, y4, y5, nI T.1, nI nM, nI nH, nI cM, nI cH, yw, yl, yk, ye, yp, yq, yr, ys, yM, yL, yY, yA, yR, yP) 5 v2 v3 v4) := by
  have h5 := J.2.2.2.2.1
  have h32 := J.2.2.1
  have h2 := J.2.1
  have hn := J.1.2.1
  have R0 := hk_R_zero J RX
  rcases hk_val v2 nM with h | ⟨t, ht, rfl⟩
  · exact ⟨none, trivial, fun post k => br_t (nI_lt hH (by omega)) ⟨vp_in_nI (by omega) (by omega), nm_r (e' := upd xP nH 0) (by rw [nI_clamp (by omega)]) (br_f (by decide) (br_f (by decide) (br_f (by decide) (br_f (by decide) (br_f (by decide) (br_f (by decide) (br_t rfl (xr_beta0 RX.1 h (zx_up (fun _ _ _ _ _ _ _ _ _ _ _ _ _ h => h) k)))))))))⟩, fun post k => br_t (nI_lt hH (by omega)) (br_f (by decide) (br_t rfl (yr_eq0 RY.1 h (zy_up (fun _ _ _ _ _ _ _ _ _ _ _ _ _ _ _ _ _ _ _ _ _ _ _ _ _ h => h) k))))⟩
  · obtain ⟨ty, g, -⟩ := J.2.2.2.2.2.1 t ht
    by_cases c : hk_rx (G t) 0 ∧ hk_fq T (TY t) (G t) (hk_con (G t) 0)
    · exact ⟨some (hk_eq (TY t) (G t) (hk_con (G t) 0), [], (hk_ie T (TY t)).2), hk_fq_good J.1 ty g (hk_con_run g.1 g.2.1 c.1) (hk_con_gc g.1 g.2.1 c.1 g.2.2) c.2, fun post k => br_t (nI_lt hH (by omega)) ⟨vp_in_nI (by omega) (by omega), nm_r (e' := upd xP nH 0) (by rw [nI_clamp (by omega)]) (br_f (by decide) (br_f (by decide) (br_f (by decide) (br_f (by decide) (br_f (by decide) (br_f (by decide) (br_t rfl (xr_beta J R0 hH pk_us ht (fun _ => (zx_up (fun _ _ _ _ _ _ _ _ _ _ _ _ _ h => h) k)) (fun n => absurd c n)))))))))⟩, fun post k => br_t (nI_lt hH (by omega)) (br_f (by decide) (br_t rfl (yr_beta J RY hH ht (fun _ => (zy_up (fun _ _ _ _ _ _ _ _ _ _ _ _ _ _ _ _ _ _ _ _ _ _ _ _ _ h => h) k)) (fun n => absurd c n))))⟩
    · exact ⟨none, trivial, fun post k => br_t (nI_lt hH (by omega)) ⟨vp_in_nI (by omega) (by omega), nm_r (e' := upd xP nH 0) (by rw [nI_clamp (by omega)]) (br_f (by decide) (br_f (by decide) (br_f (by decide) (br_f (by decide) (br_f (by decide) (br_f (by decide) (br_t rfl (xr_beta J R0 hH pk_us ht (fun c' => absurd c' c) (fun _ => (zx_up (fun _ _ _ _ _ _ _ _ _ _ _ _ _ h => h) k))))))))))⟩, fun post k => br_t (nI_lt hH (by omega)) (br_f (by decide) (br_t rfl (yr_beta J RY hH ht (fun c' => absurd c' c) (fun _ => (zy_up (fun _ _ _ _ _ _ _ _ _ _ _ _ _ _ _ _ _ _ _ _ _ _ _ _ _ h => h) k)))))⟩
theorem vr_norm (J : hk_I T nM TY nH HC G cM cH) (RX : hk_R T nM TY nH HC G xA xR xY xP (hk_h xK xS)) (RY : hk_R T nM TY nH HC G yA yR yY yP (hk_hy yM yL)) (hH : nH < cH) (v2 v3 v4 : Int32) :
    ∃ o : hk_O, hk_good T o ∧ (∀ post : Int32 → SX → Prop, zx_K post T nM nH (nI cM) (nI cH) xK xS xY xP o → wpX_rule post (nI T.1, nI cM, nI nM, nI cH, nI nH, xA, xR, xK, xS, xY, xP, xE) 6 v2 v3 v4) ∧ (∀ post : Int32 → SY → Prop, yr_K post T nM nH y1 y2 y3 y4 y5 (nI cM) (nI cH) yM yL yY yP o → wpY_rule post (y1, y2, y3, y4, y5, nI T.1, nI nM, nI nH, nI cM, nI cH, yw, yl, yk, ye, yp, yq, yr, ys, yM, yL, yY, yA, yR, yP) 6 v2 v3 v4) := by
  have h5 := J.2.2.2.2.1
  have h32 := J.2.2.1
  have h2 := J.2.1
  have hn := J.1.2.1
  have R0 := hk_R_zero J RX
  rcases hk_val v2 nM with h | ⟨t, ht, rfl⟩
  · exact ⟨none, trivial, fun post k => br_t (nI_lt hH (by omega)) ⟨vp_in_nI (by omega) (by omega), nm_r (e' := upd xP nH 0) (by rw [nI_clamp (by omega)]) (br_f (by decide) (br_f (by decide) (br_f (by decide) (br_f (by decide) (br_f (by decide) (br_f (by decide) (br_f (by decide) (br_t rfl (xr_norm0 RX.1 h (zx_up (fun _ _ _ _ _ _ _ _ _ _ _ _ _ h => h) k))))))))))⟩, fun post k => br_t (nI_lt hH (by omega)) (br_f (by decide) (br_f (by decide) (br_t rfl (yr_eq0 RY.1 h (zy_up (fun _ _ _ _ _ _ _ _ _ _ _ _ _ _ _ _ _ _ _ _ _ _ _ _ _ h => h) k)))))⟩
  · obtain ⟨ty, g, -⟩ := J.2.2.2.2.2.1 t ht
    by_cases c : ∃ r, hk_nf 64 (G t) = some r ∧ hk_fq T (TY t) (G t) r
    · obtain ⟨r, hr, cq⟩ := c
      have gr := hk_nf_gt g hr
      have same : ∀ q, hk_nf 64 (G t) = some q → q = r := fun q hq => by rw [hr] at hq; cases hq; rfl
      exact ⟨some (hk_eq (TY t) (G t) r, [], (hk_ie T (TY t)).2), hk_fq_good J.1 ty g gr.1 gr.2.2 cq, fun post k => br_t (nI_lt hH (by omega)) ⟨vp_in_nI (by omega) (by omega), nm_r (e' := upd xP nH 0) (by rw [nI_clamp (by omega)]) (br_f (by decide) (br_f (by decide) (br_f (by decide) (br_f (by decide) (br_f (by decide) (br_f (by decide) (br_f (by decide) (br_t rfl (xr_norm J R0 hH pk_us ht (fun q hq _ => by rw [same q hq]; exact (zx_up (fun _ _ _ _ _ _ _ _ _ _ _ _ _ h => h) k)) (fun n => absurd cq (n r hr)))))))))))⟩, fun post k => br_t (nI_lt hH (by omega)) (br_f (by decide) (br_f (by decide) (br_t rfl (yr_norm J RY hH ht (fun q hq _ => by rw [same q hq]; exact (zy_up (fun _ _ _ _ _ _ _ _ _ _ _ _ _ _ _ _ _ _ _ _ _ _ _ _ _ h => h) k)) (fun n => absurd cq (n r hr))))))⟩
    · exact ⟨none, trivial, fun post k => br_t (nI_lt hH (by omega)) ⟨vp_in_nI (by omega) (by omega), nm_r (e' := upd xP nH 0) (by rw [nI_clamp (by omega)]) (br_f (by decide) (br_f (by decide) (br_f (by decide) (br_f (by decide) (br_f (by decide) (br_f (by decide) (br_f (by decide) (br_t rfl (xr_norm J R0 hH pk_us ht (fun q hq cq => absurd ⟨q, hq, cq⟩ c) (fun _ => (zx_up (fun _ _ _ _ _ _ _ _ _ _ _ _ _ h => h) k)))))))))))⟩, fun post k => br_t (nI_lt hH (by omega)) (br_f (by decide) (br_f (by decide) (br_t rfl (yr_norm J RY hH ht (fun q hq cq => absurd ⟨q, hq, cq⟩ c) (fun _ => (zy_up (fun _ _ _ _ _ _ _ _ _ _ _ _ _ _ _ _ _ _ _ _ _ _ _ _ _ h => h) k))))))⟩
theorem yr_assume {post : Int32 → SY → Prop} {t : Nat} {v3 v4 : Int32} (J : hk_I T nM TY nH HC G cM cH) (RY : hk_R T nM TY nH HC G yA yR yY yP (hk_hy yM yL)) (hH : nH < cH) (ht : t < nM)
    (k1 : TY t = 0 → yr_K post T nM nH y1 y2 y3 y4 y5 (nI cM) (nI cH) yM yL yY yP (some (G t, [G t], T))) (k0 : TY t ≠ 0 → yr_K post T nM nH y1 y2 y3 y4 y5 (nI cM) (nI cH) yM yL yY yP none) : wpY_rule post (y1, y2, y3, y4, y5, nI T.1, nI nM, nI nH, nI cM, nI cH, yw, yl, yk, ye, yp, yq, yr, ys, yM, yL, yY, yA, yR, yP) 7 (nI t) v3 v4 := by
  obtain ⟨i1, i2, i3, i4, i5, i6, i7⟩ := J
  obtain ⟨r1, r2, r3⟩ := RY
  obtain ⟨ty, g, -⟩ := i6 t ht
  obtain ⟨eY, eh⟩ := r2 t ht
  have hn := i1.2.1
  have l32 := g.2.1
  have V : vp_in (nI t) 110 := vp_in_nI (by omega) (by omega)
  refine br_t (nI_lt hH (by omega)) (br_f (by decide) (br_f (by decide) (br_f (by decide) (br_f (by decide) (br_f (by decide) (br_f (by decide) (br_t rfl (hk_ok1 (by omega) ht (br_f (by decide) ⟨vp_in_nI (by omega) (by omega), ?_⟩)))))))))
  have eYc : yY (nI t).toNatClampNeg = nI (TY t) := by rw [nI_clamp (by omega)]; exact eY
  rw [eYc]
  refine pk_eq (TY t) 0 (fun z => ?_) (fun z => k0 z yA yR yM yL yw yl _ ye yp yq yr ys r1 hk_fr_r)
  refine ya_begin (o := 96) (by omega) (fun L1 q1 f1 => ⟨V, ?_⟩)
  have t1 := hk_fr_hy f1 (s := t) (by omega) eh
  refine ya_all (by omega) (by omega) (by omega) l32 q1 t1 (by decide) (hk_szy t1 (by omega) l32) (fun M2 L2 q2 f2 => ?_)
  have f12 := hk_fr_t f1 f2
  refine ya_begin (o := 97) (by omega) (fun L3 q3 f3 => ⟨V, ?_⟩)
  have t3 := hk_fr_hy f3 (s := t) (by omega) (hk_fr_hy f12 (s := t) (by omega) eh)
  refine ya_all (by omega) (by omega) (by omega) l32 q3 t3 (by decide) (hk_szy t3 (by omega) l32) (fun M4 L4 q4 f4 => ?_)
  have f34 := hk_fr_t f3 f4
  have F := hk_fr_t (hk_fr_w (V := fun s => 32 + nH * 4 ≤ s) f12 (fun s e => by have e : s = 96 := e; omega)) (hk_fr_w (V := fun s => 32 + nH * 4 ≤ s) f34 (fun s e => by have e : s = 97 := e; omega))
  refine ya_commit (Cn := G t) (H := [G t]) (by omega) l32 (by show 1 ≤ 3; decide) (fun y hy => by rw [List.mem_singleton.mp hy]; exact l32) (hk_fr_hy f34 (by omega) q2) (fun i hi => ?_) rfl (fun M5 L5 w5 wl5 h5 h6 f5 => ?_)
  · have hi : i < 1 := hi
    have e : i = 0 := by omega
    subst e
    exact q4
  · exact k1 z yA yR M5 L5 w5 wl5 _ ye yp yq yr ys r1 h5 h6 (hk_fr_t F (hk_fr_w f5 (fun s e => e.1)))
theorem vr_assume (J : hk_I T nM TY nH HC G cM cH) (RX : hk_R T nM TY nH HC G xA xR xY xP (hk_h xK xS)) (RY : hk_R T nM TY nH HC G yA yR yY yP (hk_hy yM yL)) (hH : nH < cH) (v2 v3 v4 : Int32) :
    ∃ o : hk_O, hk_good T o ∧ (∀ post : Int32 → SX → Prop, zx_K post T nM nH (nI cM) (nI cH) xK xS xY xP o → wpX_rule post (nI T.1, nI cM, nI nM, nI cH, nI nH, xA, xR, xK, xS, xY, xP, xE) 7 v2 v3 v4) ∧ (∀ post : Int32 → SY → Prop, yr_K post T nM nH y1 y2 y3 y4 y5 (nI cM) (nI cH) yM yL yY yP o → wpY_rule post (y1, y2, y3, y4, y5, nI T.1, nI nM, nI nH, nI cM, nI cH, yw, yl, yk, ye, yp, yq, yr, ys, yM, yL, yY, yA, yR, yP) 7 v2 v3 v4) := by
  have h5 := J.2.2.2.2.1
  have h32 := J.2.2.1
  have h2 := J.2.1
  have hn := J.1.2.1
  have R0 := hk_R_zero J RX
  rcases hk_val v2 nM with h | ⟨t, ht, rfl⟩
  · exact ⟨none, trivial, fun post k => br_t (nI_lt hH (by omega)) ⟨vp_in_nI (by omega) (by omega), nm_r (e' := upd xP nH 0) (by rw [nI_clamp (by omega)]) (br_f (by decide) (br_f (by decide) (br_f (by decide) (br_f (by decide) (br_f (by decide) (br_f (by decide) (br_f (by decide) (br_f (by decide) (br_t rfl (xr_assume0 RX.1 h (zx_up (fun _ _ _ _ _ _ _ _ _ _ _ _ _ h => h) k)))))))))))⟩, fun post k => br_t (nI_lt hH (by omega)) (br_f (by decide) (br_f (by decide) (br_f (by decide) (br_f (by decide) (br_f (by decide) (br_f (by decide) (br_t rfl (hk_ok0 h (br_t rfl (k yA yR yM yL yw yl _ ye yp yq yr ys RY.1 hk_fr_r))))))))))⟩
  · obtain ⟨ty, g, -⟩ := J.2.2.2.2.2.1 t ht
    by_cases c : TY t = 0
    · exact ⟨some (G t, [G t], T), ⟨g, fun y hy => by rw [List.mem_singleton.mp hy]; exact g, by show 1 ≤ 3; decide, J.1, Nat.le_refl _⟩, fun post k => br_t (nI_lt hH (by omega)) ⟨vp_in_nI (by omega) (by omega), nm_r (e' := upd xP nH 0) (by rw [nI_clamp (by omega)]) (br_f (by decide) (br_f (by decide) (br_f (by decide) (br_f (by decide) (br_f (by decide) (br_f (by decide) (br_f (by decide) (br_f (by decide) (br_t rfl (xr_assume J R0 hH pk_us ht (fun _ => (zx_up (fun _ _ _ _ _ _ _ _ _ _ _ _ _ h => h) k)) (fun n => absurd c n)))))))))))⟩, fun post k => yr_assume J RY hH ht (fun _ => k) (fun n => absurd c n)⟩
    · exact ⟨none, trivial, fun post k => br_t (nI_lt hH (by omega)) ⟨vp_in_nI (by omega) (by omega), nm_r (e' := upd xP nH 0) (by rw [nI_clamp (by omega)]) (br_f (by decide) (br_f (by decide) (br_f (by decide) (br_f (by decide) (br_f (by decide) (br_f (by decide) (br_f (by decide) (br_f (by decide) (br_t rfl (xr_assume J R0 hH pk_us ht (fun c' => absurd c' c) (fun _ => (zx_up (fun _ _ _ _ _ _ _ _ _ _ _ _ _ h => h) k))))))))))))⟩, fun post k => yr_assume J RY hH ht (fun c' => absurd c' c) (fun _ => k)⟩
theorem vr_trans (J : hk_I T nM TY nH HC G cM cH) (RX : hk_R T nM TY nH HC G xA xR xY xP (hk_h xK xS)) (RY : hk_R T nM TY nH HC G yA yR yY yP (hk_hy yM yL)) (hH : nH < cH) (v2 v3 v4 : Int32) :
    ∃ o : hk_O, hk_good T o ∧ (∀ post : Int32 → SX → Prop, zx_K post T nM nH (nI cM) (nI cH) xK xS xY xP o → wpX_rule post (nI T.1, nI cM, nI nM, nI cH, nI nH, xA, xR, xK, xS, xY, xP, xE) 2 v2 v3 v4) ∧ (∀ post : Int32 → SY → Prop, yr_K post T nM nH y1 y2 y3 y4 y5 (nI cM) (nI cH) yM yL yY yP o → wpY_rule post (y1, y2, y3, y4, y5, nI T.1, nI nM, nI nH, nI cM, nI cH, yw, yl, yk, ye, yp, yq, yr, ys, yM, yL, yY, yA, yR, yP) 2 v2 v3 v4) := by
  have h5 := J.2.2.2.2.1
  have h32 := J.2.2.1
  have h2 := J.2.1
  have hn := J.1.2.1
  have R0 := hk_R_zero J RX
  rcases hk_val v2 nH with h | ⟨a, ha, rfl⟩
  · exact ⟨none, trivial, fun post k => br_t (nI_lt hH (by omega)) ⟨vp_in_nI (by omega) (by omega), nm_r (e' := upd xP nH 0) (by rw [nI_clamp (by omega)]) (br_f (by decide) (br_f (by decide) (br_f (by decide) (br_t rfl (xz_trans0 RX.1 h (zx_up (fun _ _ _ _ _ _ _ _ _ _ _ _ _ h => h) k))))))⟩, fun post k => br_t (nI_lt hH (by omega)) (br_f (by decide) (br_f (by decide) (br_f (by decide) (br_t rfl (yz_trans0 RY.1 h (zy_up (fun _ _ _ _ _ _ _ _ _ _ _ _ _ _ _ _ _ _ _ _ _ _ _ _ _ h => h) k))))))⟩
  obtain ⟨lA, gA, gcA⟩ := hk_I_hs J ha
  obtain ⟨sA, pA, cA⟩ := hk_R_hs RX ha
  rcases hk_val v3 nH with h | ⟨b, hb, rfl⟩
  · exact ⟨none, trivial, fun post k => br_t (nI_lt hH (by omega)) ⟨vp_in_nI (by omega) (by omega), nm_r (e' := upd xP nH 0) (by rw [nI_clamp (by omega)]) (br_f (by decide) (br_f (by decide) (br_f (by decide) (br_t rfl (xz_trans1 RX.1 (by omega) ha cA gcA h (zx_up (fun _ _ _ _ _ _ _ _ _ _ _ _ _ h => h) k))))))⟩, fun post k => br_t (nI_lt hH (by omega)) (br_f (by decide) (br_f (by decide) (br_f (by decide) (br_t rfl (yz_trans1 RY.1 (by omega) ha h (zy_up (fun _ _ _ _ _ _ _ _ _ _ _ _ _ _ _ _ _ _ _ _ _ _ _ _ _ h => h) k))))))⟩
  obtain ⟨lB, gB, gcB⟩ := hk_I_hs J hb
  have gU : ∀ y, y ∈ hk_un [] ((hk_H G (32 + a * 4 + 1) (HC a)) ++ (hk_H G (32 + b * 4 + 1) (HC b))) → hk_gt T.1 y := hk_un_gt hk_nilm (fun y hy => (List.mem_append.mp hy).elim (gA y) (gB y))
  by_cases c : vc_trans (G (32 + a * 4)) (G (32 + b * 4)) (hk_H G (32 + a * 4 + 1) (HC a)) (hk_H G (32 + b * 4 + 1) (HC b))
  · refine ⟨some (vl_trans (G (32 + a * 4)) (G (32 + b * 4)), hk_un [] ((hk_H G (32 + a * 4 + 1) (HC a)) ++ (hk_H G (32 + b * 4 + 1) (HC b))), T), ⟨vg_trans hn gcA gcB c.1 c.2.1 c.2.2.2.1, gU, c.2.2.2.2, J.1, Nat.le_refl _⟩, fun post k => br_t (nI_lt hH (by omega)) ⟨vp_in_nI (by omega) (by omega), nm_r (e' := upd xP nH 0) (by rw [nI_clamp (by omega)]) (br_f (by decide) (br_f (by decide) (br_f (by decide) (br_t rfl (xr_trans J R0 hH pk_us ha hb rfl rfl  (fun _ => (zx_up (fun _ _ _ _ _ _ _ _ _ _ _ _ _ h => h) k)) (fun n => absurd c n))))))⟩, fun post k => br_t (nI_lt hH (by omega)) (br_f (by decide) (br_f (by decide) (br_f (by decide) (br_t rfl (yr_trans J RY hH ha hb rfl rfl  (fun _ => (zy_up (fun _ _ _ _ _ _ _ _ _ _ _ _ _ _ _ _ _ _ _ _ _ _ _ _ _ h => h) k)) (fun n => absurd c n))))))⟩
  · exact ⟨none, trivial, fun post k => br_t (nI_lt hH (by omega)) ⟨vp_in_nI (by omega) (by omega), nm_r (e' := upd xP nH 0) (by rw [nI_clamp (by omega)]) (br_f (by decide) (br_f (by decide) (br_f (by decide) (br_t rfl (xr_trans J R0 hH pk_us ha hb rfl rfl  (fun c' => absurd c' c) (fun _ => (zx_up (fun _ _ _ _ _ _ _ _ _ _ _ _ _ h => h) k)))))))⟩, fun post k => br_t (nI_lt hH (by omega)) (br_f (by decide) (br_f (by decide) (br_f (by decide) (br_t rfl (yr_trans J RY hH ha hb rfl rfl  (fun c' => absurd c' c) (fun _ => (zy_up (fun _ _ _ _ _ _ _ _ _ _ _ _ _ _ _ _ _ _ _ _ _ _ _ _ _ h => h) k)))))))⟩
theorem vr_combg {la lb : List Nat} {HA HB : List (List Nat)} (J : hk_I T nM TY nH HC G cM cH) (ga : hk_gt T.1 la) (gb : hk_gt T.1 lb) (gU : ∀ y, y ∈ hk_un [] (HA ++ HB) → hk_gt T.1 y) (c : vc_comb T (T.2.2 (hk_c la 2 % 256)) la lb HA HB) : hk_good T (some (vl_comb (T.2.2 (hk_c la 2 % 256)) la lb, hk_un [] (HA ++ HB), (hk_ie T (T.2.2 (hk_c la 2 % 256))).2)) := by
  obtain ⟨-, -, -, -, fT, fT2, -, -⟩ := hk_ise_sides ga c.1
  have cT := (J.1.2.2.2.2.2.2 _ c.2.2.1 fT).2
  obtain ⟨i1, i2, i3⟩ := hk_ie_ok J.1 cT
  exact ⟨hk_gt_mono (vg_comb J.1.2.1 cT ga gb c.1 c.2.1 c.2.2.2.2.1) i2, fun y hy => hk_gt_mono (gU y hy) i2, c.2.2.2.2.2.1, i1, i2⟩
theorem vr_comb (J : hk_I T nM TY nH HC G cM cH) (RX : hk_R T nM TY nH HC G xA xR xY xP (hk_h xK xS)) (RY : hk_R T nM TY nH HC G yA yR yY yP (hk_hy yM yL)) (hH : nH < cH) (v2 v3 v4 : Int32) :
    ∃ o : hk_O, hk_good T o ∧ (∀ post : Int32 → SX → Prop, zx_K post T nM nH (nI cM) (nI cH) xK xS xY xP o → wpX_rule post (nI T.1, nI cM, nI nM, nI cH, nI nH, xA, xR, xK, xS, xY, xP, xE) 3 v2 v3 v4) ∧ (∀ post : Int32 → SY → Prop, yr_K post T nM nH y1 y2 y3 y4 y5 (nI cM) (nI cH) yM yL yY yP o → wpY_rule post (y1, y2, y3, y4, y5, nI T.1, nI nM, nI nH, nI cM, nI cH, yw, yl, yk, ye, yp, yq, yr, ys, yM, yL, yY, yA, yR, yP) 3 v2 v3 v4) := by
  have h5 := J.2.2.2.2.1
  have h32 := J.2.2.1
  have h2 := J.2.1
  have hn := J.1.2.1
  have R0 := hk_R_zero J RX
  rcases hk_val v2 nH with h | ⟨a, ha, rfl⟩
  · exact ⟨none, trivial, fun post k => br_t (nI_lt hH (by omega)) ⟨vp_in_nI (by omega) (by omega), nm_r (e' := upd xP nH 0) (by rw [nI_clamp (by omega)]) (br_f (by decide) (br_f (by decide) (br_f (by decide) (br_f (by decide) (br_t rfl (xz_comb0 RX.1 h (zx_up (fun _ _ _ _ _ _ _ _ _ _ _ _ _ h => h) k)))))))⟩, fun post k => br_t (nI_lt hH (by omega)) (br_f (by decide) (br_f (by decide) (br_f (by decide) (br_f (by decide) (br_t rfl (yz_comb0 RY.1 h (zy_up (fun _ _ _ _ _ _ _ _ _ _ _ _ _ _ _ _ _ _ _ _ _ _ _ _ _ h => h) k)))))))⟩
  obtain ⟨lA, gA, gcA⟩ := hk_I_hs J ha
  obtain ⟨sA, pA, cA⟩ := hk_R_hs RX ha
  rcases hk_val v3 nH with h | ⟨b, hb, rfl⟩
  · exact ⟨none, trivial, fun post k => br_t (nI_lt hH (by omega)) ⟨vp_in_nI (by omega) (by omega), nm_r (e' := upd xP nH 0) (by rw [nI_clamp (by omega)]) (br_f (by decide) (br_f (by decide) (br_f (by decide) (br_f (by decide) (br_t rfl (xz_comb1 RX.1 (by omega) ha cA gcA h (zx_up (fun _ _ _ _ _ _ _ _ _ _ _ _ _ h => h) k)))))))⟩, fun post k => br_t (nI_lt hH (by omega)) (br_f (by decide) (br_f (by decide) (br_f (by decide) (br_f (by decide) (br_t rfl (yz_comb1 RY.1 (by omega) ha h (zy_up (fun _ _ _ _ _ _ _ _ _ _ _ _ _ _ _ _ _ _ _ _ _ _ _ _ _ h => h) k)))))))⟩
  obtain ⟨lB, gB, gcB⟩ := hk_I_hs J hb
  have gU : ∀ y, y ∈ hk_un [] ((hk_H G (32 + a * 4 + 1) (HC a)) ++ (hk_H G (32 + b * 4 + 1) (HC b))) → hk_gt T.1 y := hk_un_gt hk_nilm (fun y hy => (List.mem_append.mp hy).elim (gA y) (gB y))
  by_cases c : vc_comb T (T.2.2 (hk_c (G (32 + a * 4)) 2 % 256)) (G (32 + a * 4)) (G (32 + b * 4)) (hk_H G (32 + a * 4 + 1) (HC a)) (hk_H G (32 + b * 4 + 1) (HC b))
  · refine ⟨some (vl_comb (T.2.2 (hk_c (G (32 + a * 4)) 2 % 256)) (G (32 + a * 4)) (G (32 + b * 4)), hk_un [] ((hk_H G (32 + a * 4 + 1) (HC a)) ++ (hk_H G (32 + b * 4 + 1) (HC b))), (hk_ie T (T.2.2 (hk_c (G (32 + a * 4)) 2 % 256))).2), vr_combg J gcA gcB gU c, fun post k => br_t (nI_lt hH (by omega)) ⟨vp_in_nI (by omega) (by omega), nm_r (e' := upd xP nH 0) (by rw [nI_clamp (by omega)]) (br_f (by decide) (br_f (by decide) (br_f (by decide) (br_f (by decide) (br_t rfl (xr_comb J R0 hH pk_us ha hb rfl rfl rfl (fun _ => (zx_up (fun _ _ _ _ _ _ _ _ _ _ _ _ _ h => h) k)) (fun n => absurd c n)))))))⟩, fun post k => br_t (nI_lt hH (by omega)) (br_f (by decide) (br_f (by decide) (br_f (by decide) (br_f (by decide) (br_t rfl (yr_comb J RY hH ha hb rfl rfl rfl (fun _ => (zy_up (fun _ _ _ _ _ _ _ _ _ _ _ _ _ _ _ _ _ _ _ _ _ _ _ _ _ h => h) k)) (fun n => absurd c n)))))))⟩
  · exact ⟨none, trivial, fun post k => br_t (nI_lt hH (by omega)) ⟨vp_in_nI (by omega) (by omega), nm_r (e' := upd xP nH 0) (by rw [nI_clamp (by omega)]) (br_f (by decide) (br_f (by decide) (br_f (by decide) (br_f (by decide) (br_t rfl (xr_comb J R0 hH pk_us ha hb rfl rfl rfl (fun c' => absurd c' c) (fun _ => (zx_up (fun _ _ _ _ _ _ _ _ _ _ _ _ _ h => h) k))))))))⟩, fun post k => br_t (nI_lt hH (by omega)) (br_f (by decide) (br_f (by decide) (br_f (by decide) (br_f (by decide) (br_t rfl (yr_comb J RY hH ha hb rfl rfl rfl (fun c' => absurd c' c) (fun _ => (zy_up (fun _ _ _ _ _ _ _ _ _ _ _ _ _ _ _ _ _ _ _ _ _ _ _ _ _ h => h) k))))))))⟩
theorem vr_mp (J : hk_I T nM TY nH HC G cM cH) (RX : hk_R T nM TY nH HC G xA xR xY xP (hk_h xK xS)) (RY : hk_R T nM TY nH HC G yA yR yY yP (hk_hy yM yL)) (hH : nH < cH) (v2 v3 v4 : Int32) :
    ∃ o : hk_O, hk_good T o ∧ (∀ post : Int32 → SX → Prop, zx_K post T nM nH (nI cM) (nI cH) xK xS xY xP o → wpX_rule post (nI T.1, nI cM, nI nM, nI cH, nI nH, xA, xR, xK, xS, xY, xP, xE) 8 v2 v3 v4) ∧ (∀ post : Int32 → SY → Prop, yr_K post T nM nH y1 y2 y3 y4 y5 (nI cM) (nI cH) yM yL yY yP o → wpY_rule post (y1, y2, y3, y4, y5, nI T.1, nI nM, nI nH, nI cM, nI cH, yw, yl, yk, ye, yp, yq, yr, ys, yM, yL, yY, yA, yR, yP) 8 v2 v3 v4) := by
  have h5 := J.2.2.2.2.1
  have h32 := J.2.2.1
  have h2 := J.2.1
  have hn := J.1.2.1
  have R0 := hk_R_zero J RX
  rcases hk_val v2 nH with h | ⟨a, ha, rfl⟩
  · exact ⟨none, trivial, fun post k => br_t (nI_lt hH (by omega)) ⟨vp_in_nI (by omega) (by omega), nm_r (e' := upd xP nH 0) (by rw [nI_clamp (by omega)]) (br_f (by decide) (br_f (by decide) (br_f (by decide) (br_f (by decide) (br_f (by decide) (br_f (by decide) (br_f (by decide) (br_f (by decide) (br_f (by decide) (br_t rfl (xz_mp0 RX.1 h (zx_up (fun _ _ _ _ _ _ _ _ _ _ _ _ _ h => h) k))))))))))))⟩, fun post k => br_t (nI_lt hH (by omega)) (br_f (by decide) (br_f (by decide) (br_f (by decide) (br_f (by decide) (br_f (by decide) (br_f (by decide) (br_f (by decide) (br_t rfl (yz_mp0 RY.1 h (zy_up (fun _ _ _ _ _ _ _ _ _ _ _ _ _ _ _ _ _ _ _ _ _ _ _ _ _ h => h) k))))))))))⟩
  obtain ⟨lA, gA, gcA⟩ := hk_I_hs J ha
  obtain ⟨sA, pA, cA⟩ := hk_R_hs RX ha
  rcases hk_val v3 nH with h | ⟨b, hb, rfl⟩
  · exact ⟨none, trivial, fun post k => br_t (nI_lt hH (by omega)) ⟨vp_in_nI (by omega) (by omega), nm_r (e' := upd xP nH 0) (by rw [nI_clamp (by omega)]) (br_f (by decide) (br_f (by decide) (br_f (by decide) (br_f (by decide) (br_f (by decide) (br_f (by decide) (br_f (by decide) (br_f (by decide) (br_f (by decide) (br_t rfl (xz_mp1 RX.1 (by omega) ha cA gcA h (zx_up (fun _ _ _ _ _ _ _ _ _ _ _ _ _ h => h) k))))))))))))⟩, fun post k => br_t (nI_lt hH (by omega)) (br_f (by decide) (br_f (by decide) (br_f (by decide) (br_f (by decide) (br_f (by decide) (br_f (by decide) (br_f (by decide) (br_t rfl (yz_mp1 RY.1 (by omega) ha h (zy_up (fun _ _ _ _ _ _ _ _ _ _ _ _ _ _ _ _ _ _ _ _ _ _ _ _ _ h => h) k))))))))))⟩
  obtain ⟨lB, gB, gcB⟩ := hk_I_hs J hb
  have gU : ∀ y, y ∈ hk_un [] ((hk_H G (32 + a * 4 + 1) (HC a)) ++ (hk_H G (32 + b * 4 + 1) (HC b))) → hk_gt T.1 y := hk_un_gt hk_nilm (fun y hy => (List.mem_append.mp hy).elim (gA y) (gB y))
  by_cases c : vc_mp (G (32 + a * 4)) (G (32 + b * 4)) (hk_H G (32 + a * 4 + 1) (HC a)) (hk_H G (32 + b * 4 + 1) (HC b))
  · refine ⟨some (vl_mp (G (32 + a * 4)), hk_un [] ((hk_H G (32 + a * 4 + 1) (HC a)) ++ (hk_H G (32 + b * 4 + 1) (HC b))), T), ⟨vg_mp gcA c.1, gU, c.2.2, J.1, Nat.le_refl _⟩, fun post k => br_t (nI_lt hH (by omega)) ⟨vp_in_nI (by omega) (by omega), nm_r (e' := upd xP nH 0) (by rw [nI_clamp (by omega)]) (br_f (by decide) (br_f (by decide) (br_f (by decide) (br_f (by decide) (br_f (by decide) (br_f (by decide) (br_f (by decide) (br_f (by decide) (br_f (by decide) (br_t rfl (xr_mp J R0 hH pk_us ha hb rfl rfl  (fun _ => (zx_up (fun _ _ _ _ _ _ _ _ _ _ _ _ _ h => h) k)) (fun n => absurd c n))))))))))))⟩, fun post k => br_t (nI_lt hH (by omega)) (br_f (by decide) (br_f (by decide) (br_f (by decide) (br_f (by decide) (br_f (by decide) (br_f (by decide) (br_f (by decide) (br_t rfl (yr_mp J RY hH ha hb rfl rfl  (fun _ => (zy_up (fun _ _ _ _ _ _ _ _ _ _ _ _ _ _ _ _ _ _ _ _ _ _ _ _ _ h => h) k)) (fun n => absurd c n))))))))))⟩
  · exact ⟨none, trivial, fun post k => br_t (nI_lt hH (by omega)) ⟨vp_in_nI (by omega) (by omega), nm_r (e' := upd xP nH 0) (by rw [nI_clamp (by omega)]) (br_f (by decide) (br_f (by decide) (br_f (by decide) (br_f (by decide) (br_f (by decide) (br_f (by decide) (br_f (by decide) (br_f (by decide) (br_f (by decide) (br_t rfl (xr_mp J R0 hH pk_us ha hb rfl rfl  (fun c' => absurd c' c) (fun _ => (zx_up (fun _ _ _ _ _ _ _ _ _ _ _ _ _ h => h) k)))))))))))))⟩, fun post k => br_t (nI_lt hH (by omega)) (br_f (by decide) (br_f (by decide) (br_f (by decide) (br_f (by decide) (br_f (by decide) (br_f (by decide) (br_f (by decide) (br_t rfl (yr_mp J RY hH ha hb rfl rfl  (fun c' => absurd c' c) (fun _ => (zy_up (fun _ _ _ _ _ _ _ _ _ _ _ _ _ _ _ _ _ _ _ _ _ _ _ _ _ h => h) k)))))))))))⟩
theorem vr_ded (J : hk_I T nM TY nH HC G cM cH) (RX : hk_R T nM TY nH HC G xA xR xY xP (hk_h xK xS)) (RY : hk_R T nM TY nH HC G yA yR yY yP (hk_hy yM yL)) (hH : nH < cH) (v2 v3 v4 : Int32) :
    ∃ o : hk_O, hk_good T o ∧ (∀ post : Int32 → SX → Prop, zx_K post T nM nH (nI cM) (nI cH) xK xS xY xP o → wpX_rule post (nI T.1, nI cM, nI nM, nI cH, nI nH, xA, xR, xK, xS, xY, xP, xE) 9 v2 v3 v4) ∧ (∀ post : Int32 → SY → Prop, yr_K post T nM nH y1 y2 y3 y4 y5 (nI cM) (nI cH) yM yL yY yP o → wpY_rule post (y1, y2, y3, y4, y5, nI T.1, nI nM, nI nH, nI cM, nI cH, yw, yl, yk, ye, yp, yq, yr, ys, yM, yL, yY, yA, yR, yP) 9 v2 v3 v4) := by
  have h5 := J.2.2.2.2.1
  have h32 := J.2.2.1
  have h2 := J.2.1
  have hn := J.1.2.1
  have R0 := hk_R_zero J RX
  rcases hk_val v2 nH with h | ⟨a, ha, rfl⟩
  · exact ⟨none, trivial, fun post k => br_t (nI_lt hH (by omega)) ⟨vp_in_nI (by omega) (by omega), nm_r (e' := upd xP nH 0) (by rw [nI_clamp (by omega)]) (br_f (by decide) (br_f (by decide) (br_f (by decide) (br_f (by decide) (br_f (by decide) (br_f (by decide) (br_f (by decide) (br_f (by decide) (br_f (by decide) (br_f (by decide) (br_t rfl (xz_ded0 RX.1 h (zx_up (fun _ _ _ _ _ _ _ _ _ _ _ _ _ h => h) k)))))))))))))⟩, fun post k => br_t (nI_lt hH (by omega)) (br_f (by decide) (br_f (by decide) (br_f (by decide) (br_f (by decide) (br_f (by decide) (br_f (by decide) (br_f (by decide) (br_f (by decide) (br_t rfl (yz_ded0 RY.1 h (zy_up (fun _ _ _ _ _ _ _ _ _ _ _ _ _ _ _ _ _ _ _ _ _ _ _ _ _ h => h) k)))))))))))⟩
  obtain ⟨lA, gA, gcA⟩ := hk_I_hs J ha
  obtain ⟨sA, pA, cA⟩ := hk_R_hs RX ha
  rcases hk_val v3 nH with h | ⟨b, hb, rfl⟩
  · exact ⟨none, trivial, fun post k => br_t (nI_lt hH (by omega)) ⟨vp_in_nI (by omega) (by omega), nm_r (e' := upd xP nH 0) (by rw [nI_clamp (by omega)]) (br_f (by decide) (br_f (by decide) (br_f (by decide) (br_f (by decide) (br_f (by decide) (br_f (by decide) (br_f (by decide) (br_f (by decide) (br_f (by decide) (br_f (by decide) (br_t rfl (xz_ded1 RX.1 (by omega) ha cA gcA h (zx_up (fun _ _ _ _ _ _ _ _ _ _ _ _ _ h => h) k)))))))))))))⟩, fun post k => br_t (nI_lt hH (by omega)) (br_f (by decide) (br_f (by decide) (br_f (by decide) (br_f (by decide) (br_f (by decide) (br_f (by decide) (br_f (by decide) (br_f (by decide) (br_t rfl (yz_ded1 RY.1 (by omega) ha h (zy_up (fun _ _ _ _ _ _ _ _ _ _ _ _ _ _ _ _ _ _ _ _ _ _ _ _ _ h => h) k)))))))))))⟩
  obtain ⟨lB, gB, gcB⟩ := hk_I_hs J hb
  have gU : ∀ y, y ∈ hk_un [] ((hk_H G (32 + a * 4 + 1) (HC a)) ++ (hk_H G (32 + b * 4 + 1) (HC b))) → hk_gt T.1 y := hk_un_gt hk_nilm (fun y hy => (List.mem_append.mp hy).elim (gA y) (gB y))
  by_cases c : vc_ded (G (32 + a * 4)) (G (32 + b * 4)) (hk_H G (32 + a * 4 + 1) (HC a)) (hk_H G (32 + b * 4 + 1) (HC b))
  · refine ⟨some (hk_eq 0 (G (32 + a * 4)) (G (32 + b * 4)), vh_ded (G (32 + a * 4)) (G (32 + b * 4)) (hk_H G (32 + a * 4 + 1) (HC a)) (hk_H G (32 + b * 4 + 1) (HC b)), T), ⟨⟨hk_eq_run (by decide) gcA.1 gcB.1, c.2, hk_eq_gc (by have := J.1.1; omega) hn gcA.2.2 gcB.2.2⟩, hk_un_gt hk_nilm (fun y hy => (List.mem_append.mp hy).elim (fun z => gA y ((List.mem_filter.mp z).1)) (fun z => gB y ((List.mem_filter.mp z).1))), c.1, J.1, Nat.le_refl _⟩, fun post k => br_t (nI_lt hH (by omega)) ⟨vp_in_nI (by omega) (by omega), nm_r (e' := upd xP nH 0) (by rw [nI_clamp (by omega)]) (br_f (by decide) (br_f (by decide) (br_f (by decide) (br_f (by decide) (br_f (by decide) (br_f (by decide) (br_f (by decide) (br_f (by decide) (br_f (by decide) (br_f (by decide) (br_t rfl (xr_ded J R0 hH pk_us ha hb rfl rfl  (fun _ => (zx_up (fun _ _ _ _ _ _ _ _ _ _ _ _ _ h => h) k)) (fun n => absurd c n)))))))))))))⟩, fun post k => br_t (nI_lt hH (by omega)) (br_f (by decide) (br_f (by decide) (br_f (by decide) (br_f (by decide) (br_f (by decide) (br_f (by decide) (br_f (by decide) (br_f (by decide) (br_t rfl (yr_ded J RY hH ha hb rfl rfl  (fun _ => (zy_up (fun _ _ _ _ _ _ _ _ _ _ _ _ _ _ _ _ _ _ _ _ _ _ _ _ _ h => h) k)) (fun n => absurd c n)))))))))))⟩
  · exact ⟨none, trivial, fun post k => br_t (nI_lt hH (by omega)) ⟨vp_in_nI (by omega) (by omega), nm_r (e' := upd xP nH 0) (by rw [nI_clamp (by omega)]) (br_f (by decide) (br_f (by decide) (br_f (by decide) (br_f (by decide) (br_f (by decide) (br_f (by decide) (br_f (by decide) (br_f (by decide) (br_f (by decide) (br_f (by decide) (br_t rfl (xr_ded J R0 hH pk_us ha hb rfl rfl  (fun c' => absurd c' c) (fun _ => (zx_up (fun _ _ _ _ _ _ _ _ _ _ _ _ _ h => h) k))))))))))))))⟩, fun post k => br_t (nI_lt hH (by omega)) (br_f (by decide) (br_f (by decide) (br_f (by decide) (br_f (by decide) (br_f (by decide) (br_f (by decide) (br_f (by decide) (br_f (by decide) (br_t rfl (yr_ded J RY hH ha hb rfl rfl  (fun c' => absurd c' c) (fun _ => (zy_up (fun _ _ _ _ _ _ _ _ _ _ _ _ _ _ _ _ _ _ _ _ _ _ _ _ _ h => h) k))))))))))))⟩
theorem vr_abs (J : hk_I T nM TY nH HC G cM cH) (RX : hk_R T nM TY nH HC G xA xR xY xP (hk_h xK xS)) (RY : hk_R T nM TY nH HC G yA yR yY yP (hk_hy yM yL)) (hH : nH < cH) (v2 v3 v4 : Int32) :
    ∃ o : hk_O, hk_good T o ∧ (∀ post : Int32 → SX → Prop, zx_K post T nM nH (nI cM) (nI cH) xK xS xY xP o → wpX_rule post (nI T.1, nI cM, nI nM, nI cH, nI nH, xA, xR, xK, xS, xY, xP, xE) 4 v2 v3 v4) ∧ (∀ post : Int32 → SY → Prop, yr_K post T nM nH y1 y2 y3 y4 y5 (nI cM) (nI cH) yM yL yY yP o → wpY_rule post (y1, y2, y3, y4, y5, nI T.1, nI nM, nI nH, nI cM, nI cH, yw, yl, yk, ye, yp, yq, yr, ys, yM, yL, yY, yA, yR, yP) 4 v2 v3 v4) := by
  have h5 := J.2.2.2.2.1
  have h32 := J.2.2.1
  have h2 := J.2.1
  have hn := J.1.2.1
  have R0 := hk_R_zero J RX
  rcases hk_val v2 nH with h | ⟨a, ha, rfl⟩
  · exact ⟨none, trivial, fun post k => br_t (nI_lt hH (by omega)) ⟨vp_in_nI (by omega) (by omega), nm_r (e' := upd xP nH 0) (by rw [nI_clamp (by omega)]) (br_f (by decide) (br_f (by decide) (br_f (by decide) (br_f (by decide) (br_f (by decide) (br_t rfl (xz_abs0 RX.1 h (zx_up (fun _ _ _ _ _ _ _ _ _ _ _ _ _ h => h) k))))))))⟩, fun post k => br_t (nI_lt hH (by omega)) (br_f (by decide) (br_f (by decide) (br_f (by decide) (br_f (by decide) (br_f (by decide) (br_t rfl (yz_abs0 RY.1 h (zy_up (fun _ _ _ _ _ _ _ _ _ _ _ _ _ _ _ _ _ _ _ _ _ _ _ _ _ h => h) k))))))))⟩
  obtain ⟨lA, gA, gcA⟩ := hk_I_hs J ha
  obtain ⟨sA, pA, cA⟩ := hk_R_hs RX ha
  rcases hk_val v3 nM with h | ⟨x, hx, rfl⟩
  · exact ⟨none, trivial, fun post k => br_t (nI_lt hH (by omega)) ⟨vp_in_nI (by omega) (by omega), nm_r (e' := upd xP nH 0) (by rw [nI_clamp (by omega)]) (br_f (by decide) (br_f (by decide) (br_f (by decide) (br_f (by decide) (br_f (by decide) (br_t rfl (xz_abs1 RX.1 (by omega) ha cA gcA h (zx_up (fun _ _ _ _ _ _ _ _ _ _ _ _ _ h => h) k))))))))⟩, fun post k => br_t (nI_lt hH (by omega)) (br_f (by decide) (br_f (by decide) (br_f (by decide) (br_f (by decide) (br_f (by decide) (br_t rfl (yz_abs1 RY.1 (by omega) ha h (zy_up (fun _ _ _ _ _ _ _ _ _ _ _ _ _ _ _ _ _ _ _ _ _ _ _ _ _ h => h) k))))))))⟩
  obtain ⟨ty, g, -⟩ := J.2.2.2.2.2.1 x hx
  by_cases c : vc_abs T (G (32 + a * 4)) (hk_H G (32 + a * 4 + 1) (HC a)) (hk_c (G x) 0)
  · obtain ⟨t, h⟩ := c.2.2.2.2
    have vI := hk_I_var J hx c.2.1
    have dT : hk_c (G x) 0 % 256 < T.1 := by rw [← vI.2.1]; exact ty
    obtain ⟨-, -, -, -, sT, sT2, -, -⟩ := hk_ise_sides gcA c.1
    obtain ⟨w1, w2, w3, w4⟩ := hk_xa_in J.1 dT sT h
    have lU : (hk_un [] (hk_H G (32 + a * 4 + 1) (HC a))).length ≤ 0 + (hk_H G (32 + a * 4 + 1) (HC a)).length := (hk_un_len (ts := (hk_H G (32 + a * 4 + 1) (HC a))) (S := [])).2
    have same : ∀ q, (hk_xa T (hk_c (G x) 0 % 256) (hk_c (G (32 + a * 4)) 2 % 256)).1 = some q → q = t := fun q hq => by rw [h] at hq; cases hq; rfl
    exact ⟨some (vl_abs t (hk_c (G x) 0) (G (32 + a * 4)), hk_un [] (hk_H G (32 + a * 4 + 1) (HC a)), (hk_xa T (hk_c (G x) 0 % 256) (hk_c (G (32 + a * 4)) 2 % 256)).2), ⟨vg_abs w3.2.1 w2 c.2.1 (hk_gt_mono gcA w4) c.1 c.2.2.2.1, fun y hy => hk_gt_mono (hk_un_gt hk_nilm gA y hy) w4, by omega, w3, w4⟩, fun post k => br_t (nI_lt hH (by omega)) ⟨vp_in_nI (by omega) (by omega), nm_r (e' := upd xP nH 0) (by rw [nI_clamp (by omega)]) (br_f (by decide) (br_f (by decide) (br_f (by decide) (br_f (by decide) (br_f (by decide) (br_t rfl (xr_abs J R0 hH pk_us ha hx rfl rfl (fun q hq _ => by rw [same q hq]; exact (zx_up (fun _ _ _ _ _ _ _ _ _ _ _ _ _ h => h) k)) (fun n => absurd c n))))))))⟩, fun post k => br_t (nI_lt hH (by omega)) (br_f (by decide) (br_f (by decide) (br_f (by decide) (br_f (by decide) (br_f (by decide) (br_t rfl (yr_abs J RY hH ha hx rfl rfl (fun q hq _ => by rw [same q hq]; exact (zy_up (fun _ _ _ _ _ _ _ _ _ _ _ _ _ _ _ _ _ _ _ _ _ _ _ _ _ h => h) k)) (fun n => absurd c n))))))))⟩
  · exact ⟨none, trivial, fun post k => br_t (nI_lt hH (by omega)) ⟨vp_in_nI (by omega) (by omega), nm_r (e' := upd xP nH 0) (by rw [nI_clamp (by omega)]) (br_f (by decide) (br_f (by decide) (br_f (by decide) (br_f (by decide) (br_f (by decide) (br_t rfl (xr_abs J R0 hH pk_us ha hx rfl rfl (fun _ _ c' => absurd c' c) (fun _ => (zx_up (fun _ _ _ _ _ _ _ _ _ _ _ _ _ h => h) k)))))))))⟩, fun post k => br_t (nI_lt hH (by omega)) (br_f (by decide) (br_f (by decide) (br_f (by decide) (br_f (by decide) (br_f (by decide) (br_t rfl (yr_abs J RY hH ha hx rfl rfl (fun _ _ c' => absurd c' c) (fun _ => (zy_up (fun _ _ _ _ _ _ _ _ _ _ _ _ _ _ _ _ _ _ _ _ _ _ _ _ _ h => h) k)))))))))⟩
theorem vr_inst (J : hk_I T nM TY nH HC G cM cH) (RX : hk_R T nM TY nH HC G xA xR xY xP (hk_h xK xS)) (RY : hk_R T nM TY nH HC G yA yR yY yP (hk_hy yM yL)) (hH : nH < cH) (v2 v3 v4 : Int32) :
    ∃ o : hk_O, hk_good T o ∧ (∀ post : Int32 → SX → Prop, zx_K post T nM nH (nI cM) (nI cH) xK xS xY xP o → wpX_rule post (nI T.1, nI cM, nI nM, nI cH, nI nH, xA, xR, xK, xS, xY, xP, xE) 10 v2 v3 v4) ∧ (∀ post : Int32 → SY → Prop, yr_K post T nM nH y1 y2 y3 y4 y5 (nI cM) (nI cH) yM yL yY yP o → wpY_rule post (y1, y2, y3, y4, y5, nI T.1, nI nM, nI nH, nI cM, nI cH, yw, yl, yk, ye, yp, yq, yr, ys, yM, yL, yY, yA, yR, yP) 10 v2 v3 v4) := by
  have h5 := J.2.2.2.2.1
  have h32 := J.2.2.1
  have h2 := J.2.1
  have hn := J.1.2.1
  have R0 := hk_R_zero J RX
  rcases hk_val v2 nH with h | ⟨a, ha, rfl⟩
  · exact ⟨none, trivial, fun post k => br_t (nI_lt hH (by omega)) ⟨vp_in_nI (by omega) (by omega), nm_r (e' := upd xP nH 0) (by rw [nI_clamp (by omega)]) (br_f (by decide) (br_f (by decide) (br_f (by decide) (br_f (by decide) (br_f (by decide) (br_f (by decide) (br_f (by decide) (br_f (by decide) (br_f (by decide) (br_f (by decide) (br_f (by decide) (br_t rfl (xz_inst0 RX.1 h (zx_up (fun _ _ _ _ _ _ _ _ _ _ _ _ _ h => h) k))))))))))))))⟩, fun post k => br_t (nI_lt hH (by omega)) (br_f (by decide) (br_f (by decide) (br_f (by decide) (br_f (by decide) (br_f (by decide) (br_f (by decide) (br_f (by decide) (br_f (by decide) (br_f (by decide) (br_t rfl (yz_inst0 RY.1 h (zy_up (fun _ _ _ _ _ _ _ _ _ _ _ _ _ _ _ _ _ _ _ _ _ _ _ _ _ h => h) k))))))))))))⟩
  obtain ⟨lA, gA, gcA⟩ := hk_I_hs J ha
  rcases hk_val v3 nM with h | ⟨x, hx, rfl⟩
  · exact ⟨none, trivial, fun post k => br_t (nI_lt hH (by omega)) ⟨vp_in_nI (by omega) (by omega), nm_r (e' := upd xP nH 0) (by rw [nI_clamp (by omega)]) (br_f (by decide) (br_f (by decide) (br_f (by decide) (br_f (by decide) (br_f (by decide) (br_f (by decide) (br_f (by decide) (br_f (by decide) (br_f (by decide) (br_f (by decide) (br_f (by decide) (br_t rfl (xz_inst1 RX.1 (by omega) ha (hk_R_hs RX ha).2.2 gcA h (zx_up (fun _ _ _ _ _ _ _ _ _ _ _ _ _ h => h) k))))))))))))))⟩, fun post k => br_t (nI_lt hH (by omega)) (br_f (by decide) (br_f (by decide) (br_f (by decide) (br_f (by decide) (br_f (by decide) (br_f (by decide) (br_f (by decide) (br_f (by decide) (br_f (by decide) (br_t rfl (yz_inst1 RY.1 (by omega) ha h (zy_up (fun _ _ _ _ _ _ _ _ _ _ _ _ _ _ _ _ _ _ _ _ _ _ _ _ _ h => h) k))))))))))))⟩
  obtain ⟨ty, g, -⟩ := J.2.2.2.2.2.1 x hx
  obtain ⟨xYx, xhx⟩ := RX.2.1 x hx
  rcases hk_val v4 nM with h | ⟨t, ht, rfl⟩
  · exact ⟨none, trivial, fun post k => br_t (nI_lt hH (by omega)) ⟨vp_in_nI (by omega) (by omega), nm_r (e' := upd xP nH 0) (by rw [nI_clamp (by omega)]) (br_f (by decide) (br_f (by decide) (br_f (by decide) (br_f (by decide) (br_f (by decide) (br_f (by decide) (br_f (by decide) (br_f (by decide) (br_f (by decide) (br_f (by decide) (br_f (by decide) (br_t rfl (xz_inst2 RX.1 (by omega) (by omega) ha hx xhx g h (zx_up (fun _ _ _ _ _ _ _ _ _ _ _ _ _ h => h) k))))))))))))))⟩, fun post k => br_t (nI_lt hH (by omega)) (br_f (by decide) (br_f (by decide) (br_f (by decide) (br_f (by decide) (br_f (by decide) (br_f (by decide) (br_f (by decide) (br_f (by decide) (br_f (by decide) (br_t rfl (yz_inst2 RY.1 (by omega) (by omega) ha hx h (zy_up (fun _ _ _ _ _ _ _ _ _ _ _ _ _ _ _ _ _ _ _ _ _ _ _ _ _ h => h) k))))))))))))⟩
  obtain ⟨tyt, gt, -⟩ := J.2.2.2.2.2.1 t ht
  by_cases c : (hk_c (G x) 0 / 65536 = 1 ∧ TY t = hk_c (G x) 0 % 256) ∧ vc_inst (G (32 + a * 4)) (G t) (hk_H G (32 + a * 4 + 1) (HC a)) (hk_c (G x) 0)
  · have gI : ∀ y, y ∈ vh_inst (hk_H G (32 + a * 4 + 1) (HC a)) (hk_c (G x) 0) (G t) → hk_gt T.1 y := by
      intro y hy
      obtain ⟨h, hh, rfl⟩ := List.mem_map.mp hy
      exact vg_inst c.1.1 (gA h hh) gt (c.2.2.1 h hh)
    exact ⟨some (hk_sb (G (32 + a * 4)) (hk_c (G x) 0) (G t), hk_un [] (vh_inst (hk_H G (32 + a * 4 + 1) (HC a)) (hk_c (G x) 0) (G t)), T), ⟨vg_inst c.1.1 gcA gt c.2.1, hk_un_gt hk_nilm gI, c.2.2.2, J.1, Nat.le_refl _⟩, fun post k => br_t (nI_lt hH (by omega)) ⟨vp_in_nI (by omega) (by omega), nm_r (e' := upd xP nH 0) (by rw [nI_clamp (by omega)]) (br_f (by decide) (br_f (by decide) (br_f (by decide) (br_f (by decide) (br_f (by decide) (br_f (by decide) (br_f (by decide) (br_f (by decide) (br_f (by decide) (br_f (by decide) (br_f (by decide) (br_t rfl (xr_inst J R0 hH pk_us ha hx ht rfl rfl (fun _ => (zx_up (fun _ _ _ _ _ _ _ _ _ _ _ _ _ h => h) k)) (fun n => absurd c n))))))))))))))⟩, fun post k => br_t (nI_lt hH (by omega)) (br_f (by decide) (br_f (by decide) (br_f (by decide) (br_f (by decide) (br_f (by decide) (br_f (by decide) (br_f (by decide) (br_f (by decide) (br_f (by decide) (br_t rfl (yr_inst J RY hH ha hx ht rfl rfl (fun _ => (zy_up (fun _ _ _ _ _ _ _ _ _ _ _ _ _ _ _ _ _ _ _ _ _ _ _ _ _ h => h) k)) (fun n => absurd c n))))))))))))⟩
  · exact ⟨none, trivial, fun post k => br_t (nI_lt hH (by omega)) ⟨vp_in_nI (by omega) (by omega), nm_r (e' := upd xP nH 0) (by rw [nI_clamp (by omega)]) (br_f (by decide) (br_f (by decide) (br_f (by decide) (br_f (by decide) (br_f (by decide) (br_f (by decide) (br_f (by decide) (br_f (by decide) (br_f (by decide) (br_f (by decide) (br_f (by decide) (br_t rfl (xr_inst J R0 hH pk_us ha hx ht rfl rfl (fun c' => absurd c' c) (fun _ => (zx_up (fun _ _ _ _ _ _ _ _ _ _ _ _ _ h => h) k)))))))))))))))⟩, fun post k => br_t (nI_lt hH (by omega)) (br_f (by decide) (br_f (by decide) (br_f (by decide) (br_f (by decide) (br_f (by decide) (br_f (by decide) (br_f (by decide) (br_f (by decide) (br_f (by decide) (br_t rfl (yr_inst J RY hH ha hx ht rfl rfl (fun c' => absurd c' c) (fun _ => (zy_up (fun _ _ _ _ _ _ _ _ _ _ _ _ _ _ _ _ _ _ _ _ _ _ _ _ _ h => h) k)))))))))))))⟩
theorem vr_none {x : Int32} (J : hk_I T nM TY nH HC G cM cH) (RX : hk_R T nM TY nH HC G xA xR xY xP (hk_h xK xS)) (RY : hk_R T nM TY nH HC G yA yR yY yP (hk_hy yM yL)) (hH : nH < cH) (h : ∀ j, 1 ≤ j → j < 11 → x ≠ nI j) (v2 v3 v4 : Int32) :
    ∃ o : hk_O, hk_good T o ∧ (∀ post : Int32 → SX → Prop, zx_K post T nM nH (nI cM) (nI cH) xK xS xY xP o → wpX_rule post (nI T.1, nI cM, nI nM, nI cH, nI nH, xA, xR, xK, xS, xY, xP, xE) x v2 v3 v4) ∧ (∀ post : Int32 → SY → Prop, yr_K post T nM nH y1 y2 y3 y4 y5 (nI cM) (nI cH) yM yL yY yP o → wpY_rule post (y1, y2, y3, y4, y5, nI T.1, nI nM, nI nH, nI cM, nI cH, yw, yl, yk, ye, yp, yq, yr, ys, yM, yL, yY, yA, yR, yP) x v2 v3 v4) := by
  have h5 := J.2.2.2.2.1
  have R0 := hk_R_zero J RX
  refine ⟨none, trivial, fun post k => ?_, fun post k => br_t (nI_lt hH (by omega)) (br_f (h 1 (by omega) (by omega)) (br_f (h 5 (by omega) (by omega)) (br_f (h 6 (by omega) (by omega)) (br_f (h 2 (by omega) (by omega)) (br_f (h 3 (by omega) (by omega)) (br_f (h 4 (by omega) (by omega)) (br_f (h 7 (by omega) (by omega)) (br_f (h 8 (by omega) (by omega)) (br_f (h 9 (by omega) (by omega)) (br_f (h 10 (by omega) (by omega)) (k yA yR yM yL yw yl _ ye yp yq yr ys RY.1 hk_fr_r)))))))))))⟩
  have K : post (-1) (nI T.1, nI cM, nI nM, nI cH, nI nH, xA, xR, xK, xS, xY, upd xP nH 0, xE) := k xA xR xK xS (upd xP nH 0) xE RX.1 hk_fr_r (fun q hne => pk_un hne)
  refine br_t (nI_lt hH (by omega)) ⟨vp_in_nI (by omega) (by omega), nm_r (e' := upd xP nH 0) (by rw [nI_clamp (by omega)]) (br_c (fun _ => br_t rfl K) (fun z => br_c (fun _ => br_t rfl K) (fun z2 => ?_)))⟩
  exfalso
  have h0 : ¬ x < 0 := fun y => z (Int32.lt_trans y (by decide))
  obtain ⟨j, hj, rfl⟩ := nI_of h0
  have a1 : 1 ≤ j := by
    rcases Nat.lt_or_ge j 1 with q | q
    · exact absurd (nI_lt (b := 1) q (by omega)) z
    · exact q
  have a2 : j < 11 := by
    rcases Nat.lt_or_ge 10 j with q | q
    · exact absurd (nI_lt (a := 10) q hj) z2
    · omega
  exact h j a1 a2 rfl
end
theorem i_vc_rule {k : Nat} {u : SX} {v : SY} (I : i_Rel k u v) (hk : k + 5 ≤ 2562) (v1 : Int32) (v2 : Int32) (v3 : Int32) (v4 : Int32) : wpX_rule (fun r u' => wpY_rule (fun r' v' => r' = r ∧ i_Rel (k + 5) u' v') v v1 v2 v3 v4) u v1 v2 v3 v4 := by
  obtain ⟨T, nM, TY, nH, HC, G, cM, cH, J, ⟨xA, xR, xK, xS, xY, xP, xE, rfl, RX⟩, ⟨y1, y2, y3, y4, y5, yw, yl, yk, ye, yp, yq, yr, ys, yM, yL, yY, yA, yR, yP, rfl, RY⟩⟩ := I
  have h4 := J.2.2.2.1
  have h5 := J.2.2.2.2.1
  have h32 := J.2.2.1
  have h2 := J.2.1
  have h3 : ∀ h, h < nH → HC h ≤ 3 := fun h hh => (J.2.2.2.2.2.2 h hh).1
  by_cases hH : nH < cH
  · have key : ∃ o : hk_O, hk_good T o ∧ (∀ post : Int32 → SX → Prop, zx_K post T nM nH (nI cM) (nI cH) xK xS xY xP o → wpX_rule post (nI T.1, nI cM, nI nM, nI cH, nI nH, xA, xR, xK, xS, xY, xP, xE) v1 v2 v3 v4) ∧ (∀ post : Int32 → SY → Prop, yr_K post T nM nH y1 y2 y3 y4 y5 (nI cM) (nI cH) yM yL yY yP o → wpY_rule post (y1, y2, y3, y4, y5, nI T.1, nI nM, nI nH, nI cM, nI cH, yw, yl, yk, ye, yp, yq, yr, ys, yM, yL, yY, yA, yR, yP) v1 v2 v3 v4) := by
      rcases hk_val v1 11 with h | ⟨c, hc, rfl⟩
      · exact vr_none J RX RY hH (fun j _ hj => h j hj) v2 v3 v4
      · have : c = 0 ∨ c = 1 ∨ c = 2 ∨ c = 3 ∨ c = 4 ∨ c = 5 ∨ c = 6 ∨ c = 7 ∨ c = 8 ∨ c = 9 ∨ c = 10 := by omega
        rcases this with rfl | rfl | rfl | rfl | rfl | rfl | rfl | rfl | rfl | rfl | rfl
        · exact vr_none J RX RY hH (fun j h1 hj e => by rw [nI_eq (by omega) (by omega)] at e; omega) v2 v3 v4
        · exact vr_refl J RX RY hH v2 v3 v4
        · exact vr_trans J RX RY hH v2 v3 v4
        · exact vr_comb J RX RY hH v2 v3 v4
        · exact vr_abs J RX RY hH v2 v3 v4
        · exact vr_beta J RX RY hH v2 v3 v4
        · exact vr_norm J RX RY hH v2 v3 v4
        · exact vr_assume J RX RY hH v2 v3 v4
        · exact vr_mp J RX RY hH v2 v3 v4
        · exact vr_ded J RX RY hH v2 v3 v4
        · exact vr_inst J RX RY hH v2 v3 v4
    obtain ⟨o, good, hX, hY⟩ := key
    refine hX _ ?_
    cases o with
    | none =>
      intro A R K S P E hb f p
      refine hY _ ?_
      intro A2 R2 M L w1 w2 w3 w4 w5 w6 w7 w8 hb2 f2
      exact ⟨rfl, hk_keep J (hk_R_keep RX hb (fun s l hs h => hk_fr_h f (by omega) h) p (by omega) h3) (hk_R_keep RY hb2 (fun s l hs h => hk_fr_hy f2 (by omega) h) (fun _ _ => rfl) (by omega) h3)⟩
    | some q =>
      obtain ⟨Cn, H, T'⟩ := q
      obtain ⟨g1, g2, g3, g4, g5⟩ := good
      intro A R K S P E hb c1 c2 f p1 p2
      refine hY _ ?_
      intro A2 R2 M L w1 w2 w3 w4 w5 w6 w7 w8 hb2 d1 d2 f2
      exact ⟨rfl, hk_keep (hk_I_thm J g4 g5 hH g1 g2 g3) (hk_R_thm RX hb (fun s l hs h => hk_fr_h f (by omega) h) c1 c2 p1 p2 (by omega) h3) (hk_R_thm RY hb2 (fun s l hs h => hk_fr_hy f2 (by omega) h) d1 d2 pk_us (fun h hne => pk_un hne) (by omega) h3)⟩
  · exact br_f (nI_nlt (by omega) (by omega)) (br_f (nI_nlt (by omega) (by omega)) ⟨rfl, hk_keep J RX RY⟩)
