/-! mkComb, mkAbs, reading -/
theorem hk_comb_gt {n : Nat} {a b : List Nat} (ga : hk_gt n a) (gb : hk_gt n b) (hl : 1 + a.length + b.length ≤ 32) : hk_gt n ([196608] ++ a ++ b) := by
  refine ⟨?_, by rw [List.length_append, List.length_append]; exact hl, fun c hc => ?_⟩
  · show hk_run 1 (196608 :: (a ++ b)) = some 0
    rw [hk_run_s, hk_ar_3 (by decide)]
    show hk_run 2 (a ++ b) = _
    rw [hk_run_app _ _ _ _ (hk_run1 ga.1 1)]; exact gb.1
  · rcases List.mem_append.mp hc with z | z
    · rcases List.mem_append.mp z with z | z
      · rw [List.mem_singleton.mp z]; exact ⟨by omega, fun y => by omega⟩
      · exact ga.2.2 c z
    · exact gb.2.2 c z
theorem i_vc_mkComb {k : Nat} {u : SX} {v : SY} (I : i_Rel k u v) (hk : k + 5 ≤ 2562) (v1 : Int32) (v2 : Int32) : wpX_mkComb (fun r u' => wpY_mkComb (fun r' v' => r' = r ∧ i_Rel (k + 5) u' v') v v1 v2) u v1 v2 := by
  obtain ⟨T, nM, TY, nH, HC, G, cM, cH, J, ⟨xA, xR, xK, xS, xY, xP, xE, rfl, RX⟩, ⟨y1, y2, y3, y4, y5, yw, yl, yk, ye, yp, yq, yr, ys, yM, yL, yY, yA, yR, yP, rfl, RY⟩⟩ := I
  have hn := J.1.2.1
  have h32 := J.2.2.1
  have h2 := J.2.1
  rcases hk_val v1 nM with h1 | ⟨f, hf, rfl⟩
  · exact hk_ok0 h1 (br_t rfl (hk_ok0 h1 (br_t rfl ⟨rfl, hk_keep J RX RY⟩)))
  rcases hk_val v2 nM with h1 | ⟨x, hx, rfl⟩
  · exact hk_ok1 (by omega) hf (br_f (by decide) (hk_ok0 h1 (br_t rfl (hk_ok1 (by omega) hf (br_f (by decide) (hk_ok0 h1 (br_t rfl ⟨rfl, hk_keep J RX RY⟩)))))))
  obtain ⟨tf, gf, -⟩ := J.2.2.2.2.2.1 f hf
  obtain ⟨tx, gx, -⟩ := J.2.2.2.2.2.1 x hx
  obtain ⟨xYf, xhf⟩ := RX.2.1 f hf
  obtain ⟨xYx, xhx⟩ := RX.2.1 x hx
  obtain ⟨yYf, yhf⟩ := RY.2.1 f hf
  obtain ⟨yYx, yhx⟩ := RY.2.1 x hx
  have lf := gf.2.1
  have lx := gx.2.1
  have cf : (nI f).toNatClampNeg = f := nI_clamp (by omega)
  have cx : (nI x).toNatClampNeg = x := nI_clamp (by omega)
  have ct : (nI (TY f)).toNatClampNeg = TY f := nI_clamp (by omega)
  have V32f : vp_in (nI f) 32 := vp_in_nI (by omega) (by omega)
  have V32x : vp_in (nI x) 32 := vp_in_nI (by omega) (by omega)
  have V98f : vp_in (nI f) 98 := vp_in_nI (by omega) (by omega)
  have V98x : vp_in (nI x) 98 := vp_in_nI (by omega) (by omega)
  have V110f : vp_in (nI f) 110 := vp_in_nI (by omega) (by omega)
  have V110x : vp_in (nI x) 110 := vp_in_nI (by omega) (by omega)
  have V48 : vp_in (nI (TY f)) 48 := vp_in_nI (by omega) (by omega)
  refine hk_ok1 (by omega) hf (br_f (by decide) (hk_ok1 (by omega) hx (br_f (by decide) ?_)))
  refine pk_lt nM cM (fun z => ?_) (fun z => hk_ok1 (by omega) hf (br_f (by decide) (hk_ok1 (by omega) hx (br_f (by decide) (br_f (nI_nlt z (by omega)) ⟨rfl, hk_keep J RX RY⟩)))))
  have zz : nI nM < nI cM := nI_lt z (by omega)
  refine ⟨V32f, nm_r (e' := nI (TY f)) (by rw [cf]; exact xYf) ⟨V32x, ?_⟩⟩
  have ex : xY (nI x).toNatClampNeg = nI (TY x) := by rw [cx]; exact xYx
  rw [ex]
  refine xa_takes RX.1 J.1 tf (by omega) (fun g3 gD => br_f (by decide) ⟨V98f, V98x, ?_⟩) (fun g3 => br_t rfl ?_)
  · have cT := (J.1.2.2.2.2.2.2 _ g3 tf).2
    try dsimp only
    rw [hk_sz xhf (by omega), hk_sz xhx (by omega), show (1 : Int32) = nI 1 from rfl, nI_add, nI_add]
    have n3 : ¬ nI (TY f) < 3 := nI_nlt (b := 3) g3 (by omega)
    have eD : yA (nI (TY f)).toNatClampNeg = yY (nI x).toNatClampNeg := by rw [ct, cx, (RY.1 _ g3 tf).1, yYx, gD]
    have eL : (1 : Int32) + yL (nI f).toNatClampNeg + yL (nI x).toNatClampNeg = nI (1 + (G f).length + (G x).length) := by
      try dsimp only
      rw [hk_szy yhf (by omega) lf, hk_szy yhx (by omega) lx, show (1 : Int32) = nI 1 from rfl, nI_add, nI_add]
    refine pk_le (1 + (G f).length + (G x).length) 32 (fun w => ?_) (fun w => ?_)
    · refine ⟨vp_in_nI (by omega) (by omega), nm_r (e' := upd xS nM 0) (by rw [nI_clamp (by omega)]) ?_⟩
      have f0 : hk_fr (fun s => s = nM) xK xS xK (upd xS nM 0) := hk_fr_s
      refine xa_append (l := []) (c := 196608) (by omega) hk_h0 (by decide) rfl (fun K1 S1 q1 f1 => ⟨V98f, ?_⟩)
      have f01 := hk_fr_t f0 f1
      have xf1 := hk_fr_h f01 (s := f) (by omega) xhf
      refine xa_all (by omega) (by omega) (by omega) lf q1 xf1 (by decide) (hk_sz xf1 (by omega)) (fun K2 S2 q2 f2 => ⟨V98x, ?_⟩)
      have f02 := hk_fr_t f01 f2
      have xx2 := hk_fr_h f02 (s := x) (by omega) xhx
      refine xa_all (by omega) (by omega) (by omega) lx q2 xx2 (by rw [List.length_append]; show 1 + (G f).length < 90000; omega) (hk_sz xx2 (by omega)) (fun K3 S3 q3 f3 => ⟨V48, ?_⟩)
      have f03 := hk_fr_t f02 f3
      dsimp only
      rw [ct, (RX.1 _ g3 tf).2]
      refine xa_keep (by omega) ?_
      refine hk_ok1 (by omega) hf (br_f (by decide) (hk_ok1 (by omega) hx (br_f (by decide) (br_t zz ⟨V32f, nm_r (e' := nI (TY f)) (by rw [cf]; exact yYf) (br_f n3 ⟨V48, V32x, br_t eD ⟨V110f, V110x, br_t (by rw [eL]; exact nI_le (b := 32) w (by omega)) ?_⟩⟩)⟩))))
      refine ya_begin (by omega) (fun L1 p1 g1 => ?_)
      refine ya_emit (l := []) (c := 196608) (by omega) p1 (by decide) rfl (fun M2 L2 p2 g2 => ⟨V110f, ?_⟩)
      have g12 := hk_fr_t g1 g2
      have yf2 := hk_fr_hy g12 (s := f) (by omega) yhf
      refine ya_all (by omega) (by omega) (by omega) lf p2 yf2 (by decide) (hk_szy yf2 (by omega) lf) (fun M3 L3 p3 g3' => ⟨V110x, ?_⟩)
      have g13 := hk_fr_t g12 g3'
      have yx3 := hk_fr_hy g13 (s := x) (by omega) yhx
      refine ya_all (by omega) (by omega) (by omega) lx p3 yx3 (by rw [List.length_append]; show 1 + (G f).length < 90000; omega) (hk_szy yx3 (by omega) lx) (fun M4 L4 p4 g4 => ⟨V48, vp_in_nI (by omega) (by omega), ?_⟩)
      have g14 := hk_fr_t g13 g4
      refine nm_r (e' := upd yY nM (nI (T.2.2 (TY f)))) (by rw [ct, (RY.1 _ g3 tf).2, nI_clamp (by omega)]) (nm_r (nI_1 _) ⟨by rw [nI_pred], ?_⟩)
      exact hk_new J RX RY z J.1 (Nat.le_refl _) RX.1 RY.1 f03 q3 g14 p4 cT (hk_comb_gt gf gx w) (fun y => by have y : (196608 : Nat) / 65536 = 1 := y; omega)
    · refine hk_ok1 (by omega) hf (br_f (by decide) (hk_ok1 (by omega) hx (br_f (by decide) (br_t zz ⟨V32f, nm_r (e' := nI (TY f)) (by rw [cf]; exact yYf) (br_f n3 ⟨V48, V32x, br_t eD ⟨V110f, V110x, br_f (by rw [eL]; exact nI_ge (a := 32) w (by omega)) ⟨rfl, hk_keep J RX RY⟩⟩⟩)⟩))))
  · refine hk_ok1 (by omega) hf (br_f (by decide) (hk_ok1 (by omega) hx (br_f (by decide) (br_t zz ⟨V32f, nm_r (e' := nI (TY f)) (by rw [cf]; exact yYf) ?_⟩))))
    refine pk_lt (TY f) 3 (fun w => ⟨rfl, hk_keep J RX RY⟩) (fun w => ⟨V48, V32x, ?_⟩)
    have w1 := (J.1.2.2.2.2.2.2 _ w tf).1
    rw [ct, cx, (RY.1 _ w tf).1, yYx]
    exact br_f (fun y => g3 ⟨w, (nI_eq (by omega) (by omega)).mp y⟩) ⟨rfl, hk_keep J RX RY⟩
theorem hk_abl_gt {n vc : Nat} {l : List Nat} (hv : vc / 65536 = 1) (g : hk_gt n l) (hl : 1 + l.length ≤ 32) : hk_gt n (hk_abl l 0 l.length vc) :=
  ⟨hk_abl_run (by have := g.2.1; omega) hv (by rw [hk_fm_all]; exact g.1), by rw [hk_abl_len]; omega, hk_abl_gc (by omega) g.2.1 g.2.2⟩
section
variable {xn xc xm xd xh : Int32} {xA xR xK xS xY xP xE : Nat → Int32} {y1 y2 y3 y4 y5 yn ym yh yc yd yw yl yk ye yp yq yr ys : Int32} {yM yL yY yA yR yP : Nat → Int32} {T : hk_T} {nM nH cM cH : Nat} {TY HC : Nat → Nat} {G : Nat → List Nat}
def vc_mka (T : hk_T) (nM cM vc tx : Nat) (l : List Nat) : Prop := nM < cM ∧ vc / 65536 = 1 ∧ 1 + l.length ≤ 32 ∧ ∃ j, (hk_it T (vc % 256) tx).1 = some j
theorem xm_abs {post : Int32 → SX → Prop} {f x vc : Nat} (J : hk_I T nM TY nH HC G cM cH) (RX : hk_R T nM TY nH HC G xA xR xY xP (hk_h xK xS)) (hf : f < nM) (hx : x < nM) (evc : vc = hk_c (G f) 0)
    (k1 : vc_mka T nM cM vc (TY x) (G x) → ∀ (j : Nat) (A R K S E : Nat → Int32), (hk_it T (vc % 256) (TY x)).1 = some j → hk_tb (hk_it T (vc % 256) (TY x)).2 A R → hk_h K S nM (hk_abl (G x) 0 (G x).length vc) → hk_fr (fun s => s = nM) xK xS K S → post (nI nM) (nI (hk_it T (vc % 256) (TY x)).2.1, nI cM, nI (nM + 1), xd, xh, A, R, K, S, upd xY nM (nI j), xP, E))
    (k0 : ¬ vc_mka T nM cM vc (TY x) (G x) → ∀ A R : Nat → Int32, hk_tb T A R → post (-1) (nI T.1, nI cM, nI nM, xd, xh, A, R, xK, xS, xY, xP, xE)) : wpX_mkAbs post (nI T.1, nI cM, nI nM, xd, xh, xA, xR, xK, xS, xY, xP, xE) (nI f) (nI x) := by
  have vI := hk_I_var J hf
  rw [← evc] at vI
  obtain ⟨i1, i2, i3, i4, i5, i6, i7⟩ := J
  obtain ⟨r1, r2, r3⟩ := RX
  obtain ⟨tf, gf, -⟩ := i6 f hf
  obtain ⟨tx, gx, -⟩ := i6 x hx
  obtain ⟨Yf, hf1⟩ := r2 f hf
  obtain ⟨Yx, hx1⟩ := r2 x hx
  have hn := i1.2.1
  have lx := gx.2.1
  have ref : ∀ (c : ¬ vc_mka T nM cM vc (TY x) (G x)), post (-1) (nI T.1, nI cM, nI nM, xd, xh, xA, xR, xK, xS, xY, xP, xE) := fun c => k0 c xA xR r1
  unfold wpX_mkAbs
  dsimp only
  refine xa_var hf (by omega) hf1 gf (fun ek => br_f (by decide) ?_) (fun ek => br_t rfl (ref (fun c => ek (by rw [← evc]; exact c.2.1))))
  rw [← evc] at ek
  obtain ⟨v1, v2, v3⟩ := vI ek
  rw [v1] at hf1
  refine hk_ok1 (by omega) hx (br_f (by decide) ?_)
  refine pk_le cM nM (fun z => ref (fun c => by have := c.1; omega)) (fun z => ⟨vp_in_nI (by omega) (by omega), ?_⟩)
  try dsimp only
  rw [hk_sz hx1 (by omega), show (1 : Int32) = nI 1 from rfl, nI_add]
  refine pk_le (1 + (G x).length) 32 (fun w => ⟨vp_in_nI (by omega) (by omega), vp_in_nI (by omega) (by omega), ?_⟩) (fun w => ref (fun c => by have := c.2.2.1; omega))
  rw [nI_clamp (n := f) (by omega), nI_clamp (n := x) (by omega), Yf, Yx, v2]
  have dT : vc % 256 < T.1 := by rw [← v2]; exact tf
  obtain ⟨j1, j2, j3, j4⟩ := hk_it_ok (d := vc % 256) (c := TY x) i1 dT tx
  refine xa_intern r1 i1 dT tx (fun A R hb => ?_)
  cases hj : (hk_it T (vc % 256) (TY x)).1 with
  | none =>
    have e : (hk_it T (vc % 256) (TY x)).2 = T := hk_it_none hj
    rw [e] at hb ⊢
    refine br_t rfl (k0 (fun c => ?_) A R hb)
    obtain ⟨j, h⟩ := c.2.2.2
    rw [hj] at h; cases h
  | some j =>
    have w1 := j4 j hj
    have w2 := j1.2.1
    refine br_f (hk_o_ne (by omega)) ⟨vp_in_nI (by omega) (by omega), nm_r (e' := upd xS nM 0) (by rw [nI_clamp (by omega)]) ?_⟩
    have f0 : hk_fr (fun s => s = nM) xK xS xK (upd xS nM 0) := hk_fr_s
    have hx2 := hk_fr_h f0 (s := x) (by omega) hx1
    refine xa_mark hx2 (by omega) gx (fun E hE => ⟨vp_in_nI (by omega) (by omega), ?_⟩)
    try dsimp only
    rw [show upd xS nM 0 x = nI (G x).length from hx2.1]
    refine xa_abs (f := 0) (l0 := []) (by omega) (by omega) (by omega) (by omega) (by omega) gx (Nat.zero_le _) (Nat.le_refl _) v3 (Yf.trans (congrArg nI v2)) (fun q h1 h2 => hE q h2) hk_h0 hx2 (hk_fr_h f0 (by omega) hf1) (by decide) (fun K1 S1 q1 f1 => ?_)
    refine xa_keep (by omega) ?_
    exact k1 ⟨by omega, ek, w, j, hj⟩ j A R K1 S1 E hj hb q1 (hk_fr_t f0 f1)
theorem ym_abs {post : Int32 → SY → Prop} {f x vc : Nat} (J : hk_I T nM TY nH HC G cM cH) (RY : hk_R T nM TY nH HC G yA yR yY yP (hk_hy yM yL)) (hf : f < nM) (hx : x < nM) (evc : vc = hk_c (G f) 0)
    (k1 : vc_mka T nM cM vc (TY x) (G x) → ∀ (j : Nat) (A R M L : Nat → Int32) (w wl : Int32), (hk_it T (vc % 256) (TY x)).1 = some j → hk_tb (hk_it T (vc % 256) (TY x)).2 A R → hk_hy M L nM (hk_abl (G x) 0 (G x).length vc) → hk_fr (fun s => s = nM) yM yL M L → post (nI nM) (y1, y2, y3, y4, y5, nI (hk_it T (vc % 256) (TY x)).2.1, nI (nM + 1), yh, nI cM, yd, w, wl, yk, ye, yp, yq, yr, ys, M, L, upd yY nM (nI j), A, R, yP))
    (k0 : ¬ vc_mka T nM cM vc (TY x) (G x) → post (-1) (y1, y2, y3, y4, y5, nI T.1, nI nM, yh, nI cM, yd, yw, yl, yk, ye, yp, yq, yr, ys, yM, yL, yY, yA, yR, yP)) : wpY_mkAbs post (y1, y2, y3, y4, y5, nI T.1, nI nM, yh, nI cM, yd, yw, yl, yk, ye, yp, yq, yr, ys, yM, yL, yY, yA, yR, yP) (nI f) (nI x) := by
  have vI := hk_I_var J hf
  rw [← evc] at vI
  obtain ⟨i1, i2, i3, i4, i5, i6, i7⟩ := J
  obtain ⟨r1, r2, r3⟩ := RY
  obtain ⟨tf, gf, -⟩ := i6 f hf
  obtain ⟨tx, gx, -⟩ := i6 x hx
  obtain ⟨Yf, hf1⟩ := r2 f hf
  obtain ⟨Yx, hx1⟩ := r2 x hx
  have hn := i1.2.1
  have lx := gx.2.1
  have lf := gf.2.1
  have hvc : vc < 524288 := by rw [evc]; exact (hk_gt_c gf (hk_gt_pos gf)).1
  refine hk_ok1 (by omega) hf (br_f (by decide) (hk_ok1 (by omega) hx (br_f (by decide) ?_)))
  refine pk_lt nM cM (fun z => ?_) (fun z => k0 (fun c => by have := c.1; omega))
  refine ya_nd (p := 0) hf1 (by omega) (hk_gt_pos gf) (by omega) ⟨vp_in_nI (by omega) (by omega), ?_⟩
  try dsimp only
  rw [hk_szy hf1 (by omega) lf, ← evc]
  refine pk_eq (G f).length 1 (fun el => ⟨by decide, ?_⟩) (fun el => k0 (fun c => el (by rw [(vI c.2.1).1]; rfl)))
  rw [hk_kd hvc]
  refine pk_eq (vc / 65536) 1 (fun ek => ⟨vp_in_nI (by omega) (by omega), ?_⟩) (fun ek => k0 (fun c => ek c.2.1))
  obtain ⟨v1, v2, v3⟩ := vI ek
  try dsimp only
  rw [hk_szy hx1 (by omega) lx, nI_1]
  refine pk_le ((G x).length + 1) 32 (fun w => ⟨by decide, nm_r (hk_tyn hvc) ⟨vp_in_nI (by omega) (by omega), ?_⟩⟩) (fun w => k0 (fun c => by have := c.2.2.1; omega))
  have dT : vc % 256 < T.1 := by rw [← v2]; exact tf
  obtain ⟨j1, j2, j3, j4⟩ := hk_it_ok (d := vc % 256) (c := TY x) i1 dT tx
  have ex : yY (nI x).toNatClampNeg = nI (TY x) := by rw [nI_clamp (by omega)]; exact Yx
  rw [ex]
  have go : ∀ j, (hk_it T (vc % 256) (TY x)).1 = some j → wY_mkAbs_102 post (nI x) (nI vc) (nI (vc % 256)) y1 y2 y3 y4 y5 (nI T.1) (nI nM) yh (nI cM) yd yw yl yk ye yp yq yr ys yM yL yY yA yR yP := by
    intro j hj
    have w1 := j4 j hj
    have w2 := j1.2.1
    refine ⟨vp_in_nI (by omega) (by omega), ?_⟩
    rw [ex]
    refine ya_intern r1 i1 dT tx (fun A R hb => ?_)
    rw [hj]
    refine ya_begin (by omega) (fun L1 q1 f1 => ?_)
    refine ya_emit (l := []) (c := 262144 + vc % 256) (by omega) q1 (by decide) (nI_add 262144 _) (fun M2 L2 q2 f2 => ⟨vp_in_nI (by omega) (by omega), ?_⟩)
    have f12 := hk_fr_t f1 f2
    have hx2 := hk_fr_hy f12 (s := x) (by omega) hx1
    refine ya_abs (st := 0) (n := (G x).length) (by omega) (by omega) (by omega) gx (by omega) hvc q2 hx2 (by simp) (hk_szy hx2 (by omega) lx) (fun M3 L3 q3 f3 => ⟨vp_in_nI (by omega) (by omega), ?_⟩)
    refine nm_r (e' := upd yY nM (nI j)) (by rw [nI_clamp (by omega)]; rfl) (nm_r (nI_1 _) ?_)
    rw [nI_pred]
    exact k1 ⟨z, ek, by omega, j, hj⟩ j A R M3 L3 _ _ hj hb q3 (hk_fr_t f12 f3)
  refine ya_find r1 i1 (by omega) (by omega) ?_
  cases hfd : hk_find T (vc % 256) (TY x) with
  | some j => exact br_t (hk_o_ge (by have := hk_find_in hfd (by have := i1.1; omega); omega)) (go j (by rw [hk_it_f hfd]))
  | none =>
    refine br_f hk_m1_nge (pk_lt T.1 48 (fun w2 => go T.1 (by rw [hk_it_a hfd (by omega)])) (fun w2 => k0 (fun c => ?_)))
    obtain ⟨j, h⟩ := c.2.2.2
    rw [hk_it_z hfd w2] at h; cases h
end
theorem i_vc_mkAbs {k : Nat} {u : SX} {v : SY} (I : i_Rel k u v) (hk : k + 5 ≤ 2562) (v1 : Int32) (v2 : Int32) : wpX_mkAbs (fun r u' => wpY_mkAbs (fun r' v' => r' = r ∧ i_Rel (k + 5) u' v') v v1 v2) u v1 v2 := by
  obtain ⟨T, nM, TY, nH, HC, G, cM, cH, J, ⟨xA, xR, xK, xS, xY, xP, xE, rfl, RX⟩, ⟨y1, y2, y3, y4, y5, yw, yl, yk, ye, yp, yq, yr, ys, yM, yL, yY, yA, yR, yP, rfl, RY⟩⟩ := I
  have h32 := J.2.2.1
  have h2 := J.2.1
  rcases hk_val v1 nM with h1 | ⟨f, hf, rfl⟩
  · unfold wpX_mkAbs
    dsimp only
    refine xa_var0 h1 (br_t rfl ?_)
    exact hk_ok0 h1 (br_t rfl ⟨rfl, hk_keep J RX RY⟩)
  rcases hk_val v2 nM with h1 | ⟨x, hx, rfl⟩
  · obtain ⟨tf, gf, -⟩ := J.2.2.2.2.2.1 f hf
    unfold wpX_mkAbs
    dsimp only
    refine xa_var hf (by omega) (RX.2.1 f hf).2 gf (fun ek => br_f (by decide) (hk_ok0 h1 (br_t rfl ?_))) (fun ek => br_t rfl ?_)
    · exact hk_ok1 (by omega) hf (br_f (by decide) (hk_ok0 h1 (br_t rfl ⟨rfl, hk_keep J RX RY⟩)))
    · exact hk_ok1 (by omega) hf (br_f (by decide) (hk_ok0 h1 (br_t rfl ⟨rfl, hk_keep J RX RY⟩)))
  have vI := hk_I_var J hf
  refine xm_abs J RX hf hx rfl (fun c j A R K S E hj hb h fX => ?_) (fun c A R hb => ?_)
  · refine ym_abs J RY hf hx rfl (fun _ j' A2 R2 M L w wl hj' hb2 h' f' => ⟨rfl, ?_⟩) (fun c' => absurd c c')
    rw [hj] at hj'
    cases hj'
    have dT : hk_c (G f) 0 % 256 < T.1 := by rw [← (vI c.2.1).2.1]; exact (J.2.2.2.2.2.1 f hf).1
    obtain ⟨j1, j2, j3, j4⟩ := hk_it_ok (d := hk_c (G f) 0 % 256) (c := TY x) J.1 dT (J.2.2.2.2.2.1 x hx).1
    have md : hk_c (G f) 0 % 256 < 256 := Nat.mod_lt _ (by decide)
    exact hk_new J RX RY c.1 j1 j2 hb hb2 fX h f' h' (j4 j hj).2 (hk_gt_mono (hk_abl_gt c.2.1 (J.2.2.2.2.2.1 x hx).2.1 c.2.2.1) j2) (fun y => by have y : (262144 + hk_c (G f) 0 % 256) / 65536 = 1 := y; omega)
  · refine ym_abs J RY hf hx rfl (fun c' => absurd c' c) (fun _ => ⟨rfl, hk_keep J ⟨hb, RX.2⟩ RY⟩)
theorem i_vc_termType {k : Nat} {u : SX} {v : SY} (I : i_Rel k u v) (hk : k + 5 ≤ 2562) (v1 : Int32) : wpX_termType (fun r => wpY_termType (fun r' => r' = r ∧ i_Rel (k + 5) u v) v v1) u v1 := by
  have K := i_up I
  obtain ⟨T, nM, TY, nH, HC, G, cM, cH, J, ⟨xA, xR, xK, xS, xY, xP, xE, rfl, RX⟩, ⟨y1, y2, y3, y4, y5, yw, yl, yk, ye, yp, yq, yr, ys, yM, yL, yY, yA, yR, yP, rfl, RY⟩⟩ := I
  have h32 := J.2.2.1
  have h2 := J.2.1
  rcases hk_val v1 nM with h1 | ⟨t, ht, rfl⟩
  · exact hk_ok0 h1 (br_t rfl (hk_ok0 h1 (br_t rfl ⟨rfl, K⟩)))
  · have V : vp_in (nI t) 32 := vp_in_nI (by omega) (by omega)
    refine hk_ok1 (by omega) ht (br_f (by decide) ⟨V, hk_ok1 (by omega) ht (br_f (by decide) ⟨V, ?_, K⟩)⟩)
    rw [nI_clamp (by omega), (RX.2.1 t ht).1, (RY.2.1 t ht).1]
theorem i_vc_termSize {k : Nat} {u : SX} {v : SY} (I : i_Rel k u v) (hk : k + 5 ≤ 2562) (v1 : Int32) : wpX_termSize (fun r => wpY_termSize (fun r' => r' = r ∧ i_Rel (k + 5) u v) v v1) u v1 := by
  have K := i_up I
  obtain ⟨T, nM, TY, nH, HC, G, cM, cH, J, ⟨xA, xR, xK, xS, xY, xP, xE, rfl, RX⟩, ⟨y1, y2, y3, y4, y5, yw, yl, yk, ye, yp, yq, yr, ys, yM, yL, yY, yA, yR, yP, rfl, RY⟩⟩ := I
  have h32 := J.2.2.1
  have h2 := J.2.1
  rcases hk_val v1 nM with h1 | ⟨t, ht, rfl⟩
  · exact hk_ok0 h1 (br_t rfl (hk_ok0 h1 (br_t rfl ⟨rfl, K⟩)))
  · obtain ⟨ty, g, -⟩ := J.2.2.2.2.2.1 t ht
    refine hk_ok1 (by omega) ht (br_f (by decide) ⟨vp_in_nI (by omega) (by omega), hk_ok1 (by omega) ht (br_f (by decide) ⟨vp_in_nI (by omega) (by omega), ?_, K⟩)⟩)
    try dsimp only
    rw [hk_sz (RX.2.1 t ht).2 (by omega), hk_szy (RY.2.1 t ht).2 (by omega) g.2.1]
theorem i_vc_termNode {k : Nat} {u : SX} {v : SY} (I : i_Rel k u v) (hk : k + 5 ≤ 2562) (v1 : Int32) (v2 : Int32) : wpX_termNode (fun r => wpY_termNode (fun r' => r' = r ∧ i_Rel (k + 5) u v) v v1 v2) u v1 v2 := by
  have K := i_up I
  obtain ⟨T, nM, TY, nH, HC, G, cM, cH, J, ⟨xA, xR, xK, xS, xY, xP, xE, rfl, RX⟩, ⟨y1, y2, y3, y4, y5, yw, yl, yk, ye, yp, yq, yr, ys, yM, yL, yY, yA, yR, yP, rfl, RY⟩⟩ := I
  have h32 := J.2.2.1
  have h2 := J.2.1
  rcases hk_val v1 nM with h1 | ⟨t, ht, rfl⟩
  · exact hk_ok0 h1 (br_t rfl (hk_ok0 h1 (br_t rfl ⟨rfl, K⟩)))
  · obtain ⟨ty, g, -⟩ := J.2.2.2.2.2.1 t ht
    have yh := (RY.2.1 t ht).2
    have ys := hk_szy yh (by omega) g.2.1
    have l32 := g.2.1
    have V : vp_in (nI t) 110 := vp_in_nI (by omega) (by omega)
    refine hk_ok1 (by omega) ht (br_f (by decide) (xa_con (RX.2.1 t ht).2 (by omega) g (fun z => ?_) (fun j hj e => ?_)))
    · refine hk_ok1 (by omega) ht (br_f (by decide) (br_c (fun _ => ⟨rfl, K⟩) (fun q => ⟨V, br_f ?_ ⟨rfl, K⟩⟩)))
      rw [ys]
      obtain ⟨j, hj, rfl⟩ := nI_of q
      refine nI_nlt ?_ hj
      rcases Nat.lt_or_ge j (G t).length with w | w
      · exact absurd rfl (z j w)
      · exact w
    · subst e
      refine hk_ok1 (by omega) ht (br_f (by decide) (br_f (nI_pos (by omega)) ⟨V, br_t (by rw [ys]; exact nI_lt hj (by omega)) ?_⟩))
      exact ya_nd yh (by omega) hj (by omega) ⟨rfl, K⟩
theorem i_vc_hypCount {k : Nat} {u : SX} {v : SY} (I : i_Rel k u v) (hk : k + 5 ≤ 2562) (v1 : Int32) : wpX_hypCount (fun r => wpY_hypCount (fun r' => r' = r ∧ i_Rel (k + 5) u v) v v1) u v1 := by
  have K := i_up I
  obtain ⟨T, nM, TY, nH, HC, G, cM, cH, J, ⟨xA, xR, xK, xS, xY, xP, xE, rfl, RX⟩, ⟨y1, y2, y3, y4, y5, yw, yl, yk, ye, yp, yq, yr, ys, yM, yL, yY, yA, yR, yP, rfl, RY⟩⟩ := I
  have h4 := J.2.2.2.1
  have h5 := J.2.2.2.2.1
  rcases hk_val v1 nH with h1 | ⟨t, ht, rfl⟩
  · exact hk_ok0 h1 (br_t rfl (hk_ok0 h1 (br_t rfl ⟨rfl, K⟩)))
  · have V : vp_in (nI t) 16 := vp_in_nI (by omega) (by omega)
    refine hk_ok1 (by omega) ht (br_f (by decide) ⟨V, hk_ok1 (by omega) ht (br_f (by decide) ⟨V, ?_, K⟩)⟩)
    rw [nI_clamp (by omega), (RX.2.2 t ht).1, (RY.2.2 t ht).1]
section
variable {xn xc xm xd xh : Int32} {xA xR xK xS xY xP xE : Nat → Int32} {y1 y2 y3 y4 y5 yn ym yh yc yd yw yl yk ye yp yq yr ys : Int32} {yM yL yY yA yR yP : Nat → Int32} {T : hk_T} {nM nH cM cH : Nat} {TY HC : Nat → Nat} {G : Nat → List Nat}
theorem xa_isPart {post : Int32 → Prop} {t n : Nat} {x : Int32} (ht : t < nH) (hH : nH ≤ 16) (hP : xP t = nI n) (hn : n ≤ 3) (k0 : (∀ j, j < n + 1 → x ≠ nI j) → post 0) (k1 : ∀ j, j < n + 1 → x = nI j → post 1) : wpX_isPart post (xn, xc, xm, xd, nI nH, xA, xR, xK, xS, xY, xP, xE) (nI t) x := by
  refine hk_ok1 (by omega) ht (br_f (by decide) ?_)
  rcases hk_val x (n + 1) with z | ⟨j, hj, rfl⟩
  · refine br_c (fun _ => k0 z) (fun q => ⟨vp_in_nI (by omega) (by omega), ?_⟩)
    rw [nI_clamp (by omega), hP]
    obtain ⟨j, hj, rfl⟩ := nI_of q
    refine br_t (nI_lt ?_ hj) (k0 z)
    rcases Nat.lt_or_ge n j with w | w
    · exact w
    · exact absurd rfl (z j (by omega))
  · refine br_f (nI_pos (by omega)) ⟨vp_in_nI (by omega) (by omega), ?_⟩
    rw [nI_clamp (by omega), hP]
    exact br_f (nI_nlt (by omega) (by omega)) (k1 j hj rfl)
end
theorem i_vc_thmSize {k : Nat} {u : SX} {v : SY} (I : i_Rel k u v) (hk : k + 5 ≤ 2562) (v1 : Int32) (v2 : Int32) : wpX_thmSize (fun r => wpY_thmSize (fun r' => r' = r ∧ i_Rel (k + 5) u v) v v1 v2) u v1 v2 := by
  have K := i_up I
  obtain ⟨T, nM, TY, nH, HC, G, cM, cH, J, ⟨xA, xR, xK, xS, xY, xP, xE, rfl, RX⟩, ⟨y1, y2, y3, y4, y5, yw, yl, yk, ye, yp, yq, yr, ys, yM, yL, yY, yA, yR, yP, rfl, RY⟩⟩ := I
  have h4 := J.2.2.2.1
  have h5 := J.2.2.2.2.1
  rcases hk_val v1 nH with h1 | ⟨t, ht, rfl⟩
  · exact hk_ok0 h1 (br_t rfl (br_t rfl (hk_ok0 h1 (br_t rfl ⟨rfl, K⟩))))
  · obtain ⟨hc, gp⟩ := J.2.2.2.2.2.2 t ht
    obtain ⟨yPt, yh⟩ := RY.2.2 t ht
    obtain ⟨xPt, xh⟩ := RX.2.2 t ht
    have V : vp_in (nI t) 16 := vp_in_nI (by omega) (by omega)
    unfold wpX_thmSize
    dsimp only
    refine xa_isPart ht (by omega) xPt hc (fun z => br_t rfl ?_) (fun p hp e => br_f (by decide) ?_)
    · refine hk_ok1 (by omega) ht (br_f (by decide) (br_c (fun _ => ⟨rfl, K⟩) (fun q => ⟨V, br_f ?_ ⟨rfl, K⟩⟩)))
      rw [nI_clamp (by omega), yPt]
      obtain ⟨j, hj, rfl⟩ := nI_of q
      refine nI_ge ?_ hj
      rcases Nat.lt_or_ge (HC t) j with w | w
      · exact w
      · exact absurd rfl (z j (by omega))
    · subst e
      refine xa_part t p ⟨vp_in_nI (by omega) (by omega), ?_⟩
      refine hk_ok1 (by omega) ht (br_f (by decide) (br_f (nI_pos (by omega)) ⟨V, br_t (by rw [nI_clamp (by omega), yPt]; exact nI_le (by omega) (by omega)) (ya_slot t p ⟨vp_in_nI (by omega) (by omega), ?_, K⟩)⟩))
      try dsimp only
      rw [hk_sz (xh p (by omega)) (by omega), hk_szy (yh p (by omega)) (by omega) (gp p (by omega)).2.1]
theorem i_vc_thmNode {k : Nat} {u : SX} {v : SY} (I : i_Rel k u v) (hk : k + 5 ≤ 2562) (v1 : Int32) (v2 : Int32) (v3 : Int32) : wpX_thmNode (fun r => wpY_thmNode (fun r' => r' = r ∧ i_Rel (k + 5) u v) v v1 v2 v3) u v1 v2 v3 := by
  have K := i_up I
  obtain ⟨T, nM, TY, nH, HC, G, cM, cH, J, ⟨xA, xR, xK, xS, xY, xP, xE, rfl, RX⟩, ⟨y1, y2, y3, y4, y5, yw, yl, yk, ye, yp, yq, yr, ys, yM, yL, yY, yA, yR, yP, rfl, RY⟩⟩ := I
  have h4 := J.2.2.2.1
  have h5 := J.2.2.2.2.1
  rcases hk_val v1 nH with h1 | ⟨t, ht, rfl⟩
  · exact hk_ok0 h1 (br_t rfl (br_t rfl (hk_ok0 h1 (br_t rfl ⟨rfl, K⟩))))
  · obtain ⟨hc, gp⟩ := J.2.2.2.2.2.2 t ht
    obtain ⟨yPt, yh⟩ := RY.2.2 t ht
    obtain ⟨xPt, xh⟩ := RX.2.2 t ht
    have V : vp_in (nI t) 16 := vp_in_nI (by omega) (by omega)
    unfold wpX_thmNode
    dsimp only
    refine xa_isPart ht (by omega) xPt hc (fun z => br_t rfl ?_) (fun p hp e => br_f (by decide) ?_)
    · refine hk_ok1 (by omega) ht (br_f (by decide) (br_c (fun _ => ⟨rfl, K⟩) (fun q => ⟨V, br_f ?_ ⟨rfl, K⟩⟩)))
      rw [nI_clamp (by omega), yPt]
      obtain ⟨j, hj, rfl⟩ := nI_of q
      refine nI_ge ?_ hj
      rcases Nat.lt_or_ge (HC t) j with w | w
      · exact w
      · exact absurd rfl (z j (by omega))
    · subst e
      have g := gp p (by omega)
      have l32 := g.2.1
      have yhp := yh p (by omega)
      have yz := hk_szy yhp (by omega) l32
      have VS : vp_in (nI (32 + t * 4 + p)) 110 := vp_in_nI (by omega) (by omega)
      have yle : nI p ≤ yP (nI t).toNatClampNeg := by rw [nI_clamp (by omega), yPt]; exact nI_le (by omega) (by omega)
      refine xa_part t p ?_
      refine xa_con (xh p (by omega)) (by omega) g (fun z => ?_) (fun j hj e => ?_)
      · refine hk_ok1 (by omega) ht (br_f (by decide) (br_f (nI_pos (by omega)) ⟨V, br_t yle (ya_slot t p (br_c (fun _ => ⟨rfl, K⟩) (fun q => ⟨VS, br_f ?_ ⟨rfl, K⟩⟩)))⟩))
        rw [yz]
        obtain ⟨j, hj, rfl⟩ := nI_of q
        refine nI_nlt ?_ hj
        rcases Nat.lt_or_ge j (G (32 + t * 4 + p)).length with w | w
        · exact absurd rfl (z j w)
        · exact w
      · subst e
        refine hk_ok1 (by omega) ht (br_f (by decide) (br_f (nI_pos (by omega)) ⟨V, br_t yle (ya_slot t p (br_f (nI_pos (by omega)) ⟨VS, br_t (by rw [yz]; exact nI_lt hj (by omega)) ?_⟩))⟩))
        exact ya_nd yhp (by omega) hj (by omega) ⟨rfl, K⟩
theorem i_vc_thmPartIs {k : Nat} {u : SX} {v : SY} (I : i_Rel k u v) (hk : k + 5 ≤ 2562) (v1 : Int32) (v2 : Int32) (v3 : Int32) : wpX_thmPartIs (fun r => wpY_thmPartIs (fun r' => r' = r ∧ i_Rel (k + 5) u v) v v1 v2 v3) u v1 v2 v3 := by
  have K := i_up I
  obtain ⟨T, nM, TY, nH, HC, G, cM, cH, J, ⟨xA, xR, xK, xS, xY, xP, xE, rfl, RX⟩, ⟨y1, y2, y3, y4, y5, yw, yl, yk, ye, yp, yq, yr, ys, yM, yL, yY, yA, yR, yP, rfl, RY⟩⟩ := I
  have h4 := J.2.2.2.1
  have h5 := J.2.2.2.2.1
  have h32 := J.2.2.1
  have h2 := J.2.1
  rcases hk_val v1 nH with h1 | ⟨t, ht, rfl⟩
  · exact hk_ok0 h1 (br_t rfl (br_t rfl (hk_ok0 h1 (br_t rfl ⟨rfl, K⟩))))
  · obtain ⟨hc, gp⟩ := J.2.2.2.2.2.2 t ht
    obtain ⟨yPt, yh⟩ := RY.2.2 t ht
    obtain ⟨xPt, xh⟩ := RX.2.2 t ht
    have V : vp_in (nI t) 16 := vp_in_nI (by omega) (by omega)
    unfold wpX_thmPartIs
    dsimp only
    refine xa_isPart ht (by omega) xPt hc (fun z => br_t rfl ?_) (fun p hp e => br_f (by decide) ?_)
    · refine hk_ok1 (by omega) ht (br_f (by decide) (br_c (fun _ => ⟨rfl, K⟩) (fun q => ⟨V, br_t ?_ ⟨rfl, K⟩⟩)))
      rw [nI_clamp (by omega), yPt]
      obtain ⟨j, hj, rfl⟩ := nI_of q
      refine nI_lt ?_ hj
      rcases Nat.lt_or_ge (HC t) j with w | w
      · exact w
      · exact absurd rfl (z j (by omega))
    · subst e
      have g := gp p (by omega)
      have ynlt : ¬ yP (nI t).toNatClampNeg < nI p := by rw [nI_clamp (by omega), yPt]; exact nI_nlt (by omega) (by omega)
      rcases hk_val v3 nM with h3 | ⟨x, hx, rfl⟩
      · exact hk_ok0 h3 (br_t rfl (hk_ok1 (by omega) ht (br_f (by decide) (br_f (nI_pos (by omega)) ⟨V, br_f ynlt (hk_ok0 h3 (br_t rfl ⟨rfl, K⟩))⟩))))
      · obtain ⟨tx, gx, -⟩ := J.2.2.2.2.2.1 x hx
        have yhp := yh p (by omega)
        have yhx := (RY.2.1 x hx).2
        refine hk_ok1 (by omega) hx (br_f (by decide) (xa_part t p ?_))
        refine xa_cmp (xh p (by omega)) (RX.2.1 x hx).2 (by omega) (by omega) g gx (fun r q1 q2 => ?_)
        have yy : ∀ z : Int32, (z = 1 ↔ G (32 + t * 4 + p) = G x) → (z = 0 ∨ z = 1) → wpY_thmPartIs (fun r' => r' = z ∧ i_Rel (k + 5) (nI T.1, nI cM, nI nM, nI cH, nI nH, xA, xR, xK, xS, xY, xP, xE) (y1, y2, y3, y4, y5, nI T.1, nI nM, nI nH, nI cM, nI cH, yw, yl, yk, ye, yp, yq, yr, ys, yM, yL, yY, yA, yR, yP)) (y1, y2, y3, y4, y5, nI T.1, nI nM, nI nH, nI cM, nI cH, yw, yl, yk, ye, yp, yq, yr, ys, yM, yL, yY, yA, yR, yP) (nI t) (nI p) (nI x) := by
          intro z hz hz2
          refine hk_ok1 (by omega) ht (br_f (by decide) (br_f (nI_pos (by omega)) ⟨V, br_f ynlt (hk_ok1 (by omega) hx (br_f (by decide) (ya_slot t p ⟨vp_in_nI (by omega) (by omega), vp_in_nI (by omega) (by omega), ?_⟩)))⟩))
          refine ya_cmp yhp yhx (by omega) (by omega) g gx (hk_szy yhp (by omega) g.2.1) (hk_szy yhx (by omega) gx.2.1) (fun r' q3 q4 => br_c (fun w => ⟨?_, K⟩) (fun w => ⟨?_, K⟩))
          · exact (hz.mpr (q4.mp w)).symm
          · rcases hz2 with e | e
            · exact e.symm
            · exact absurd (q4.mpr (hz.mp e)) w
        refine br_c (fun w => yy 1 ⟨fun _ => q2.mp w, fun _ => rfl⟩ (Or.inr rfl)) (fun w => yy 0 ⟨fun e => absurd e (by decide), fun e => absurd (q2.mpr e) w⟩ (Or.inl rfl))
