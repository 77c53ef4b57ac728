/-! the state that the law keeps: terms that have a type, theorems that hold -/
def sw_I (T : hk_T) (nM : Nat) (TY : Nat → Nat) (nH : Nat) (HC : Nat → Nat) (G : Nat → List Nat) : Prop :=
  hk_I T nM TY nH HC G 32 16 ∧ (∀ t, t < nM → sv_tm T (G t) (TY t)) ∧ ∀ h, h < nH → sv_th (hk_H G (32 + h * 4 + 1) (HC h)) (G (32 + h * 4))
def sw_S (nM nH : Nat) (u : St2) : Prop :=
  ∃ (T : hk_T) (TY HC : Nat → Nat) (G : Nat → List Nat) (xA xR xK xS xY xP xE : Nat → Int32), u = (nI T.1, nI 32, nI nM, nI 16, nI nH, xA, xR, xK, xS, xY, xP, xE) ∧ sw_I T nM TY nH HC G ∧ hk_R T nM TY nH HC G xA xR xY xP (hk_h xK xS)
theorem sw_H_congr {G G' : Nat → List Nat} {f n : Nat} (h : ∀ i, i < n → G' (f + i) = G (f + i)) : hk_H G' f n = hk_H G f n := by
  unfold hk_H
  exact List.map_congr_left (fun i hi => h i (List.mem_range.mp hi))
theorem sw_H_list {G : Nat → List Nat} {f : Nat} {H : List (List Nat)} (h : ∀ i, i < H.length → G (f + i) = H.getD i []) : hk_H G f H.length = H := by
  refine List.ext_getElem (hk_H_len _ _ _) (fun i h1 h2 => ?_)
  rw [← hk_gd h1, hk_H_gd h2, h i h2, hk_gd h2]
section
variable {xn xc xm xd xh : Int32} {xA xR xK xS xY xP xE : Nat → Int32} {T T' : hk_T} {nM nH : Nat} {TY HC : Nat → Nat} {G : Nat → List Nat}
theorem sw_in (I : sw_I T nM TY nH HC G) (RX : hk_R T nM TY nH HC G xA xR xY xP (hk_h xK xS)) : sw_S nM nH (nI T.1, nI 32, nI nM, nI 16, nI nH, xA, xR, xK, xS, xY, xP, xE) :=
  ⟨T, TY, HC, G, xA, xR, xK, xS, xY, xP, xE, rfl, I, RX⟩
/-- a new term -/
theorem sw_new {ty : Nat} {l : List Nat} {A R K S : Nat → Int32} (I : sw_I T nM TY nH HC G) (RX : hk_R T nM TY nH HC G xA xR xY xP (hk_h xK xS)) (hc : nM < 32) (ht : hk_ti T') (le : sv_le T T') (bX : hk_tb T' A R) (fX : hk_fr (fun s => s = nM) xK xS K S) (hX : hk_h K S nM l) (hty : ty < T'.1) (g : hk_gt T'.1 l) (hv : hk_c l 0 / 65536 = 1 → ty = hk_c l 0 % 256) (tm : sv_tm T' l ty) :
    sw_S (nM + 1) nH (nI T'.1, nI 32, nI (nM + 1), nI 16, nI nH, A, R, K, S, upd xY nM (nI ty), xP, xE) := by
  refine sw_in (TY := hk_up TY nM ty) (HC := HC) (G := hk_ug G nM l) ⟨hk_I_term I.1 ht le.1 hc hty g hv, fun t h => ?_, fun h hh => ?_⟩ (hk_R_term RX bX (fun s l' hs h => hk_fr_h fX hs h) hX pk_us (fun t hne => pk_un hne) hc)
  · by_cases e : t = nM
    · subst e
      rw [hk_up_s, hk_ug_s]; exact tm
    · rw [hk_up_n e, hk_ug_n e]
      exact sv_tm_le le (I.2.1 t (by omega))
  · have a : hk_H (hk_ug G nM l) (32 + h * 4 + 1) (HC h) = hk_H G (32 + h * 4 + 1) (HC h) := sw_H_congr (fun i _ => hk_ug_n (by omega))
    rw [a, hk_ug_n (by omega)]
    exact I.2.2 h hh
/-- a new theorem -/
theorem sw_thm {Cn : List Nat} {H : List (List Nat)} {A R K S P : Nat → Int32} (I : sw_I T nM TY nH HC G) (RX : hk_R T nM TY nH HC G xA xR xY xP (hk_h xK xS)) (hc : nH < 16) (gd : hk_good T (some (Cn, H, T'))) (le : sv_le T T') (th : sv_th H Cn) (bX : hk_tb T' A R) (hC : hk_h K S (32 + nH * 4) Cn) (hH : hk_hs (hk_h K S) (32 + nH * 4 + 1) H) (fX : hk_fr (fun s => 32 + nH * 4 ≤ s) xK xS K S) (hP : P nH = nI H.length) (hPo : ∀ h, h ≠ nH → P h = xP h) :
    sw_S nM (nH + 1) (nI T'.1, nI 32, nI nM, nI 16, nI (nH + 1), A, R, K, S, xY, P, xE) := by
  obtain ⟨g1, g2, g3, g4, g5⟩ := gd
  have h32 : nM ≤ 32 := I.1.2.1
  have l3 : ∀ h, h < nH → HC h ≤ 3 := fun h hh => (I.1.2.2.2.2.2.2 h hh).1
  refine sw_in (TY := TY) (HC := hk_up HC nH H.length) (G := hk_gh G nH Cn H) ⟨hk_I_thm I.1 g4 g5 hc g1 g2 g3, fun t h => ?_, fun h hh => ?_⟩ (hk_R_thm RX bX (fun s l' hs h => hk_fr_h fX (by omega) h) hC hH hP hPo h32 l3)
  · rw [hk_gh_lo (by omega)]
    exact sv_tm_le le (I.2.1 t h)
  · by_cases e : h = nH
    · subst e
      rw [hk_up_s, hk_gh_0, sw_H_list (fun i _ => hk_gh_p)]; exact th
    · have w := l3 h (by omega)
      have a : hk_H (hk_gh G nH Cn H) (32 + h * 4 + 1) (HC h) = hk_H G (32 + h * 4 + 1) (HC h) := sw_H_congr (fun i hi => hk_gh_lo (by omega))
      rw [hk_up_n e, a, hk_gh_lo (by omega)]
      exact I.2.2 h (by omega)
/-- a refused rule -/
theorem sw_ref {A R K S P : Nat → Int32} (I : sw_I T nM TY nH HC G) (RX : hk_R T nM TY nH HC G xA xR xY xP (hk_h xK xS)) (bX : hk_tb T A R) (fX : hk_fr (fun s => 32 + nH * 4 ≤ s) xK xS K S) (hPo : ∀ h, h ≠ nH → P h = xP h) :
    sw_S nM nH (nI T.1, nI 32, nI nM, nI 16, nI nH, A, R, K, S, xY, P, xE) :=
  sw_in I (hk_R_keep RX bX (fun s l' hs h => hk_fr_h fX (by omega) h) hPo I.1.2.1 (fun h hh => (I.1.2.2.2.2.2.2 h hh).1))
end
theorem sw_var {post : Int32 → St2 → Prop} {nM nH i t : Nat} {u : St2} (h : sw_S nM nH u) (hi : i < 2) (ht4 : t < 4) (k1 : ∀ u', nM < 32 → sw_S (nM + 1) nH u' → post (nI nM) u') (k0 : ∀ u', sw_S nM nH u' → post (-1) u') : wpX_mkVar post u (nI i) (nI t) := by
  obtain ⟨T, TY, HC, G, xA, xR, xK, xS, xY, xP, xE, rfl, I, RX⟩ := h
  have J := I.1
  have h5 := J.1.1
  have hn := J.1.2.1
  have ec : (65536 : Int32) + nI i * 256 + nI t = nI (65536 + i * 256 + t) := by
    rw [show (256 : Int32) = nI 256 from rfl, show (65536 : Int32) = nI 65536 from rfl, pk_mul, nI_add, nI_add]
  refine hk_id1 (by omega) (hk_ok1 (n := T.1) (by omega) (by omega) (br_f (by decide) ?_))
  have h2 := J.2.1
  refine pk_lt nM 32 (fun z => ?_) (fun z => k0 _ (sw_in I RX))
  refine ⟨vp_in_nI (by omega) (by omega), nm_r (e' := upd xS nM 0) (by rw [nI_clamp (by omega)]) ?_⟩
  have f0 : hk_fr (fun s => s = nM) xK xS xK (upd xS nM 0) := hk_fr_s
  refine xa_append (l := []) (c := 65536 + i * 256 + t) (by omega) hk_h0 (by decide) ec (fun K1 S1 q1 f1 => ?_)
  refine xa_keep (by omega) ?_
  have kc : (65536 + i * 256 + t) / 65536 = 1 := by omega
  exact k1 _ z (sw_new I RX z J.1 (sv_le_r T) RX.1 (hk_fr_t f0 f1) q1 (by omega) (hk_gt_1 (hk_ar_k kc (by decide) (by decide)) ⟨by omega, fun y => by omega⟩) (fun _ => by show t = (65536 + i * 256 + t) % 256; omega) (sv_tm_var hi ht4))
theorem sw_eq {post : Int32 → St2 → Prop} {nM nH a : Nat} {u : St2} (h : sw_S nM nH u) (ha4 : a < 4) (k1 : ∀ u', nM < 32 → sw_S (nM + 1) nH u' → post (nI nM) u') (k0 : ∀ u', sw_S nM nH u' → post (-1) u') : wpX_mkEq post u (nI a) := by
  obtain ⟨T, TY, HC, G, xA, xR, xK, xS, xY, xP, xE, rfl, I, RX⟩ := h
  have J := I.1
  have h5 := J.1.1
  have hn := J.1.2.1
  have ha : a < T.1 := by omega
  have h2 := J.2.1
  refine hk_ok1 (n := T.1) (by omega) ha (br_f (by decide) ?_)
  refine pk_lt nM 32 (fun z => ?_) (fun z => k0 _ (sw_in I RX))
  refine xa_internEq RX.1 J.1 ha (fun A R hb => ?_)
  rcases Nat.lt_or_ge 48 (T.1 + hk_nd T a) with w | w
  · rw [hk_xe_nofit J.1 (by omega)] at hb ⊢
    exact br_t rfl (k0 _ (sw_in I ⟨hb, RX.2⟩))
  · obtain ⟨e, j, hj⟩ := hk_xe_fit J.1 ha w
    obtain ⟨i1, i2, i3⟩ := hk_ie_ok J.1 ha
    obtain ⟨f, is1, is2⟩ := sv_ie_is J.1 ha (hk_fit1 w) hj
    have hj2 := i3 j hj
    have hj3 := i1.2.1
    rw [e] at hb ⊢
    rw [hj]
    refine br_f (hk_o_ne (by omega)) ⟨vp_in_nI (by omega) (by omega), nm_r (e' := upd xS nM 0) (by rw [nI_clamp (by omega)]) ?_⟩
    have f0 : hk_fr (fun s => s = nM) xK xS xK (upd xS nM 0) := hk_fr_s
    have ec : (131072 : Int32) + nI a = nI (131072 + a) := nI_add 131072 a
    refine xa_append (l := []) (c := 131072 + a) (by omega) hk_h0 (by decide) ec (fun K1 S1 q1 f1 => ?_)
    refine xa_keep (ty := j) (by omega) ?_
    have kc : (131072 + a) / 65536 = 2 := by omega
    exact k1 _ z (sw_new I RX z i1 (sv_ie_le T a) hb (hk_fr_t f0 f1) q1 hj2.2 (hk_gt_1 (hk_ar_k kc (by decide) (by decide)) ⟨by omega, fun y => by omega⟩) (fun y => by have y : (131072 + a) / 65536 = 1 := y; omega) (sv_tm_eq ha4 is1 is2))
theorem sw_cmb {post : Int32 → St2 → Prop} {nM nH : Nat} {u : St2} (h : sw_S nM nH u) (v1 v2 : Int32) (k1 : ∀ u', nM < 32 → sw_S (nM + 1) nH u' → post (nI nM) u') (k0 : ∀ u', sw_S nM nH u' → post (-1) u') : wpX_mkComb post u v1 v2 := by
  obtain ⟨T, TY, HC, G, xA, xR, xK, xS, xY, xP, xE, rfl, I, RX⟩ := h
  have J := I.1
  have hn := J.1.2.1
  have h2 := J.2.1
  rcases hk_val v1 nM with h1 | ⟨f, hf, rfl⟩
  · exact hk_ok0 h1 (br_t rfl (k0 _ (sw_in I RX)))
  rcases hk_val v2 nM with h1 | ⟨x, hx, rfl⟩
  · exact hk_ok1 (by omega) hf (br_f (by decide) (hk_ok0 h1 (br_t rfl (k0 _ (sw_in I RX)))))
  obtain ⟨tf, gf, -⟩ := J.2.2.2.2.2.1 f hf
  obtain ⟨tx, gx, -⟩ := J.2.2.2.2.2.1 x hx
  obtain ⟨xYf, xhf⟩ := RX.2.1 f hf
  obtain ⟨xYx, xhx⟩ := RX.2.1 x hx
  have lf := gf.2.1
  have lx := gx.2.1
  have cf : (nI f).toNatClampNeg = f := nI_clamp (by omega)
  have cx : (nI x).toNatClampNeg = x := nI_clamp (by omega)
  have ct : (nI (TY f)).toNatClampNeg = TY f := nI_clamp (by omega)
  have V98f : vp_in (nI f) 98 := vp_in_nI (by omega) (by omega)
  have V98x : vp_in (nI x) 98 := vp_in_nI (by omega) (by omega)
  refine hk_ok1 (by omega) hf (br_f (by decide) (hk_ok1 (by omega) hx (br_f (by decide) ?_)))
  refine pk_lt nM 32 (fun z => ?_) (fun z => k0 _ (sw_in I RX))
  refine ⟨vp_in_nI (by omega) (by omega), nm_r (e' := nI (TY f)) (by rw [cf]; exact xYf) ⟨vp_in_nI (by omega) (by omega), ?_⟩⟩
  have ex : xY (nI x).toNatClampNeg = nI (TY x) := by rw [cx]; exact xYx
  rw [ex]
  refine xa_takes RX.1 J.1 tf (by omega) (fun g3 gD => br_f (by decide) ⟨V98f, V98x, ?_⟩) (fun g3 => br_t rfl (k0 _ (sw_in I RX)))
  have cT := (J.1.2.2.2.2.2.2 _ g3 tf).2
  rw [hk_sz xhf (by omega), hk_sz xhx (by omega), show (1 : Int32) = nI 1 from rfl, nI_add, nI_add]
  refine pk_le (1 + (G f).length + (G x).length) 32 (fun w => ?_) (fun w => k0 _ (sw_in I RX))
  refine ⟨vp_in_nI (by omega) (by omega), nm_r (e' := upd xS nM 0) (by rw [nI_clamp (by omega)]) ?_⟩
  have f0 : hk_fr (fun s => s = nM) xK xS xK (upd xS nM 0) := hk_fr_s
  refine xa_append (l := []) (c := 196608) (by omega) hk_h0 (by decide) rfl (fun K1 S1 q1 f1 => ⟨V98f, ?_⟩)
  have f01 := hk_fr_t f0 f1
  have xf1 := hk_fr_h f01 (s := f) (by omega) xhf
  refine xa_all (by omega) (by omega) (by omega) lf q1 xf1 (by decide) (hk_sz xf1 (by omega)) (fun K2 S2 q2 f2 => ⟨V98x, ?_⟩)
  have f02 := hk_fr_t f01 f2
  have xx2 := hk_fr_h f02 (s := x) (by omega) xhx
  refine xa_all (by omega) (by omega) (by omega) lx q2 xx2 (by rw [List.length_append]; show 1 + (G f).length < 90000; omega) (hk_sz xx2 (by omega)) (fun K3 S3 q3 f3 => ⟨vp_in_nI (by omega) (by omega), ?_⟩)
  have f03 := hk_fr_t f02 f3
  dsimp only
  rw [ct, (RX.1 _ g3 tf).2]
  refine xa_keep (by omega) ?_
  exact k1 _ z (sw_new I RX z J.1 (sv_le_r T) RX.1 f03 q3 cT (hk_comb_gt gf gx w) (fun y => by have y : (196608 : Nat) / 65536 = 1 := y; omega) (sv_tm_comb J.1 (I.2.1 f hf) (I.2.1 x hx) g3 gD))
