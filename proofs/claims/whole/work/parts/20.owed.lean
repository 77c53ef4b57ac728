/-! the relation, the constructors, the methods on types and terms -/
def hk_RX (T : hk_T) (nM : Nat) (TY : Nat → Nat) (nH : Nat) (HC : Nat → Nat) (G : Nat → List Nat) (cM cH : Nat) (u : SX) : Prop :=
  ∃ xA xR xK xS xY xP xE : Nat → Int32, u = (nI T.1, nI cM, nI nM, nI cH, nI nH, xA, xR, xK, xS, xY, xP, xE) ∧ hk_R T nM TY nH HC G xA xR xY xP (hk_h xK xS)
def hk_RY (T : hk_T) (nM : Nat) (TY : Nat → Nat) (nH : Nat) (HC : Nat → Nat) (G : Nat → List Nat) (cM cH : Nat) (v : SY) : Prop :=
  ∃ (y1 y2 y3 y4 y5 yw yl yk ye yp yq yr ys : Int32) (yM yL yY yA yR yP : Nat → Int32), v = (y1, y2, y3, y4, y5, nI T.1, nI nM, nI nH, nI cM, nI cH, yw, yl, yk, ye, yp, yq, yr, ys, yM, yL, yY, yA, yR, yP) ∧ hk_R T nM TY nH HC G yA yR yY yP (hk_hy yM yL)
def i_Rel (k : Nat) (u : SX) (v : SY) : Prop :=
  ∃ (T : hk_T) (nM : Nat) (TY : Nat → Nat) (nH : Nat) (HC : Nat → Nat) (G : Nat → List Nat) (cM cH : Nat), hk_I T nM TY nH HC G cM cH ∧ hk_RX T nM TY nH HC G cM cH u ∧ hk_RY T nM TY nH HC G cM cH v
theorem i_up {k : Nat} {u : SX} {v : SY} (h : i_Rel k u v) : i_Rel (k + 5) u v := h
theorem hk_clamp (x : Int32) (lo hi : Nat) (h : lo ≤ hi) (hh : hi < 2 ^ 31) : ∃ c, lo ≤ c ∧ c ≤ hi ∧ ∀ A : Int32 → Prop, A (nI c) → ((nI lo ≤ x → ((x ≤ nI hi → A x) ∧ (¬ x ≤ nI hi → A (nI hi)))) ∧ (¬ nI lo ≤ x → A (nI lo))) := by
  by_cases h1 : nI lo ≤ x
  · by_cases h2 : x ≤ nI hi
    · have h0 : ¬ x < 0 := Int32.not_lt.mpr (Int32.le_trans (nI_pos' (by omega)) h1)
      obtain ⟨j, hj, rfl⟩ := nI_of h0
      rw [nI_leI (by omega) hj] at h1
      have h2' := h2
      rw [nI_leI hj hh] at h2'
      exact ⟨j, h1, h2', fun A a => br_t (nI_le h1 hj) (br_t h2 a)⟩
    · exact ⟨hi, h, Nat.le_refl _, fun A a => br_t h1 (br_f h2 a)⟩
  · exact ⟨lo, Nat.le_refl _, h, fun A a => br_f h1 a⟩
theorem hk_cx {P : Int32 → Prop} {x : Int32} {a b c : Nat} (h : ∀ A : Int32 → Prop, A (nI c) → ((nI a ≤ x → ((x ≤ nI b → A x) ∧ (¬ x ≤ nI b → A (nI b)))) ∧ (¬ nI a ≤ x → A (nI a)))) (k : P (nI c)) : wpX_clamp P x (nI a) (nI b) := h P k
theorem hk_cy {post : SY → Prop} {k0 k1 : Int32} {cM cH : Nat} (hM : ∀ A : Int32 → Prop, A (nI cM) → ((nI 8 ≤ k0 → ((k0 ≤ nI 32 → A k0) ∧ (¬ k0 ≤ nI 32 → A (nI 32)))) ∧ (¬ nI 8 ≤ k0 → A (nI 8)))) (hT : ∀ A : Int32 → Prop, A (nI cH) → ((nI 4 ≤ k1 → ((k1 ≤ nI 16 → A k1) ∧ (¬ k1 ≤ nI 16 → A (nI 16)))) ∧ (¬ nI 4 ≤ k1 → A (nI 4))))
    (k : wY_init_132 post (nI cH) 96 97 100 108 109 0 0 0 (nI cM) 0 0 0 0 0 0 0 0 0 (fun _ => 0) (fun _ => 0) (fun _ => 0) (fun _ => 0) (fun _ => 0) (fun _ => 0)) : wpY_init post k0 k1 :=
  hM (fun z => wY_init_107 post k1 z 96 97 100 108 109 0 0 0 0 0 0 0 0 0 0 0 0 0 (fun _ => 0) (fun _ => 0) (fun _ => 0) (fun _ => 0) (fun _ => 0) (fun _ => 0)) (hT (fun z => wY_init_132 post z 96 97 100 108 109 0 0 0 (nI cM) 0 0 0 0 0 0 0 0 0 (fun _ => 0) (fun _ => 0) (fun _ => 0) (fun _ => 0) (fun _ => 0) (fun _ => 0)) k)
theorem i_vc0 (k0 : Int32) (k1 : Int32) : wpX_init (fun u => wpY_init (fun v => i_Rel 2 u v) k0 k1) k0 k1 := by
  obtain ⟨cM, c1, c2, hM⟩ := hk_clamp k0 8 32 (by omega) (by omega)
  obtain ⟨cH, d1, d2, hT⟩ := hk_clamp k1 4 16 (by omega) (by omega)
  unfold wpX_init
  refine hk_cx hM ?_
  refine hk_cx hT ?_
  refine nm_e (nm_e (nm_e (nm_e ?_)))
  refine hk_cy hM hT (nm_e (nm_e (nm_e (nm_e (nm_e (nm_e (nm_e (nm_e (nm_e (nm_e ?_))))))))))
  refine ⟨(5, fun _ => 0, fun i => if i = 4 then 3 else 0), 0, fun _ => 0, 0, fun _ => 0, fun _ => [], cM, cH, ?_, ?_, ?_⟩
  · refine ⟨⟨by decide, by decide, rfl, rfl, rfl, rfl, fun i h3 hi => ⟨by show 0 < 5; decide, ?_⟩⟩, by omega, by omega, by omega, by omega, fun t ht => absurd ht (Nat.not_lt_zero t), fun h hh => absurd hh (Nat.not_lt_zero h)⟩
    show (if i = 4 then 3 else 0) < 5
    split <;> decide
  · refine ⟨_, _, _, _, _, _, _, rfl, fun i h3 hi => ?_, fun t ht => absurd ht (Nat.not_lt_zero t), fun h hh => absurd hh (Nat.not_lt_zero h)⟩
    have hi : i < 5 := hi
    have : i = 3 ∨ i = 4 := by omega
    rcases this with rfl | rfl
    · exact ⟨rfl, rfl⟩
    · exact ⟨rfl, rfl⟩
  · refine ⟨_, _, _, _, _, _, _, _, _, _, _, _, _, _, _, _, _, _, _, rfl, fun i h3 hi => ?_, fun t ht => absurd ht (Nat.not_lt_zero t), fun h hh => absurd hh (Nat.not_lt_zero h)⟩
    have hi : i < 5 := hi
    have : i = 3 ∨ i = 4 := by omega
    rcases this with rfl | rfl
    · exact ⟨rfl, rfl⟩
    · exact ⟨rfl, rfl⟩
theorem hk_I_types {T T' : hk_T} {nM : Nat} {TY : Nat → Nat} {nH : Nat} {HC : Nat → Nat} {G : Nat → List Nat} {cM cH : Nat} (h : hk_I T nM TY nH HC G cM cH) (ht : hk_ti T') (hn : T.1 ≤ T'.1) : hk_I T' nM TY nH HC G cM cH := by
  obtain ⟨h1, h2, h3, h4, h5, h6, h7⟩ := h
  refine ⟨ht, h2, h3, h4, h5, fun t q => ?_, fun q hq => ⟨(h7 q hq).1, fun p hp => hk_gt_mono ((h7 q hq).2 p hp) hn⟩⟩
  obtain ⟨a, b, c⟩ := h6 t q
  exact ⟨by omega, hk_gt_mono b hn, c⟩
section
variable {xn xc xm xd xh : Int32} {xA xR xK xS xY xP xE : Nat → Int32} {y1 y2 y3 y4 y5 yn ym yh yc yd yw yl yk ye yp yq yr ys : Int32} {yM yL yY yA yR yP : Nat → Int32} {T T' : hk_T} {nM nH cM cH : Nat} {TY HC : Nat → Nat} {G : Nat → List Nat}
theorem hk_keep {k : Nat} (J : hk_I T nM TY nH HC G cM cH) (RX : hk_R T nM TY nH HC G xA xR xY xP (hk_h xK xS)) (RY : hk_R T nM TY nH HC G yA yR yY yP (hk_hy yM yL)) :
    i_Rel k (nI T.1, nI cM, nI nM, nI cH, nI nH, xA, xR, xK, xS, xY, xP, xE) (y1, y2, y3, y4, y5, nI T.1, nI nM, nI nH, nI cM, nI cH, yw, yl, yk, ye, yp, yq, yr, ys, yM, yL, yY, yA, yR, yP) :=
  ⟨T, nM, TY, nH, HC, G, cM, cH, J, ⟨xA, xR, xK, xS, xY, xP, xE, rfl, RX⟩, ⟨y1, y2, y3, y4, y5, yw, yl, yk, ye, yp, yq, yr, ys, yM, yL, yY, yA, yR, yP, rfl, RY⟩⟩
/-- a new term -/
theorem hk_new {k ty : Nat} {l : List Nat} {A R K S A2 R2 M L : Nat → Int32} (J : hk_I T nM TY nH HC G cM cH) (RX : hk_R T nM TY nH HC G xA xR xY xP (hk_h xK xS)) (RY : hk_R T nM TY nH HC G yA yR yY yP (hk_hy yM yL)) (hc : nM < cM) (ht : hk_ti T') (hn : T.1 ≤ T'.1)
    (bX : hk_tb T' A R) (bY : hk_tb T' A2 R2) (fX : hk_fr (fun s => s = nM) xK xS K S) (hX : hk_h K S nM l) (fY : hk_fr (fun s => s = nM) yM yL M L) (hY : hk_hy M L nM l) (hty : ty < T'.1) (g : hk_gt T'.1 l) (hv : hk_c l 0 / 65536 = 1 → ty = hk_c l 0 % 256) :
    i_Rel k (nI T'.1, nI cM, nI (nM + 1), nI cH, nI nH, A, R, K, S, upd xY nM (nI ty), xP, xE) (y1, y2, y3, y4, y5, nI T'.1, nI (nM + 1), nI nH, nI cM, nI cH, yw, yl, yk, ye, yp, yq, yr, ys, M, L, upd yY nM (nI ty), A2, R2, yP) := by
  have h32 : nM < 32 := by have := J.2.2.1; omega
  exact hk_keep (hk_I_term J ht hn hc hty g hv) (hk_R_term RX bX (fun s l' hs h => hk_fr_h fX hs h) hX pk_us (fun t hne => pk_un hne) h32) (hk_R_term RY bY (fun s l' hs h => hk_fr_hy fY hs h) hY pk_us (fun t hne => pk_un hne) h32)
theorem xa_keep {post : Int32 → SX → Prop} {ty : Nat} (h : nM < 32) (k : post (nI nM) (xn, xc, nI (nM + 1), xd, xh, xA, xR, xK, xS, upd xY nM (nI ty), xP, xE)) : wpX_keepTerm post (xn, xc, nI nM, xd, xh, xA, xR, xK, xS, xY, xP, xE) (nI ty) := by
  refine ⟨vp_in_nI h (by omega), nm_r (e' := upd xY nM (nI ty)) (by rw [nI_clamp (by omega)]) (nm_r (nI_1 _) ?_)⟩
  rw [nI_pred]; exact k
end
theorem hk_id0 {A B : Prop} {x : Int32} (h : ∀ j, j < 16 → x ≠ nI j) (a : A) : (x < 0 → A) ∧ (¬ x < 0 → ((15 < x → A) ∧ (¬ 15 < x → B))) := by
  refine br_c (fun _ => a) (fun z => ?_)
  obtain ⟨j, hj, rfl⟩ := nI_of z
  refine br_t (nI_lt (a := 15) ?_ hj) a
  rcases Nat.lt_or_ge 15 j with q | q
  · exact q
  · exact absurd rfl (h j (by omega))
theorem hk_id1 {A B : Prop} {j : Nat} (hj : j < 16) (b : B) : (nI j < 0 → A) ∧ (¬ nI j < 0 → ((15 < nI j → A) ∧ (¬ 15 < nI j → B))) :=
  br_f (nI_pos (by omega)) (br_f (nI_nlt (a := 15) (by omega) (by omega)) b)
theorem i_vc_mkFun {k : Nat} {u : SX} {v : SY} (I : i_Rel k u v) (hk : k + 5 ≤ 2562) (v1 : Int32) (v2 : Int32) : wpX_mkFun (fun r u' => wpY_mkFun (fun r' v' => r' = r ∧ i_Rel (k + 5) u' v') v v1 v2) u v1 v2 := by
  obtain ⟨T, nM, TY, nH, HC, G, cM, cH, J, ⟨xA, xR, xK, xS, xY, xP, xE, rfl, RX⟩, ⟨y1, y2, y3, y4, y5, yw, yl, yk, ye, yp, yq, yr, ys, yM, yL, yY, yA, yR, yP, rfl, RY⟩⟩ := I
  have hn := J.1.2.1
  rcases hk_val v1 T.1 with h1 | ⟨d, hd, rfl⟩
  · exact hk_ok0 h1 (br_t rfl (hk_ok0 h1 (br_t rfl ⟨rfl, hk_keep J RX RY⟩)))
  · rcases hk_val v2 T.1 with h2 | ⟨c, hc, rfl⟩
    · exact hk_ok1 (by omega) hd (br_f (by decide) (hk_ok0 h2 (br_t rfl (hk_ok1 (by omega) hd (br_f (by decide) (hk_ok0 h2 (br_t rfl ⟨rfl, hk_keep J RX RY⟩)))))))
    · obtain ⟨i1, i2, i3, i4⟩ := hk_it_ok J.1 hd hc
      refine hk_ok1 (by omega) hd (br_f (by decide) (hk_ok1 (by omega) hc (br_f (by decide) (xa_intern RX.1 J.1 hd hc (fun A R hb => ?_)))))
      refine hk_ok1 (by omega) hd (br_f (by decide) (hk_ok1 (by omega) hc (br_f (by decide) (ya_intern RY.1 J.1 hd hc (fun A2 R2 hb2 => ⟨rfl, ?_⟩)))))
      exact hk_keep (hk_I_types J i1 i2) ⟨hb, RX.2⟩ ⟨hb2, RY.2⟩
theorem i_vc_typeArg {k : Nat} {u : SX} {v : SY} (I : i_Rel k u v) (hk : k + 5 ≤ 2562) (v1 : Int32) (v2 : Int32) : wpX_typeArg (fun r => wpY_typeArg (fun r' => r' = r ∧ i_Rel (k + 5) u v) v v1 v2) u v1 v2 := by
  have K := i_up I
  obtain ⟨T, nM, TY, nH, HC, G, cM, cH, J, ⟨xA, xR, xK, xS, xY, xP, xE, rfl, RX⟩, ⟨y1, y2, y3, y4, y5, yw, yl, yk, ye, yp, yq, yr, ys, yM, yL, yY, yA, yR, yP, rfl, RY⟩⟩ := I
  have hn := J.1.2.1
  have h5 := J.1.1
  rcases hk_val v1 T.1 with h1 | ⟨t, ht, rfl⟩
  · refine hk_ok0 h1 (br_t rfl (br_c (fun _ => ⟨rfl, K⟩) (fun z => br_t ?_ ⟨rfl, K⟩)))
    have h0 : ¬ v1 < 0 := fun y => z (Int32.lt_trans y (by decide))
    obtain ⟨j, hj, rfl⟩ := nI_of h0
    refine nI_le ?_ hj
    rcases Nat.lt_or_ge j T.1 with q | q
    · exact absurd rfl (h1 j q)
    · exact q
  · refine hk_ok1 (by omega) ht (br_f (by decide) ?_)
    have V : vp_in (nI t) 48 := vp_in_nI (by omega) (by omega)
    refine pk_le 3 t (fun z => ?_) (fun z => br_t (nI_lt (b := 3) z (by omega)) ⟨rfl, K⟩)
    have n3 : ¬ nI t < 3 := nI_nlt (b := 3) z (by omega)
    have nT : ¬ nI T.1 ≤ nI t := nI_ge ht (by omega)
    have ec : (nI t).toNatClampNeg = t := nI_clamp (by omega)
    by_cases e0 : v2 = 0
    · refine br_t e0 ⟨V, br_f n3 (br_f nT (br_t e0 (br_t e0 ⟨V, ?_, K⟩)))⟩
      rw [ec, (RX.1 t z ht).1, (RY.1 t z ht).1]
    · by_cases e1 : v2 = 1
      · refine br_f e0 (br_t e1 ⟨V, br_f n3 (br_f nT (br_f e0 (br_t e1 (br_f e0 ⟨V, ?_, K⟩))))⟩)
        rw [ec, (RX.1 t z ht).2, (RY.1 t z ht).2]
      · exact br_f e0 (br_f e1 (br_f n3 (br_f nT (br_f e0 (br_f e1 ⟨rfl, K⟩)))))
theorem i_vc_typeCount {k : Nat} {u : SX} {v : SY} (I : i_Rel k u v) (hk : k + 5 ≤ 2562) : wpX_typeCount (fun r => wpY_typeCount (fun r' => r' = r ∧ i_Rel (k + 5) u v) v) u := by
  have K := i_up I
  obtain ⟨T, nM, TY, nH, HC, G, cM, cH, J, ⟨xA, xR, xK, xS, xY, xP, xE, rfl, RX⟩, ⟨y1, y2, y3, y4, y5, yw, yl, yk, ye, yp, yq, yr, ys, yM, yL, yY, yA, yR, yP, rfl, RY⟩⟩ := I
  exact ⟨rfl, K⟩
theorem hk_gt_1 {n c : Nat} (h : hk_ar c = 0) (hc : hk_gc n c) : hk_gt n [c] :=
  ⟨by rw [hk_run_s, h]; rfl, by show 1 ≤ 32; decide, fun x hx => by rw [List.mem_singleton.mp hx]; exact hc⟩
theorem i_vc_mkVar {k : Nat} {u : SX} {v : SY} (I : i_Rel k u v) (hk : k + 5 ≤ 2562) (v1 : Int32) (v2 : Int32) : wpX_mkVar (fun r u' => wpY_mkVar (fun r' v' => r' = r ∧ i_Rel (k + 5) u' v') v v1 v2) u v1 v2 := by
  obtain ⟨T, nM, TY, nH, HC, G, cM, cH, J, ⟨xA, xR, xK, xS, xY, xP, xE, rfl, RX⟩, ⟨y1, y2, y3, y4, y5, yw, yl, yk, ye, yp, yq, yr, ys, yM, yL, yY, yA, yR, yP, rfl, RY⟩⟩ := I
  have hn := J.1.2.1
  have h32 := J.2.2.1
  rcases hk_val v1 16 with h1 | ⟨i, hi, rfl⟩
  · exact hk_id0 h1 (hk_id0 h1 ⟨rfl, hk_keep J RX RY⟩)
  · rcases hk_val v2 T.1 with h2 | ⟨t, ht, rfl⟩
    · exact hk_id1 hi (hk_ok0 h2 (br_t rfl (hk_id1 hi (hk_ok0 h2 (br_t rfl ⟨rfl, hk_keep J RX RY⟩)))))
    · have ec : (65536 : Int32) + nI i * 256 + nI t = nI (65536 + i * 256 + t) := by
        rw [show (256 : Int32) = nI 256 from rfl, show (65536 : Int32) = nI 65536 from rfl, pk_mul, nI_add, nI_add]
      refine hk_id1 hi (hk_ok1 (by omega) ht (br_f (by decide) ?_))
      have h2 := J.2.1
      refine pk_lt nM cM (fun z => ?_) (fun z => hk_id1 hi (hk_ok1 (by omega) ht (br_f (by decide) (br_f (nI_nlt z (by omega)) ⟨rfl, hk_keep J RX RY⟩))))
      refine ⟨vp_in_nI (by omega) (by omega), nm_r (e' := upd xS nM 0) (by rw [nI_clamp (by omega)]) ?_⟩
      have f0 : hk_fr (fun s => s = nM) xK xS xK (upd xS nM 0) := hk_fr_s
      refine xa_append (l := []) (c := 65536 + i * 256 + t) (by omega) hk_h0 (by decide) ec (fun K1 S1 q1 f1 => ?_)
      refine xa_keep (by omega) ?_
      refine hk_id1 hi (hk_ok1 (by omega) ht (br_f (by decide) (br_t (nI_lt z (by omega)) ?_)))
      refine ya_begin (by omega) (fun L1 p1 g1 => ?_)
      refine ya_emit (l := []) (c := 65536 + i * 256 + t) (by omega) p1 (by decide) ec (fun M2 L2 p2 g2 => ?_)
      refine ⟨vp_in_nI (by omega) (by omega), nm_r (e' := upd yY nM (nI t)) (by rw [nI_clamp (by omega)]) (nm_r (nI_1 _) ⟨by rw [nI_pred], ?_⟩)⟩
      have kc : (65536 + i * 256 + t) / 65536 = 1 := by omega
      exact hk_new J RX RY z J.1 (Nat.le_refl _) RX.1 RY.1 (hk_fr_t f0 f1) q1 (hk_fr_t g1 g2) p2 ht (hk_gt_1 (hk_ar_k kc (by decide) (by decide)) ⟨by omega, fun y => by omega⟩) (fun _ => by show t = (65536 + i * 256 + t) % 256; omega)
theorem i_vc_mkEq {k : Nat} {u : SX} {v : SY} (I : i_Rel k u v) (hk : k + 5 ≤ 2562) (v1 : Int32) : wpX_mkEq (fun r u' => wpY_mkEq (fun r' v' => r' = r ∧ i_Rel (k + 5) u' v') v v1) u v1 := by
  obtain ⟨T, nM, TY, nH, HC, G, cM, cH, J, ⟨xA, xR, xK, xS, xY, xP, xE, rfl, RX⟩, ⟨y1, y2, y3, y4, y5, yw, yl, yk, ye, yp, yq, yr, ys, yM, yL, yY, yA, yR, yP, rfl, RY⟩⟩ := I
  have hn := J.1.2.1
  have h32 := J.2.2.1
  have h2 := J.2.1
  rcases hk_val v1 T.1 with h1 | ⟨a, ha, rfl⟩
  · exact hk_ok0 h1 (br_t rfl (hk_ok0 h1 (br_t rfl ⟨rfl, hk_keep J RX RY⟩)))
  · have nd2 := hk_nd_le T a
    refine hk_ok1 (by omega) ha (br_f (by decide) ?_)
    refine pk_lt nM cM (fun z => ?_) (fun z => hk_ok1 (by omega) ha (br_f (by decide) (br_t (nI_le z (by omega)) ⟨rfl, hk_keep J RX RY⟩)))
    refine xa_internEq RX.1 J.1 ha (fun A R hb => ?_)
    rcases Nat.lt_or_ge 48 (T.1 + hk_nd T a) with w | w
    · rw [hk_xe_nofit J.1 (by omega)] at hb ⊢
      refine br_t rfl (hk_ok1 (by omega) ha (br_f (by decide) (br_f (nI_ge z (by omega)) ?_)))
      refine ya_need RY.1 J.1 ha ?_
      rw [nI_add]
      exact br_f (nI_ge (a := 48) w (by omega)) ⟨rfl, hk_keep J ⟨hb, RX.2⟩ RY⟩
    · obtain ⟨e, j, hj⟩ := hk_xe_fit J.1 ha w
      obtain ⟨i1, i2, i3⟩ := hk_ie_ok J.1 ha
      have hj2 := i3 j hj
      have hj3 := i1.2.1
      rw [e] at hb ⊢
      rw [hj]
      refine br_f (hk_o_ne (by omega)) ⟨vp_in_nI (by omega) (by omega), nm_r (e' := upd xS nM 0) (by rw [nI_clamp (by omega)]) ?_⟩
      have f0 : hk_fr (fun s => s = nM) xK xS xK (upd xS nM 0) := hk_fr_s
      have ec : (131072 : Int32) + nI a = nI (131072 + a) := nI_add 131072 a
      refine xa_append (l := []) (c := 131072 + a) (by omega) hk_h0 (by decide) ec (fun K1 S1 q1 f1 => ?_)
      refine xa_keep (ty := j) (by omega) ?_
      refine hk_ok1 (by omega) ha (br_f (by decide) (br_f (nI_ge z (by omega)) ?_))
      refine ya_need RY.1 J.1 ha ?_
      rw [nI_add]
      refine br_t (nI_le (b := 48) w (by omega)) ?_
      refine ya_internEq RY.1 J.1 ha (hk_fit1 w) (fun A2 R2 hb2 => ?_)
      rw [hj]
      refine ya_begin (by omega) (fun L1 p1 g1 => ?_)
      refine ya_emit (l := []) (c := 131072 + a) (by omega) p1 (by decide) ec (fun M2 L2 p2 g2 => ?_)
      refine ⟨vp_in_nI (by omega) (by omega), nm_r (e' := upd yY nM (nI j)) (by rw [nI_clamp (by omega)]; rfl) (nm_r (nI_1 _) ⟨by rw [nI_pred], ?_⟩)⟩
      have kc : (131072 + a) / 65536 = 2 := by omega
      exact hk_new J RX RY z i1 i2 hb hb2 (hk_fr_t f0 f1) q1 (hk_fr_t g1 g2) p2 hj2.2 (hk_gt_1 (hk_ar_k kc (by decide) (by decide)) ⟨by omega, fun y => by omega⟩) (fun y => by have y : (131072 + a) / 65536 = 1 := y; omega)
