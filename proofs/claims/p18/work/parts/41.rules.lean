/-! the law's rules: each outcome holds -/
def sw_go (T : hk_T) : hk_O → Prop
  | none => True
  | some (Cn, H, T') => sv_le T T' ∧ sv_th H Cn
theorem sw_tmt {T : hk_T} {l : List Nat} {t : Nat} (hT : hk_ti T) (h : sv_tm T l t) (h4 : t < 4) : ∀ s, sv_va s → ∃ e, sv_ok e = true ∧ sv_t e = t ∧ sv_v s l e := by
  intro s hs
  obtain ⟨e, e1, e2⟩ := h s hs
  exact ⟨e, e1.1, sv_ty_t hT e1 h4, e2⟩
section
variable {xn xc xm xd xh : Int32} {xA xR xK xS xY xP xE : Nat → Int32} {T : hk_T} {nM nH : Nat} {TY HC : Nat → Nat} {G : Nat → List Nat}
theorem sw_refl (I : sw_I T nM TY nH HC G) (RX : hk_R T nM TY nH HC G xA xR xY xP (hk_h xK xS)) (hH : nH < 16) (v2 v3 v4 : Int32) (h4 : ∀ t, t < nM → v2 = nI t → TY t < 4) :
    ∃ o : hk_O, hk_good T o ∧ sw_go T o ∧ ∀ post : Int32 → St2 → Prop, zx_K post T nM nH (nI 32) (nI 16) xK xS xY xP o → wpX_rule post (nI T.1, nI 32, nI nM, nI 16, nI nH, xA, xR, xK, xS, xY, xP, xE) 1 v2 v3 v4 := by
  have J := I.1
  have h32 := J.2.1
  have hn := J.1.2.1
  have R0 := hk_R_zero J RX
  rcases hk_val v2 nM with h | ⟨t, ht, rfl⟩
  · exact ⟨none, trivial, trivial, fun post k => br_t (nI_lt hH (by omega)) ⟨vp_in_nI (by omega) (by omega), nm_r (e' := upd xP nH 0) (by rw [nI_clamp (by omega)]) (br_f (by decide) (br_f (by decide) (br_t rfl (xr_refl0 RX.1 h (zx_up (fun _ _ _ _ _ _ _ _ _ _ _ _ _ h => h) k)))))⟩⟩
  · obtain ⟨ty, g, -⟩ := J.2.2.2.2.2.1 t ht
    by_cases c : hk_fq T (TY t) (G t) (G t)
    · exact ⟨some (hk_eq (TY t) (G t) (G t), [], (hk_ie T (TY t)).2), hk_fq_good J.1 ty g g.1 g.2.2 c, ⟨sv_ie_le T _, sv_refl (h4 t ht rfl) (sw_tmt J.1 (I.2.1 t ht) (h4 t ht rfl))⟩, fun post k => br_t (nI_lt hH (by omega)) ⟨vp_in_nI (by omega) (by omega), nm_r (e' := upd xP nH 0) (by rw [nI_clamp (by omega)]) (br_f (by decide) (br_f (by decide) (br_t rfl (xr_refl J R0 hH pk_us ht (fun _ => (zx_up (fun _ _ _ _ _ _ _ _ _ _ _ _ _ h => h) k)) (fun n => absurd c n)))))⟩⟩
    · exact ⟨none, trivial, trivial, fun post k => br_t (nI_lt hH (by omega)) ⟨vp_in_nI (by omega) (by omega), nm_r (e' := upd xP nH 0) (by rw [nI_clamp (by omega)]) (br_f (by decide) (br_f (by decide) (br_t rfl (xr_refl J R0 hH pk_us ht (fun c' => absurd c' c) (fun _ => (zx_up (fun _ _ _ _ _ _ _ _ _ _ _ _ _ h => h) k))))))⟩⟩
theorem sw_assume (I : sw_I T nM TY nH HC G) (RX : hk_R T nM TY nH HC G xA xR xY xP (hk_h xK xS)) (hH : nH < 16) (v2 v3 v4 : Int32) :
    ∃ o : hk_O, hk_good T o ∧ sw_go T o ∧ ∀ post : Int32 → St2 → Prop, zx_K post T nM nH (nI 32) (nI 16) xK xS xY xP o → wpX_rule post (nI T.1, nI 32, nI nM, nI 16, nI nH, xA, xR, xK, xS, xY, xP, xE) 7 v2 v3 v4 := by
  have J := I.1
  have h32 := J.2.1
  have hn := J.1.2.1
  have R0 := hk_R_zero J RX
  rcases hk_val v2 nM with h | ⟨t, ht, rfl⟩
  · exact ⟨none, trivial, trivial, fun post k => br_t (nI_lt hH (by omega)) ⟨vp_in_nI (by omega) (by omega), nm_r (e' := upd xP nH 0) (by rw [nI_clamp (by omega)]) (br_f (by decide) (br_f (by decide) (br_f (by decide) (br_f (by decide) (br_f (by decide) (br_f (by decide) (br_f (by decide) (br_f (by decide) (br_t rfl (xr_assume0 RX.1 h (zx_up (fun _ _ _ _ _ _ _ _ _ _ _ _ _ h => h) k)))))))))))⟩⟩
  · obtain ⟨ty, g, -⟩ := J.2.2.2.2.2.1 t ht
    by_cases c : TY t = 0
    · refine ⟨some (G t, [G t], T), ⟨g, fun y hy => by rw [List.mem_singleton.mp hy]; exact g, by show 1 ≤ 3; decide, J.1, Nat.le_refl _⟩, ⟨sv_le_r T, sv_assume (fun s hs => ?_)⟩, fun post k => br_t (nI_lt hH (by omega)) ⟨vp_in_nI (by omega) (by omega), nm_r (e' := upd xP nH 0) (by rw [nI_clamp (by omega)]) (br_f (by decide) (br_f (by decide) (br_f (by decide) (br_f (by decide) (br_f (by decide) (br_f (by decide) (br_f (by decide) (br_f (by decide) (br_t rfl (xr_assume J R0 hH pk_us ht (fun _ => (zx_up (fun _ _ _ _ _ _ _ _ _ _ _ _ _ h => h) k)) (fun n => absurd c n)))))))))))⟩⟩
      obtain ⟨e, e1, e2⟩ := I.2.1 t ht s hs
      rw [c] at e1
      exact ⟨e, sv_ty_b J.1 e1, e2⟩
    · exact ⟨none, trivial, trivial, fun post k => br_t (nI_lt hH (by omega)) ⟨vp_in_nI (by omega) (by omega), nm_r (e' := upd xP nH 0) (by rw [nI_clamp (by omega)]) (br_f (by decide) (br_f (by decide) (br_f (by decide) (br_f (by decide) (br_f (by decide) (br_f (by decide) (br_f (by decide) (br_f (by decide) (br_t rfl (xr_assume J R0 hH pk_us ht (fun c' => absurd c' c) (fun _ => (zx_up (fun _ _ _ _ _ _ _ _ _ _ _ _ _ h => h) k))))))))))))⟩⟩
theorem sw_trans (I : sw_I T nM TY nH HC G) (RX : hk_R T nM TY nH HC G xA xR xY xP (hk_h xK xS)) (hH : nH < 16) (v2 v3 v4 : Int32) :
    ∃ o : hk_O, hk_good T o ∧ sw_go T o ∧ ∀ post : Int32 → St2 → Prop, zx_K post T nM nH (nI 32) (nI 16) xK xS xY xP o → wpX_rule post (nI T.1, nI 32, nI nM, nI 16, nI nH, xA, xR, xK, xS, xY, xP, xE) 2 v2 v3 v4 := by
  have J := I.1
  have h32 := J.2.1
  have hn := J.1.2.1
  have R0 := hk_R_zero J RX
  rcases hk_val v2 nH with h | ⟨a, ha, rfl⟩
  · exact ⟨none, trivial, trivial, fun post k => br_t (nI_lt hH (by omega)) ⟨vp_in_nI (by omega) (by omega), nm_r (e' := upd xP nH 0) (by rw [nI_clamp (by omega)]) (br_f (by decide) (br_f (by decide) (br_f (by decide) (br_t rfl (xz_trans0 RX.1 h (zx_up (fun _ _ _ _ _ _ _ _ _ _ _ _ _ h => h) k))))))⟩⟩
  obtain ⟨lA, gA, gcA⟩ := hk_I_hs J ha
  obtain ⟨sA, pA, cA⟩ := hk_R_hs RX ha
  have tA := I.2.2 a ha
  rcases hk_val v3 nH with h | ⟨b, hb, rfl⟩
  · exact ⟨none, trivial, trivial, fun post k => br_t (nI_lt hH (by omega)) ⟨vp_in_nI (by omega) (by omega), nm_r (e' := upd xP nH 0) (by rw [nI_clamp (by omega)]) (br_f (by decide) (br_f (by decide) (br_f (by decide) (br_t rfl (xz_trans1 RX.1 (by omega) ha cA gcA h (zx_up (fun _ _ _ _ _ _ _ _ _ _ _ _ _ h => h) k))))))⟩⟩
  obtain ⟨lB, gB, gcB⟩ := hk_I_hs J hb
  have tB := I.2.2 b hb
  have gU : ∀ y, y ∈ hk_un [] ((hk_H G (32 + a * 4 + 1) (HC a)) ++ (hk_H G (32 + b * 4 + 1) (HC b))) → hk_gt T.1 y := hk_un_gt hk_nilm (fun y hy => (List.mem_append.mp hy).elim (gA y) (gB y))
  by_cases c : wc_trans (G (32 + a * 4)) (G (32 + b * 4)) (hk_H G (32 + a * 4 + 1) (HC a)) (hk_H G (32 + b * 4 + 1) (HC b))
  · exact ⟨some (vl_trans (G (32 + a * 4)) (G (32 + b * 4)), hk_un [] ((hk_H G (32 + a * 4 + 1) (HC a)) ++ (hk_H G (32 + b * 4 + 1) (HC b))), T), ⟨vg_trans hn gcA gcB c.1 c.2.1 c.2.2.2.1, gU, c.2.2.2.2, J.1, Nat.le_refl _⟩, ⟨sv_le_r T, sv_trans gcA gcB tA tB c.1 c.2.1 c.2.2.1⟩, fun post k => br_t (nI_lt hH (by omega)) ⟨vp_in_nI (by omega) (by omega), nm_r (e' := upd xP nH 0) (by rw [nI_clamp (by omega)]) (br_f (by decide) (br_f (by decide) (br_f (by decide) (br_t rfl (xr_trans J R0 hH pk_us ha hb rfl rfl (fun _ => (zx_up (fun _ _ _ _ _ _ _ _ _ _ _ _ _ h => h) k)) (fun n => absurd c n))))))⟩⟩
  · exact ⟨none, trivial, trivial, fun post k => br_t (nI_lt hH (by omega)) ⟨vp_in_nI (by omega) (by omega), nm_r (e' := upd xP nH 0) (by rw [nI_clamp (by omega)]) (br_f (by decide) (br_f (by decide) (br_f (by decide) (br_t rfl (xr_trans J R0 hH pk_us ha hb rfl rfl (fun c' => absurd c' c) (fun _ => (zx_up (fun _ _ _ _ _ _ _ _ _ _ _ _ _ h => h) k)))))))⟩⟩
theorem sw_comb (I : sw_I T nM TY nH HC G) (RX : hk_R T nM TY nH HC G xA xR xY xP (hk_h xK xS)) (hH : nH < 16) (v2 v3 v4 : Int32) :
    ∃ o : hk_O, hk_good T o ∧ sw_go T o ∧ ∀ post : Int32 → St2 → Prop, zx_K post T nM nH (nI 32) (nI 16) xK xS xY xP o → wpX_rule post (nI T.1, nI 32, nI nM, nI 16, nI nH, xA, xR, xK, xS, xY, xP, xE) 3 v2 v3 v4 := by
  have J := I.1
  have h32 := J.2.1
  have hn := J.1.2.1
  have R0 := hk_R_zero J RX
  rcases hk_val v2 nH with h | ⟨a, ha, rfl⟩
  · exact ⟨none, trivial, trivial, fun post k => br_t (nI_lt hH (by omega)) ⟨vp_in_nI (by omega) (by omega), nm_r (e' := upd xP nH 0) (by rw [nI_clamp (by omega)]) (br_f (by decide) (br_f (by decide) (br_f (by decide) (br_f (by decide) (br_t rfl (xz_comb0 RX.1 h (zx_up (fun _ _ _ _ _ _ _ _ _ _ _ _ _ h => h) k)))))))⟩⟩
  obtain ⟨lA, gA, gcA⟩ := hk_I_hs J ha
  obtain ⟨sA, pA, cA⟩ := hk_R_hs RX ha
  have tA := I.2.2 a ha
  rcases hk_val v3 nH with h | ⟨b, hb, rfl⟩
  · exact ⟨none, trivial, trivial, fun post k => br_t (nI_lt hH (by omega)) ⟨vp_in_nI (by omega) (by omega), nm_r (e' := upd xP nH 0) (by rw [nI_clamp (by omega)]) (br_f (by decide) (br_f (by decide) (br_f (by decide) (br_f (by decide) (br_t rfl (xz_comb1 RX.1 (by omega) ha cA gcA h (zx_up (fun _ _ _ _ _ _ _ _ _ _ _ _ _ h => h) k)))))))⟩⟩
  obtain ⟨lB, gB, gcB⟩ := hk_I_hs J hb
  have tB := I.2.2 b hb
  have gU : ∀ y, y ∈ hk_un [] ((hk_H G (32 + a * 4 + 1) (HC a)) ++ (hk_H G (32 + b * 4 + 1) (HC b))) → hk_gt T.1 y := hk_un_gt hk_nilm (fun y hy => (List.mem_append.mp hy).elim (gA y) (gB y))
  by_cases c : wc_comb T (T.2.2 (hk_c (G (32 + a * 4)) 2 % 256)) (G (32 + a * 4)) (G (32 + b * 4)) (hk_H G (32 + a * 4 + 1) (HC a)) (hk_H G (32 + b * 4 + 1) (HC b))
  · obtain ⟨-, e, -, e2, -⟩ := tA _ sv_va0
    obtain ⟨x, y, q4, -⟩ := sv_eqn sv_va0 gcA.1 c.1 e2
    have q3 : hk_c (G (32 + a * 4)) 2 % 256 = 3 := by have := c.2.2.1; omega
    have qd : hk_c (G (32 + b * 4)) 2 % 256 = 0 := by
      have w := c.2.2.2.1
      rw [q3, J.1.2.2.1] at w
      exact w.symm
    have qc : (T.2.2 (hk_c (G (32 + a * 4)) 2 % 256)) = 0 := by rw [q3]; exact J.1.2.2.2.1
    have th : sv_th (hk_un [] ((hk_H G (32 + a * 4 + 1) (HC a)) ++ (hk_H G (32 + b * 4 + 1) (HC b)))) (vl_comb (T.2.2 (hk_c (G (32 + a * 4)) 2 % 256)) (G (32 + a * 4)) (G (32 + b * 4))) := by
      rw [qc]; exact sv_comb gcA gcB tA tB c.1 c.2.1 q3 qd
    exact ⟨some (vl_comb (T.2.2 (hk_c (G (32 + a * 4)) 2 % 256)) (G (32 + a * 4)) (G (32 + b * 4)), hk_un [] ((hk_H G (32 + a * 4 + 1) (HC a)) ++ (hk_H G (32 + b * 4 + 1) (HC b))), (hk_ie T (T.2.2 (hk_c (G (32 + a * 4)) 2 % 256))).2), vr_combg J gcA gcB gU c, ⟨sv_ie_le T _, th⟩, fun post k => br_t (nI_lt hH (by omega)) ⟨vp_in_nI (by omega) (by omega), nm_r (e' := upd xP nH 0) (by rw [nI_clamp (by omega)]) (br_f (by decide) (br_f (by decide) (br_f (by decide) (br_f (by decide) (br_t rfl (xr_comb J R0 hH pk_us ha hb rfl rfl rfl (fun _ => (zx_up (fun _ _ _ _ _ _ _ _ _ _ _ _ _ h => h) k)) (fun n => absurd c n)))))))⟩⟩
  · exact ⟨none, trivial, trivial, fun post k => br_t (nI_lt hH (by omega)) ⟨vp_in_nI (by omega) (by omega), nm_r (e' := upd xP nH 0) (by rw [nI_clamp (by omega)]) (br_f (by decide) (br_f (by decide) (br_f (by decide) (br_f (by decide) (br_t rfl (xr_comb J R0 hH pk_us ha hb rfl rfl rfl (fun c' => absurd c' c) (fun _ => (zx_up (fun _ _ _ _ _ _ _ _ _ _ _ _ _ h => h) k))))))))⟩⟩
theorem sw_mp (I : sw_I T nM TY nH HC G) (RX : hk_R T nM TY nH HC G xA xR xY xP (hk_h xK xS)) (hH : nH < 16) (v2 v3 v4 : Int32) :
    ∃ o : hk_O, hk_good T o ∧ sw_go T o ∧ ∀ post : Int32 → St2 → Prop, zx_K post T nM nH (nI 32) (nI 16) xK xS xY xP o → wpX_rule post (nI T.1, nI 32, nI nM, nI 16, nI nH, xA, xR, xK, xS, xY, xP, xE) 8 v2 v3 v4 := by
  have J := I.1
  have h32 := J.2.1
  have hn := J.1.2.1
  have R0 := hk_R_zero J RX
  rcases hk_val v2 nH with h | ⟨a, ha, rfl⟩
  · exact ⟨none, trivial, trivial, fun post k => br_t (nI_lt hH (by omega)) ⟨vp_in_nI (by omega) (by omega), nm_r (e' := upd xP nH 0) (by rw [nI_clamp (by omega)]) (br_f (by decide) (br_f (by decide) (br_f (by decide) (br_f (by decide) (br_f (by decide) (br_f (by decide) (br_f (by decide) (br_f (by decide) (br_f (by decide) (br_t rfl (xz_mp0 RX.1 h (zx_up (fun _ _ _ _ _ _ _ _ _ _ _ _ _ h => h) k))))))))))))⟩⟩
  obtain ⟨lA, gA, gcA⟩ := hk_I_hs J ha
  obtain ⟨sA, pA, cA⟩ := hk_R_hs RX ha
  have tA := I.2.2 a ha
  rcases hk_val v3 nH with h | ⟨b, hb, rfl⟩
  · exact ⟨none, trivial, trivial, fun post k => br_t (nI_lt hH (by omega)) ⟨vp_in_nI (by omega) (by omega), nm_r (e' := upd xP nH 0) (by rw [nI_clamp (by omega)]) (br_f (by decide) (br_f (by decide) (br_f (by decide) (br_f (by decide) (br_f (by decide) (br_f (by decide) (br_f (by decide) (br_f (by decide) (br_f (by decide) (br_t rfl (xz_mp1 RX.1 (by omega) ha cA gcA h (zx_up (fun _ _ _ _ _ _ _ _ _ _ _ _ _ h => h) k))))))))))))⟩⟩
  obtain ⟨lB, gB, gcB⟩ := hk_I_hs J hb
  have tB := I.2.2 b hb
  have gU : ∀ y, y ∈ hk_un [] ((hk_H G (32 + a * 4 + 1) (HC a)) ++ (hk_H G (32 + b * 4 + 1) (HC b))) → hk_gt T.1 y := hk_un_gt hk_nilm (fun y hy => (List.mem_append.mp hy).elim (gA y) (gB y))
  by_cases c : wc_mp (G (32 + a * 4)) (G (32 + b * 4)) (hk_H G (32 + a * 4 + 1) (HC a)) (hk_H G (32 + b * 4 + 1) (HC b))
  · exact ⟨some (vl_mp (G (32 + a * 4)), hk_un [] ((hk_H G (32 + a * 4 + 1) (HC a)) ++ (hk_H G (32 + b * 4 + 1) (HC b))), T), ⟨vg_mp gcA c.1, gU, c.2.2, J.1, Nat.le_refl _⟩, ⟨sv_le_r T, sv_mp gcA tA tB c.1 c.2.1⟩, fun post k => br_t (nI_lt hH (by omega)) ⟨vp_in_nI (by omega) (by omega), nm_r (e' := upd xP nH 0) (by rw [nI_clamp (by omega)]) (br_f (by decide) (br_f (by decide) (br_f (by decide) (br_f (by decide) (br_f (by decide) (br_f (by decide) (br_f (by decide) (br_f (by decide) (br_f (by decide) (br_t rfl (xr_mp J R0 hH pk_us ha hb rfl rfl (fun _ => (zx_up (fun _ _ _ _ _ _ _ _ _ _ _ _ _ h => h) k)) (fun n => absurd c n))))))))))))⟩⟩
  · exact ⟨none, trivial, trivial, fun post k => br_t (nI_lt hH (by omega)) ⟨vp_in_nI (by omega) (by omega), nm_r (e' := upd xP nH 0) (by rw [nI_clamp (by omega)]) (br_f (by decide) (br_f (by decide) (br_f (by decide) (br_f (by decide) (br_f (by decide) (br_f (by decide) (br_f (by decide) (br_f (by decide) (br_f (by decide) (br_t rfl (xr_mp J R0 hH pk_us ha hb rfl rfl (fun c' => absurd c' c) (fun _ => (zx_up (fun _ _ _ _ _ _ _ _ _ _ _ _ _ h => h) k)))))))))))))⟩⟩
theorem sw_ded (I : sw_I T nM TY nH HC G) (RX : hk_R T nM TY nH HC G xA xR xY xP (hk_h xK xS)) (hH : nH < 16) (v2 v3 v4 : Int32) :
    ∃ o : hk_O, hk_good T o ∧ sw_go T o ∧ ∀ post : Int32 → St2 → Prop, zx_K post T nM nH (nI 32) (nI 16) xK xS xY xP o → wpX_rule post (nI T.1, nI 32, nI nM, nI 16, nI nH, xA, xR, xK, xS, xY, xP, xE) 9 v2 v3 v4 := by
  have J := I.1
  have h32 := J.2.1
  have hn := J.1.2.1
  have R0 := hk_R_zero J RX
  rcases hk_val v2 nH with h | ⟨a, ha, rfl⟩
  · exact ⟨none, trivial, trivial, fun post k => br_t (nI_lt hH (by omega)) ⟨vp_in_nI (by omega) (by omega), nm_r (e' := upd xP nH 0) (by rw [nI_clamp (by omega)]) (br_f (by decide) (br_f (by decide) (br_f (by decide) (br_f (by decide) (br_f (by decide) (br_f (by decide) (br_f (by decide) (br_f (by decide) (br_f (by decide) (br_f (by decide) (br_t rfl (xz_ded0 RX.1 h (zx_up (fun _ _ _ _ _ _ _ _ _ _ _ _ _ h => h) k)))))))))))))⟩⟩
  obtain ⟨lA, gA, gcA⟩ := hk_I_hs J ha
  obtain ⟨sA, pA, cA⟩ := hk_R_hs RX ha
  have tA := I.2.2 a ha
  rcases hk_val v3 nH with h | ⟨b, hb, rfl⟩
  · exact ⟨none, trivial, trivial, fun post k => br_t (nI_lt hH (by omega)) ⟨vp_in_nI (by omega) (by omega), nm_r (e' := upd xP nH 0) (by rw [nI_clamp (by omega)]) (br_f (by decide) (br_f (by decide) (br_f (by decide) (br_f (by decide) (br_f (by decide) (br_f (by decide) (br_f (by decide) (br_f (by decide) (br_f (by decide) (br_f (by decide) (br_t rfl (xz_ded1 RX.1 (by omega) ha cA gcA h (zx_up (fun _ _ _ _ _ _ _ _ _ _ _ _ _ h => h) k)))))))))))))⟩⟩
  obtain ⟨lB, gB, gcB⟩ := hk_I_hs J hb
  have tB := I.2.2 b hb
  have gU : ∀ y, y ∈ hk_un [] ((hk_H G (32 + a * 4 + 1) (HC a)) ++ (hk_H G (32 + b * 4 + 1) (HC b))) → hk_gt T.1 y := hk_un_gt hk_nilm (fun y hy => (List.mem_append.mp hy).elim (gA y) (gB y))
  by_cases c : wc_ded (G (32 + a * 4)) (G (32 + b * 4)) (hk_H G (32 + a * 4 + 1) (HC a)) (hk_H G (32 + b * 4 + 1) (HC b))
  · have gF : ∀ y, y ∈ vh_ded (G (32 + a * 4)) (G (32 + b * 4)) (hk_H G (32 + a * 4 + 1) (HC a)) (hk_H G (32 + b * 4 + 1) (HC b)) → hk_gt T.1 y := hk_un_gt hk_nilm (fun y hy => (List.mem_append.mp hy).elim (fun z => gA y (List.mem_filter.mp z).1) (fun z => gB y (List.mem_filter.mp z).1))
    have g0 : 0 < T.1 := by have := J.1.1; omega
    exact ⟨some (hk_eq 0 (G (32 + a * 4)) (G (32 + b * 4)), vh_ded (G (32 + a * 4)) (G (32 + b * 4)) (hk_H G (32 + a * 4 + 1) (HC a)) (hk_H G (32 + b * 4 + 1) (HC b)), T), ⟨⟨hk_eq_run (by decide) gcA.1 gcB.1, c.2, hk_eq_gc g0 hn gcA.2.2 gcB.2.2⟩, gF, c.1, J.1, Nat.le_refl _⟩, ⟨sv_le_r T, sv_ded tA tB⟩, fun post k => br_t (nI_lt hH (by omega)) ⟨vp_in_nI (by omega) (by omega), nm_r (e' := upd xP nH 0) (by rw [nI_clamp (by omega)]) (br_f (by decide) (br_f (by decide) (br_f (by decide) (br_f (by decide) (br_f (by decide) (br_f (by decide) (br_f (by decide) (br_f (by decide) (br_f (by decide) (br_f (by decide) (br_t rfl (xr_ded J R0 hH pk_us ha hb rfl rfl (fun _ => (zx_up (fun _ _ _ _ _ _ _ _ _ _ _ _ _ h => h) k)) (fun n => absurd c n)))))))))))))⟩⟩
  · exact ⟨none, trivial, trivial, fun post k => br_t (nI_lt hH (by omega)) ⟨vp_in_nI (by omega) (by omega), nm_r (e' := upd xP nH 0) (by rw [nI_clamp (by omega)]) (br_f (by decide) (br_f (by decide) (br_f (by decide) (br_f (by decide) (br_f (by decide) (br_f (by decide) (br_f (by decide) (br_f (by decide) (br_f (by decide) (br_f (by decide) (br_t rfl (xr_ded J R0 hH pk_us ha hb rfl rfl (fun c' => absurd c' c) (fun _ => (zx_up (fun _ _ _ _ _ _ _ _ _ _ _ _ _ h => h) k))))))))))))))⟩⟩
theorem sw_inst (I : sw_I T nM TY nH HC G) (RX : hk_R T nM TY nH HC G xA xR xY xP (hk_h xK xS)) (hH : nH < 16) (v2 v3 v4 : Int32) :
    ∃ o : hk_O, hk_good T o ∧ sw_go T o ∧ ∀ post : Int32 → St2 → Prop, zx_K post T nM nH (nI 32) (nI 16) xK xS xY xP o → wpX_rule post (nI T.1, nI 32, nI nM, nI 16, nI nH, xA, xR, xK, xS, xY, xP, xE) 10 v2 v3 v4 := by
  have J := I.1
  have h32 := J.2.1
  have hn := J.1.2.1
  have R0 := hk_R_zero J RX
  rcases hk_val v2 nH with h | ⟨a, ha, rfl⟩
  · exact ⟨none, trivial, trivial, fun post k => br_t (nI_lt hH (by omega)) ⟨vp_in_nI (by omega) (by omega), nm_r (e' := upd xP nH 0) (by rw [nI_clamp (by omega)]) (br_f (by decide) (br_f (by decide) (br_f (by decide) (br_f (by decide) (br_f (by decide) (br_f (by decide) (br_f (by decide) (br_f (by decide) (br_f (by decide) (br_f (by decide) (br_f (by decide) (br_t rfl (xz_inst0 RX.1 h (zx_up (fun _ _ _ _ _ _ _ _ _ _ _ _ _ h => h) k))))))))))))))⟩⟩
  obtain ⟨lA, gA, gcA⟩ := hk_I_hs J ha
  have tA := I.2.2 a ha
  rcases hk_val v3 nM with h | ⟨x, hx, rfl⟩
  · exact ⟨none, trivial, trivial, fun post k => br_t (nI_lt hH (by omega)) ⟨vp_in_nI (by omega) (by omega), nm_r (e' := upd xP nH 0) (by rw [nI_clamp (by omega)]) (br_f (by decide) (br_f (by decide) (br_f (by decide) (br_f (by decide) (br_f (by decide) (br_f (by decide) (br_f (by decide) (br_f (by decide) (br_f (by decide) (br_f (by decide) (br_f (by decide) (br_t rfl (xz_inst1 RX.1 (by omega) ha (hk_R_hs RX ha).2.2 gcA h (zx_up (fun _ _ _ _ _ _ _ _ _ _ _ _ _ h => h) k))))))))))))))⟩⟩
  obtain ⟨ty, g, -⟩ := J.2.2.2.2.2.1 x hx
  obtain ⟨xYx, xhx⟩ := RX.2.1 x hx
  rcases hk_val v4 nM with h | ⟨t, ht, rfl⟩
  · exact ⟨none, trivial, trivial, fun post k => br_t (nI_lt hH (by omega)) ⟨vp_in_nI (by omega) (by omega), nm_r (e' := upd xP nH 0) (by rw [nI_clamp (by omega)]) (br_f (by decide) (br_f (by decide) (br_f (by decide) (br_f (by decide) (br_f (by decide) (br_f (by decide) (br_f (by decide) (br_f (by decide) (br_f (by decide) (br_f (by decide) (br_f (by decide) (br_t rfl (xz_inst2 RX.1 (by omega) (by omega) ha hx xhx g h (zx_up (fun _ _ _ _ _ _ _ _ _ _ _ _ _ h => h) k))))))))))))))⟩⟩
  obtain ⟨tyt, gt, -⟩ := J.2.2.2.2.2.1 t ht
  by_cases c : ((hk_c (G x) 0) / 65536 = 1 ∧ TY t = (hk_c (G x) 0) % 256) ∧ wc_inst (G (32 + a * 4)) (G t) (hk_H G (32 + a * 4 + 1) (HC a)) (hk_c (G x) 0)
  · have gI : ∀ y, y ∈ vh_inst (hk_H G (32 + a * 4 + 1) (HC a)) (hk_c (G x) 0) (G t) → hk_gt T.1 y := by
      intro y hy
      obtain ⟨h, hh, rfl⟩ := List.mem_map.mp hy
      exact vg_inst c.1.1 (gA h hh) gt (c.2.2.1 h hh)
    have vI := hk_I_var J hx c.1.1
    have tx := I.2.1 x hx
    rw [vI.1] at tx
    obtain ⟨b1, b2⟩ := sv_tm_vc tx c.1.1
    have ev : (hk_c (G x) 0) = 65536 + (hk_c (G x) 0) / 256 % 256 * 256 + (hk_c (G x) 0) % 256 := by have := c.1.1; omega
    have hu := sw_tmt J.1 (I.2.1 t ht) (show TY t < 4 by rw [c.1.2]; exact b2)
    rw [c.1.2] at hu
    exact ⟨some (hk_sb (G (32 + a * 4)) (hk_c (G x) 0) (G t), hk_un [] (vh_inst (hk_H G (32 + a * 4 + 1) (HC a)) (hk_c (G x) 0) (G t)), T), ⟨vg_inst c.1.1 gcA gt c.2.1, hk_un_gt hk_nilm gI, c.2.2.2, J.1, Nat.le_refl _⟩, ⟨sv_le_r T, sv_inst gcA gA gt ev b1 b2 tA hu⟩, fun post k => br_t (nI_lt hH (by omega)) ⟨vp_in_nI (by omega) (by omega), nm_r (e' := upd xP nH 0) (by rw [nI_clamp (by omega)]) (br_f (by decide) (br_f (by decide) (br_f (by decide) (br_f (by decide) (br_f (by decide) (br_f (by decide) (br_f (by decide) (br_f (by decide) (br_f (by decide) (br_f (by decide) (br_f (by decide) (br_t rfl (xr_inst J R0 hH pk_us ha hx ht rfl rfl (fun _ => (zx_up (fun _ _ _ _ _ _ _ _ _ _ _ _ _ h => h) k)) (fun n => absurd c n))))))))))))))⟩⟩
  · exact ⟨none, trivial, trivial, fun post k => br_t (nI_lt hH (by omega)) ⟨vp_in_nI (by omega) (by omega), nm_r (e' := upd xP nH 0) (by rw [nI_clamp (by omega)]) (br_f (by decide) (br_f (by decide) (br_f (by decide) (br_f (by decide) (br_f (by decide) (br_f (by decide) (br_f (by decide) (br_f (by decide) (br_f (by decide) (br_f (by decide) (br_f (by decide) (br_t rfl (xr_inst J R0 hH pk_us ha hx ht rfl rfl (fun c' => absurd c' c) (fun _ => (zx_up (fun _ _ _ _ _ _ _ _ _ _ _ _ _ h => h) k)))))))))))))))⟩⟩
end
section
variable {xn xc xm xd xh : Int32} {xA xR xK xS xY xP xE : Nat → Int32} {T : hk_T} {nM nH : Nat} {TY HC : Nat → Nat} {G : Nat → List Nat}
theorem sw_fin {post : Int32 → St2 → Prop} {kd v2 v3 v4 : Int32} (I : sw_I T nM TY nH HC G) (RX : hk_R T nM TY nH HC G xA xR xY xP (hk_h xK xS)) (hc : nH < 16) (h : ∃ o : hk_O, hk_good T o ∧ sw_go T o ∧ ∀ post : Int32 → St2 → Prop, zx_K post T nM nH (nI 32) (nI 16) xK xS xY xP o → wpX_rule post (nI T.1, nI 32, nI nM, nI 16, nI nH, xA, xR, xK, xS, xY, xP, xE) kd v2 v3 v4)
    (k1 : ∀ u', nH < 16 → sw_S nM (nH + 1) u' → post (nI nH) u') (k0 : ∀ u', sw_S nM nH u' → post (-1) u') : wpX_rule post (nI T.1, nI 32, nI nM, nI 16, nI nH, xA, xR, xK, xS, xY, xP, xE) kd v2 v3 v4 := by
  obtain ⟨o, g1, g2, g3⟩ := h
  refine g3 post ?_
  cases o with
  | none => exact fun A R K S P E hb f p => k0 _ (sw_ref I RX hb f p)
  | some q =>
    obtain ⟨Cn, H, T'⟩ := q
    exact fun A R K S P E hb h1 h2 f p1 p2 => k1 _ hc (sw_thm I RX hc g1 g2.1 g2.2 hb h1 h2 f p1 p2)
theorem sw_full {post : Int32 → St2 → Prop} {kd v2 v3 v4 : Int32} (I : sw_I T nM TY nH HC G) (RX : hk_R T nM TY nH HC G xA xR xY xP (hk_h xK xS)) (hc : ¬ nH < 16) (k0 : ∀ u', sw_S nM nH u' → post (-1) u') : wpX_rule post (nI T.1, nI 32, nI nM, nI 16, nI nH, xA, xR, xK, xS, xY, xP, xE) kd v2 v3 v4 :=
  br_f (nI_nlt (b := 16) (by omega) (by have := I.1.2.2.2.1; omega)) (k0 _ (sw_in I RX))
end
theorem sw_rule {post : Int32 → St2 → Prop} {nM nH : Nat} {u : St2} {kd : Int32} (h : sw_S nM nH u) (hk : kd = 2 ∨ kd = 3 ∨ kd = 7 ∨ kd = 8 ∨ kd = 9 ∨ kd = 10) (v2 v3 v4 : Int32) (k1 : ∀ u', nH < 16 → sw_S nM (nH + 1) u' → post (nI nH) u') (k0 : ∀ u', sw_S nM nH u' → post (-1) u') : wpX_rule post u kd v2 v3 v4 := by
  obtain ⟨T, TY, HC, G, xA, xR, xK, xS, xY, xP, xE, rfl, I, RX⟩ := h
  by_cases hc : nH < 16
  · rcases hk with rfl | rfl | rfl | rfl | rfl | rfl
    · exact sw_fin I RX hc (sw_trans I RX hc v2 v3 v4) k1 k0
    · exact sw_fin I RX hc (sw_comb I RX hc v2 v3 v4) k1 k0
    · exact sw_fin I RX hc (sw_assume I RX hc v2 v3 v4) k1 k0
    · exact sw_fin I RX hc (sw_mp I RX hc v2 v3 v4) k1 k0
    · exact sw_fin I RX hc (sw_ded I RX hc v2 v3 v4) k1 k0
    · exact sw_fin I RX hc (sw_inst I RX hc v2 v3 v4) k1 k0
  · exact sw_full I RX hc k0
/-- REFL, as the law calls it: only on terms of the types 0 to 3 -/
theorem sw_rfl {A : Prop} {Q : Int32 → St2 → Prop} {nM nH : Nat} {u : St2} (h : sw_S nM nH u) (v2 v3 v4 : Int32) (a : A) (k1 : ∀ u', nH < 16 → sw_S nM (nH + 1) u' → Q (nI nH) u') (k0 : ∀ u', sw_S nM nH u' → Q (-1) u') :
    wpX_termType (fun r => ((r < 0 → A) ∧ (¬ r < 0 → ((3 < r → A) ∧ (¬ 3 < r → wpX_rule Q u 1 v2 v3 v4))))) u v2 := by
  obtain ⟨T, TY, HC, G, xA, xR, xK, xS, xY, xP, xE, rfl, I, RX⟩ := h
  have h32 := I.1.2.1
  have hn := I.1.1.2.1
  rcases hk_val v2 nM with h1 | ⟨t, ht, rfl⟩
  · exact hk_ok0 h1 (br_t rfl (br_t (by decide) a))
  · have ty := (I.1.2.2.2.2.2.1 t ht).1
    refine hk_ok1 (by omega) ht (br_f (by decide) ⟨vp_in_nI (by omega) (by omega), ?_⟩)
    rw [nI_clamp (by omega), (RX.2.1 t ht).1]
    refine br_f (nI_pos (by omega)) (pk_lt 3 (TY t) (fun _ => a) (fun z => ?_))
    by_cases hc : nH < 16
    · refine sw_fin I RX hc (sw_refl I RX hc (nI t) v3 v4 (fun t' ht' e => ?_)) k1 k0
      have : t = t' := (nI_eq (by omega) (by omega)).mp e
      subst this
      omega
    · exact sw_full I RX hc k0
