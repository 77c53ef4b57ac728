/-! rule -/
section
variable {xn xc xm xd xh : Int32} {xA xR xK xS xY xP xE : Nat → Int32} {T : hk_T} {nM nH cM cH : Nat} {TY HC : Nat → Nat} {G : Nat → List Nat}
def zx_K (post : Int32 → St2 → Prop) (T : hk_T) (nM nH : Nat) (xc xd : Int32) (xK xS xY xP : Nat → Int32) : hk_O → Prop
  | none => ∀ A R K S P E : Nat → Int32, hk_tb T A R → hk_fr (fun s => 32 + nH * 4 ≤ s) xK xS K S → (∀ h, h ≠ nH → P h = xP h) → post (-1) (nI T.1, xc, nI nM, xd, nI nH, A, R, K, S, xY, P, E)
  | some (Cn, H, T') => ∀ A R K S P E : Nat → Int32, hk_tb T' A R → hk_h K S (32 + nH * 4) Cn → hk_hs (hk_h K S) (32 + nH * 4 + 1) H → hk_fr (fun s => 32 + nH * 4 ≤ s) xK xS K S → P nH = nI H.length → (∀ h, h ≠ nH → P h = xP h) →
      post (nI nH) (nI T'.1, xc, nI nM, xd, nI (nH + 1), A, R, K, S, xY, P, E)
theorem zx_up {post Q : Int32 → St2 → Prop} {o : hk_O} (hQ : ∀ (r : Int32) (xn xc xm xd xh : Int32) (xA xR xK xS xY xP xE : Nat → Int32), wX_rule_188 post r xn xc xm xd xh xA xR xK xS xY xP xE → Q r (xn, xc, xm, xd, xh, xA, xR, xK, xS, xY, xP, xE)) (k : zx_K post T nM nH xc xd xK xS xY xP o) : xr_K Q T nM nH xc xd xK xS xY (upd xP nH 0) o := by
  cases o with
  | none =>
    intro A R K S P E hb f p
    exact hQ _ _ _ _ _ _ _ _ _ _ _ _ _ (br_t rfl (k A R K S P E hb f (fun h hne => (p h hne).trans (pk_un hne))))
  | some q =>
    obtain ⟨Cn, H, T'⟩ := q
    intro A R K S P E hb h1 h2 f p1 p2
    refine hQ _ _ _ _ _ _ _ _ _ _ _ _ _ (br_f (by decide) (nm_r (nI_1 _) ?_))
    rw [nI_pred]
    exact k A R K S P E hb h1 h2 f p1 (fun h hne => (p2 h hne).trans (pk_un hne))
theorem hk_R_zero (J : hk_I T nM TY nH HC G cM cH) (RX : hk_R T nM TY nH HC G xA xR xY xP (hk_h xK xS)) : hk_R T nM TY nH HC G xA xR xY (upd xP nH 0) (hk_h xK xS) :=
  hk_R_keep RX RX.1 (fun s l _ h => h) (fun h hne => pk_un hne) (by have := J.2.1; have := J.2.2.1; omega) (fun h hh => (J.2.2.2.2.2.2 h hh).1)
theorem vr_combg {la lb : List Nat} {HA HB : List (List Nat)} (J : hk_I T nM TY nH HC G cM cH) (ga : hk_gt T.1 la) (gb : hk_gt T.1 lb) (gU : ∀ y, y ∈ hk_un [] (HA ++ HB) → hk_gt T.1 y) (c : wc_comb T (T.2.2 (hk_c la 2 % 256)) la lb HA HB) : hk_good T (some (vl_comb (T.2.2 (hk_c la 2 % 256)) la lb, hk_un [] (HA ++ HB), (hk_ie T (T.2.2 (hk_c la 2 % 256))).2)) := by
  obtain ⟨-, -, -, -, fT, fT2, -, -⟩ := hk_ise_sides ga c.1
  have cT := (J.1.2.2.2.2.2.2 _ c.2.2.1 fT).2
  obtain ⟨i1, i2, i3⟩ := hk_ie_ok J.1 cT
  exact ⟨hk_gt_mono (vg_comb J.1.2.1 cT ga gb c.1 c.2.1 c.2.2.2.2.1) i2, fun y hy => hk_gt_mono (gU y hy) i2, c.2.2.2.2.2.1, i1, i2⟩
end
