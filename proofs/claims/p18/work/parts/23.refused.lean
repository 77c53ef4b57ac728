/-! refused: a handle that isn't one -/
section
variable {xn xc xm xd xh : Int32} {xA xR xK xS xY xP xE : Nat → Int32} {T : hk_T} {nM nH cM cH : Nat} {TY HC : Nat → Nat} {G : Nat → List Nat}
theorem xz_trans0 {post : Int32 → St2 → Prop} {x y : Int32} (hb : hk_tb T xA xR) (h : ∀ j, j < nH → x ≠ nI j) (k : xr_K post T nM nH xc xd xK xS xY xP none) : wpX_byTrans post (nI T.1, xc, nI nM, xd, nI nH, xA, xR, xK, xS, xY, xP, xE) x y := by
  have K := k xA xR xK xS xP xE hb hk_fr_r (fun _ _ => rfl)
  unfold wpX_byTrans
  dsimp only
  exact xa_iseq0 h (br_t rfl K)
theorem xz_trans1 {post : Int32 → St2 → Prop} {y : Int32} {a n : Nat} {l : List Nat} (hb : hk_tb T xA xR) (hH : nH ≤ 16) (ha : a < nH) (cA : hk_h xK xS (32 + a * 4) l) (gA : hk_gt n l) (h : ∀ j, j < nH → y ≠ nI j) (k : xr_K post T nM nH xc xd xK xS xY xP none) : wpX_byTrans post (nI T.1, xc, nI nM, xd, nI nH, xA, xR, xK, xS, xY, xP, xE) (nI a) y := by
  have K := k xA xR xK xS xP xE hb hk_fr_r (fun _ _ => rfl)
  unfold wpX_byTrans
  dsimp only
  refine xa_iseq ha hH cA gA (fun _ => br_f (by decide) ?_) (fun _ => br_t rfl K)
  exact xa_iseq0 h (br_t rfl K)
theorem xz_comb0 {post : Int32 → St2 → Prop} {x y : Int32} (hb : hk_tb T xA xR) (h : ∀ j, j < nH → x ≠ nI j) (k : xr_K post T nM nH xc xd xK xS xY xP none) : wpX_byMkComb post (nI T.1, xc, nI nM, xd, nI nH, xA, xR, xK, xS, xY, xP, xE) x y := by
  have K := k xA xR xK xS xP xE hb hk_fr_r (fun _ _ => rfl)
  unfold wpX_byMkComb
  dsimp only
  exact xa_iseq0 h (br_t rfl K)
theorem xz_comb1 {post : Int32 → St2 → Prop} {y : Int32} {a n : Nat} {l : List Nat} (hb : hk_tb T xA xR) (hH : nH ≤ 16) (ha : a < nH) (cA : hk_h xK xS (32 + a * 4) l) (gA : hk_gt n l) (h : ∀ j, j < nH → y ≠ nI j) (k : xr_K post T nM nH xc xd xK xS xY xP none) : wpX_byMkComb post (nI T.1, xc, nI nM, xd, nI nH, xA, xR, xK, xS, xY, xP, xE) (nI a) y := by
  have K := k xA xR xK xS xP xE hb hk_fr_r (fun _ _ => rfl)
  unfold wpX_byMkComb
  dsimp only
  refine xa_iseq ha hH cA gA (fun _ => br_f (by decide) ?_) (fun _ => br_t rfl K)
  exact xa_iseq0 h (br_t rfl K)
theorem xz_mp0 {post : Int32 → St2 → Prop} {x y : Int32} (hb : hk_tb T xA xR) (h : ∀ j, j < nH → x ≠ nI j) (k : xr_K post T nM nH xc xd xK xS xY xP none) : wpX_byEqMp post (nI T.1, xc, nI nM, xd, nI nH, xA, xR, xK, xS, xY, xP, xE) x y := by
  have K := k xA xR xK xS xP xE hb hk_fr_r (fun _ _ => rfl)
  unfold wpX_byEqMp
  dsimp only
  exact xa_iseq0 h (br_t rfl K)
theorem xz_mp1 {post : Int32 → St2 → Prop} {y : Int32} {a n : Nat} {l : List Nat} (hb : hk_tb T xA xR) (hH : nH ≤ 16) (ha : a < nH) (cA : hk_h xK xS (32 + a * 4) l) (gA : hk_gt n l) (h : ∀ j, j < nH → y ≠ nI j) (k : xr_K post T nM nH xc xd xK xS xY xP none) : wpX_byEqMp post (nI T.1, xc, nI nM, xd, nI nH, xA, xR, xK, xS, xY, xP, xE) (nI a) y := by
  have K := k xA xR xK xS xP xE hb hk_fr_r (fun _ _ => rfl)
  unfold wpX_byEqMp
  dsimp only
  refine xa_iseq ha hH cA gA (fun _ => br_f (by decide) ?_) (fun _ => br_t rfl K)
  exact hk_ok0 h (br_t rfl K)
theorem xz_ded0 {post : Int32 → St2 → Prop} {x y : Int32} (hb : hk_tb T xA xR) (h : ∀ j, j < nH → x ≠ nI j) (k : xr_K post T nM nH xc xd xK xS xY xP none) : wpX_byDeductAntisym post (nI T.1, xc, nI nM, xd, nI nH, xA, xR, xK, xS, xY, xP, xE) x y := by
  have K := k xA xR xK xS xP xE hb hk_fr_r (fun _ _ => rfl)
  unfold wpX_byDeductAntisym
  dsimp only
  exact hk_ok0 h (br_t rfl K)
theorem xz_ded1 {post : Int32 → St2 → Prop} {y : Int32} {a n : Nat} {l : List Nat} (hb : hk_tb T xA xR) (hH : nH ≤ 16) (ha : a < nH) (cA : hk_h xK xS (32 + a * 4) l) (gA : hk_gt n l) (h : ∀ j, j < nH → y ≠ nI j) (k : xr_K post T nM nH xc xd xK xS xY xP none) : wpX_byDeductAntisym post (nI T.1, xc, nI nM, xd, nI nH, xA, xR, xK, xS, xY, xP, xE) (nI a) y := by
  have K := k xA xR xK xS xP xE hb hk_fr_r (fun _ _ => rfl)
  unfold wpX_byDeductAntisym
  dsimp only
  refine hk_ok1 (by omega) ha (br_f (by decide) ?_)
  exact hk_ok0 h (br_t rfl K)
theorem xz_abs0 {post : Int32 → St2 → Prop} {x y : Int32} (hb : hk_tb T xA xR) (h : ∀ j, j < nH → x ≠ nI j) (k : xr_K post T nM nH xc xd xK xS xY xP none) : wpX_byAbs post (nI T.1, xc, nI nM, xd, nI nH, xA, xR, xK, xS, xY, xP, xE) x y := by
  have K := k xA xR xK xS xP xE hb hk_fr_r (fun _ _ => rfl)
  unfold wpX_byAbs
  dsimp only
  exact xa_iseq0 h (br_t rfl K)
theorem xz_abs1 {post : Int32 → St2 → Prop} {y : Int32} {a n : Nat} {l : List Nat} (hb : hk_tb T xA xR) (hH : nH ≤ 16) (ha : a < nH) (cA : hk_h xK xS (32 + a * 4) l) (gA : hk_gt n l) (h : ∀ j, j < nM → y ≠ nI j) (k : xr_K post T nM nH xc xd xK xS xY xP none) : wpX_byAbs post (nI T.1, xc, nI nM, xd, nI nH, xA, xR, xK, xS, xY, xP, xE) (nI a) y := by
  have K := k xA xR xK xS xP xE hb hk_fr_r (fun _ _ => rfl)
  unfold wpX_byAbs
  dsimp only
  refine xa_iseq ha hH cA gA (fun _ => br_f (by decide) ?_) (fun _ => br_t rfl K)
  exact xa_var0 h (br_t rfl K)
theorem xz_inst0 {post : Int32 → St2 → Prop} {x y z : Int32} (hb : hk_tb T xA xR) (h : ∀ j, j < nH → x ≠ nI j) (k : xr_K post T nM nH xc xd xK xS xY xP none) : wpX_byInst post (nI T.1, xc, nI nM, xd, nI nH, xA, xR, xK, xS, xY, xP, xE) x y z := by
  have K := k xA xR xK xS xP xE hb hk_fr_r (fun _ _ => rfl)
  unfold wpX_byInst
  dsimp only
  exact hk_ok0 h (br_t rfl K)
theorem xz_inst1 {post : Int32 → St2 → Prop} {y z : Int32} {a n : Nat} {l : List Nat} (hb : hk_tb T xA xR) (hH : nH ≤ 16) (ha : a < nH) (cA : hk_h xK xS (32 + a * 4) l) (gA : hk_gt n l) (h : ∀ j, j < nM → y ≠ nI j) (k : xr_K post T nM nH xc xd xK xS xY xP none) : wpX_byInst post (nI T.1, xc, nI nM, xd, nI nH, xA, xR, xK, xS, xY, xP, xE) (nI a) y z := by
  have K := k xA xR xK xS xP xE hb hk_fr_r (fun _ _ => rfl)
  unfold wpX_byInst
  dsimp only
  refine hk_ok1 (by omega) ha (br_f (by decide) ?_)
  exact xa_var0 h (br_t rfl K)
theorem xz_inst2 {post : Int32 → St2 → Prop} {z : Int32} {a v n : Nat} {l : List Nat} (hb : hk_tb T xA xR) (hH : nH ≤ 16) (h32 : nM ≤ 32) (ha : a < nH) (hv : v < nM) (cv : hk_h xK xS v l) (gv : hk_gt n l) (h : ∀ j, j < nM → z ≠ nI j) (k : xr_K post T nM nH xc xd xK xS xY xP none) : wpX_byInst post (nI T.1, xc, nI nM, xd, nI nH, xA, xR, xK, xS, xY, xP, xE) (nI a) (nI v) z := by
  have K := k xA xR xK xS xP xE hb hk_fr_r (fun _ _ => rfl)
  unfold wpX_byInst
  dsimp only
  refine hk_ok1 (by omega) ha (br_f (by decide) ?_)
  refine xa_var hv h32 cv gv (fun _ => br_f (by decide) ?_) (fun _ => br_t rfl K)
  exact hk_ok0 h (br_t rfl K)
end
