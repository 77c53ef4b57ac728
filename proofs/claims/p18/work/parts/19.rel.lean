/-! what both sides hold: types T, nM terms with their types TY, nH theorems with HC hypotheses, G the codes by slots -/
def hk_R (T : hk_T) (nM : Nat) (TY : Nat → Nat) (nH : Nat) (HC : Nat → Nat) (G : Nat → List Nat) (A R Y P : Nat → Int32) (hd : Nat → List Nat → Prop) : Prop :=
  hk_tb T A R ∧ (∀ t, t < nM → Y t = nI (TY t) ∧ hd t (G t)) ∧ ∀ h, h < nH → P h = nI (HC h) ∧ ∀ p, p ≤ HC h → hd (32 + h * 4 + p) (G (32 + h * 4 + p))
def hk_I (T : hk_T) (nM : Nat) (TY : Nat → Nat) (nH : Nat) (HC : Nat → Nat) (G : Nat → List Nat) (cM cH : Nat) : Prop :=
  hk_ti T ∧ nM ≤ cM ∧ cM ≤ 32 ∧ nH ≤ cH ∧ cH ≤ 16 ∧ (∀ t, t < nM → TY t < T.1 ∧ hk_gt T.1 (G t) ∧ (hk_c (G t) 0 / 65536 = 1 → TY t = hk_c (G t) 0 % 256)) ∧ ∀ h, h < nH → HC h ≤ 3 ∧ ∀ p, p ≤ HC h → hk_gt T.1 (G (32 + h * 4 + p))
def hk_ug (G : Nat → List Nat) (k : Nat) (l : List Nat) : Nat → List Nat := fun j => if j = k then l else G j
theorem hk_ug_s (G : Nat → List Nat) (k : Nat) (l : List Nat) : hk_ug G k l k = l := if_pos rfl
theorem hk_ug_n {G : Nat → List Nat} {k j : Nat} {l : List Nat} (h : j ≠ k) : hk_ug G k l j = G j := if_neg h
theorem hk_R_term {T T' : hk_T} {nM : Nat} {TY : Nat → Nat} {nH : Nat} {HC : Nat → Nat} {G : Nat → List Nat} {A R Y P A' R' Y' : Nat → Int32} {hd hd' : Nat → List Nat → Prop} {l : List Nat} {ty : Nat}
    (h : hk_R T nM TY nH HC G A R Y P hd) (hT : hk_tb T' A' R') (hk : ∀ s l, s ≠ nM → hd s l → hd' s l) (hn : hd' nM l) (hY : Y' nM = nI ty) (hYo : ∀ t, t ≠ nM → Y' t = Y t) (h32 : nM < 32) :
    hk_R T' (nM + 1) (hk_up TY nM ty) nH HC (hk_ug G nM l) A' R' Y' P hd' := by
  obtain ⟨h1, h2, h3⟩ := h
  refine ⟨hT, fun t ht => ?_, fun q hq => ⟨(h3 q hq).1, fun p hp => ?_⟩⟩
  · by_cases e : t = nM
    · subst e
      rw [hk_up_s, hk_ug_s]; exact ⟨hY, hn⟩
    · rw [hk_up_n e, hk_ug_n e, hYo t e]
      exact ⟨(h2 t (by omega)).1, hk t _ e (h2 t (by omega)).2⟩
  · rw [hk_ug_n (by omega)]
    exact hk _ _ (by omega) ((h3 q hq).2 p hp)
theorem hk_I_term {T T' : hk_T} {nM : Nat} {TY : Nat → Nat} {nH : Nat} {HC : Nat → Nat} {G : Nat → List Nat} {cM cH : Nat} {l : List Nat} {ty : Nat}
    (h : hk_I T nM TY nH HC G cM cH) (ht : hk_ti T') (hn : T.1 ≤ T'.1) (hc : nM < cM) (hty : ty < T'.1) (g : hk_gt T'.1 l) (hv : hk_c l 0 / 65536 = 1 → ty = hk_c l 0 % 256) :
    hk_I T' (nM + 1) (hk_up TY nM ty) nH HC (hk_ug G nM l) cM cH := by
  obtain ⟨h1, h2, h3, h4, h5, h6, h7⟩ := h
  refine ⟨ht, hc, h3, h4, h5, fun t q => ?_, fun q hq => ⟨(h7 q hq).1, fun p hp => ?_⟩⟩
  · by_cases e : t = nM
    · subst e
      rw [hk_up_s, hk_ug_s]; exact ⟨hty, g, hv⟩
    · rw [hk_up_n e, hk_ug_n e]
      obtain ⟨a, b, c⟩ := h6 t (by omega)
      exact ⟨by omega, hk_gt_mono b hn, c⟩
  · rw [hk_ug_n (by omega)]
    exact hk_gt_mono ((h7 q hq).2 p hp) hn
def hk_gh (G : Nat → List Nat) (nH : Nat) (Cn : List Nat) (H : List (List Nat)) : Nat → List Nat :=
  fun j => if j < 32 + nH * 4 then G j else if j = 32 + nH * 4 then Cn else H.getD (j - (32 + nH * 4 + 1)) []
theorem hk_gh_lo {G : Nat → List Nat} {nH j : Nat} {Cn : List Nat} {H : List (List Nat)} (h : j < 32 + nH * 4) : hk_gh G nH Cn H j = G j := if_pos h
theorem hk_gh_0 {G : Nat → List Nat} {nH : Nat} {Cn : List Nat} {H : List (List Nat)} : hk_gh G nH Cn H (32 + nH * 4) = Cn := by
  unfold hk_gh; rw [if_neg (Nat.lt_irrefl _), if_pos rfl]
theorem hk_gh_p {G : Nat → List Nat} {nH i : Nat} {Cn : List Nat} {H : List (List Nat)} : hk_gh G nH Cn H (32 + nH * 4 + 1 + i) = H.getD i [] := by
  unfold hk_gh
  rw [if_neg (by omega), if_neg (by omega), show 32 + nH * 4 + 1 + i - (32 + nH * 4 + 1) = i by omega]
theorem hk_R_thm {T T' : hk_T} {nM : Nat} {TY : Nat → Nat} {nH : Nat} {HC : Nat → Nat} {G : Nat → List Nat} {A R Y P A' R' P' : Nat → Int32} {hd hd' : Nat → List Nat → Prop} {Cn : List Nat} {H : List (List Nat)}
    (h : hk_R T nM TY nH HC G A R Y P hd) (hT : hk_tb T' A' R') (hk : ∀ s l, s < 32 + nH * 4 → hd s l → hd' s l) (hC : hd' (32 + nH * 4) Cn) (hH : hk_hs hd' (32 + nH * 4 + 1) H) (hP : P' nH = nI H.length) (hPo : ∀ h, h ≠ nH → P' h = P h) (h32 : nM ≤ 32) (l3 : ∀ h, h < nH → HC h ≤ 3) :
    hk_R T' nM TY (nH + 1) (hk_up HC nH H.length) (hk_gh G nH Cn H) A' R' Y P' hd' := by
  obtain ⟨h1, h2, h3⟩ := h
  refine ⟨hT, fun t ht => ?_, fun q hq => ?_⟩
  · rw [hk_gh_lo (by omega)]
    exact ⟨(h2 t ht).1, hk t _ (by omega) (h2 t ht).2⟩
  · by_cases e : q = nH
    · subst e
      rw [hk_up_s]
      refine ⟨hP, fun p hp => ?_⟩
      cases p with
      | zero => rw [Nat.add_zero, hk_gh_0]; exact hC
      | succ i =>
        rw [show 32 + q * 4 + (i + 1) = 32 + q * 4 + 1 + i by omega, hk_gh_p]
        exact hH i (by omega)
    · rw [hk_up_n e, hPo q e]
      have w := l3 q (by omega)
      refine ⟨(h3 q (by omega)).1, fun p hp => ?_⟩
      rw [hk_gh_lo (by omega)]
      exact hk _ _ (by omega) ((h3 q (by omega)).2 p hp)
theorem hk_I_thm {T T' : hk_T} {nM : Nat} {TY : Nat → Nat} {nH : Nat} {HC : Nat → Nat} {G : Nat → List Nat} {cM cH : Nat} {Cn : List Nat} {H : List (List Nat)}
    (h : hk_I T nM TY nH HC G cM cH) (ht : hk_ti T') (hn : T.1 ≤ T'.1) (hc : nH < cH) (g : hk_gt T'.1 Cn) (gH : ∀ y, y ∈ H → hk_gt T'.1 y) (l3 : H.length ≤ 3) :
    hk_I T' nM TY (nH + 1) (hk_up HC nH H.length) (hk_gh G nH Cn H) cM cH := by
  obtain ⟨h1, h2, h3, h4, h5, h6, h7⟩ := h
  refine ⟨ht, h2, h3, hc, h5, fun t q => ?_, fun q hq => ?_⟩
  · rw [hk_gh_lo (by omega)]
    obtain ⟨a, b, c⟩ := h6 t q
    exact ⟨by omega, hk_gt_mono b hn, c⟩
  · by_cases e : q = nH
    · subst e
      rw [hk_up_s]
      refine ⟨l3, fun p hp => ?_⟩
      cases p with
      | zero => rw [Nat.add_zero, hk_gh_0]; exact g
      | succ i =>
        rw [show 32 + q * 4 + (i + 1) = 32 + q * 4 + 1 + i by omega, hk_gh_p]
        exact gH _ (hk_ix_mem (by omega))
    · rw [hk_up_n e]
      refine ⟨(h7 q (by omega)).1, fun p hp => ?_⟩
      have := (h7 q (by omega)).1
      rw [hk_gh_lo (by omega)]
      exact hk_gt_mono ((h7 q (by omega)).2 p hp) hn
theorem hk_R_keep {T : hk_T} {nM : Nat} {TY : Nat → Nat} {nH : Nat} {HC : Nat → Nat} {G : Nat → List Nat} {A R Y P A' R' P' : Nat → Int32} {hd hd' : Nat → List Nat → Prop}
    (h : hk_R T nM TY nH HC G A R Y P hd) (hT : hk_tb T A' R') (hk : ∀ s l, s < 32 + nH * 4 → hd s l → hd' s l) (hPo : ∀ h, h ≠ nH → P' h = P h) (h32 : nM ≤ 32) (h3 : ∀ h, h < nH → HC h ≤ 3) :
    hk_R T nM TY nH HC G A' R' Y P' hd' := by
  obtain ⟨h1, h2, h4⟩ := h
  refine ⟨hT, fun t ht => ⟨(h2 t ht).1, hk t _ (by omega) (h2 t ht).2⟩, fun q hq => ?_⟩
  rw [hPo q (by omega)]
  have := h3 q hq
  exact ⟨(h4 q hq).1, fun p hp => hk _ _ (by omega) ((h4 q hq).2 p hp)⟩
/-- the hypotheses of a theorem as a list -/
def hk_H (G : Nat → List Nat) (f n : Nat) : List (List Nat) := (List.range n).map (fun i => G (f + i))
theorem hk_H_len (G : Nat → List Nat) (f n : Nat) : (hk_H G f n).length = n := by simp [hk_H]
theorem hk_H_gd {G : Nat → List Nat} {f n i : Nat} (h : i < n) : (hk_H G f n).getD i [] = G (f + i) := by
  simp [hk_H, List.getD_eq_getElem?_getD, h]
theorem hk_H_mem {G : Nat → List Nat} {f n : Nat} {x : List Nat} (h : x ∈ hk_H G f n) : ∃ i, i < n ∧ x = G (f + i) := by
  obtain ⟨i, hi, e⟩ := List.mem_map.mp h
  exact ⟨i, List.mem_range.mp hi, e.symm⟩
theorem hk_R_hs {T : hk_T} {nM : Nat} {TY : Nat → Nat} {nH : Nat} {HC : Nat → Nat} {G : Nat → List Nat} {A R Y P : Nat → Int32} {hd : Nat → List Nat → Prop} (h : hk_R T nM TY nH HC G A R Y P hd) {a : Nat} (ha : a < nH) :
    hk_hs hd (32 + a * 4 + 1) (hk_H G (32 + a * 4 + 1) (HC a)) ∧ P a = nI (hk_H G (32 + a * 4 + 1) (HC a)).length ∧ hd (32 + a * 4) (G (32 + a * 4)) := by
  obtain ⟨h1, h2, h3⟩ := h
  refine ⟨fun i hi => ?_, ?_, ?_⟩
  · rw [hk_H_len] at hi
    rw [hk_H_gd hi]
    have := (h3 a ha).2 (i + 1) (by omega)
    rw [show 32 + a * 4 + (i + 1) = 32 + a * 4 + 1 + i by omega] at this
    exact this
  · rw [hk_H_len]; exact (h3 a ha).1
  · have := (h3 a ha).2 0 (by omega)
    rw [Nat.add_zero] at this
    exact this
theorem hk_I_hs {T : hk_T} {nM : Nat} {TY : Nat → Nat} {nH : Nat} {HC : Nat → Nat} {G : Nat → List Nat} {cM cH : Nat} (h : hk_I T nM TY nH HC G cM cH) {a : Nat} (ha : a < nH) :
    (hk_H G (32 + a * 4 + 1) (HC a)).length ≤ 3 ∧ (∀ y, y ∈ hk_H G (32 + a * 4 + 1) (HC a) → hk_gt T.1 y) ∧ hk_gt T.1 (G (32 + a * 4)) := by
  obtain ⟨h1, h2, h3, h4, h5, h6, h7⟩ := h
  refine ⟨?_, fun y hy => ?_, ?_⟩
  · rw [hk_H_len]; exact (h7 a ha).1
  · obtain ⟨i, hi, rfl⟩ := hk_H_mem hy
    have := (h7 a ha).2 (i + 1) (by omega)
    rw [show 32 + a * 4 + (i + 1) = 32 + a * 4 + 1 + i by omega] at this
    exact this
  · have := (h7 a ha).2 0 (by omega)
    rw [Nat.add_zero] at this
    exact this
/-- a variable's term is its one node -/
theorem hk_I_var {T : hk_T} {nM : Nat} {TY : Nat → Nat} {nH : Nat} {HC : Nat → Nat} {G : Nat → List Nat} {cM cH : Nat} (h : hk_I T nM TY nH HC G cM cH) {t : Nat} (ht : t < nM) (hk : hk_c (G t) 0 / 65536 = 1) :
    G t = [hk_c (G t) 0] ∧ TY t = hk_c (G t) 0 % 256 ∧ hk_c (G t) 0 < 524288 := by
  obtain ⟨h1, h2, h3, h4, h5, h6, h7⟩ := h
  obtain ⟨a, b, c⟩ := h6 t ht
  exact ⟨hk_leaf b.1 (hk_ar_k hk (by decide) (by decide)), c hk, (hk_gt_c b (hk_gt_pos b)).1⟩
/-! the outcome of a rule: refused, or a conclusion, hypotheses and a table -/
abbrev hk_O : Type := Option (List Nat × List (List Nat) × hk_T)
def hk_good (T : hk_T) : hk_O → Prop
  | none => True
  | some (Cn, H, T') => hk_gt T'.1 Cn ∧ (∀ y, y ∈ H → hk_gt T'.1 y) ∧ H.length ≤ 3 ∧ hk_ti T' ∧ T.1 ≤ T'.1
def xr_K (post : Int32 → St2 → Prop) (T : hk_T) (nM nH : Nat) (xc xd : Int32) (xK xS xY xP : Nat → Int32) : hk_O → Prop
  | none => ∀ A R K S P E : Nat → Int32, hk_tb T A R → hk_fr (fun s => 32 + nH * 4 ≤ s) xK xS K S → (∀ h, h ≠ nH → P h = xP h) → post 0 (nI T.1, xc, nI nM, xd, nI nH, A, R, K, S, xY, P, E)
  | some (Cn, H, T') => ∀ A R K S P E : Nat → Int32, hk_tb T' A R → hk_h K S (32 + nH * 4) Cn → hk_hs (hk_h K S) (32 + nH * 4 + 1) H → hk_fr (fun s => 32 + nH * 4 ≤ s) xK xS K S → P nH = nI H.length → (∀ h, h ≠ nH → P h = xP h) →
      post 1 (nI T'.1, xc, nI nM, xd, nI nH, A, R, K, S, xY, P, E)
/-! normal order -/
def hk_nf : Nat → List Nat → Option (List Nat)
  | 0, l => match hk_lr l l.length 0 with
    | none => some l
    | some _ => none
  | k + 1, l => match hk_lr l l.length 0 with
    | none => some l
    | some r => if (hk_con l r).length ≤ 32 then hk_nf k (hk_con l r) else none
theorem hk_nf_n {l : List Nat} (k : Nat) (h : hk_lr l l.length 0 = none) : hk_nf k l = some l := by
  cases k with
  | zero => rw [hk_nf, h]
  | succ k => rw [hk_nf, h]
theorem hk_nf_0 {l : List Nat} {r : Nat} (h : hk_lr l l.length 0 = some r) : hk_nf 0 l = none := by rw [hk_nf, h]
theorem hk_nf_s {l : List Nat} {k r : Nat} (h : hk_lr l l.length 0 = some r) (hl : (hk_con l r).length ≤ 32) : hk_nf (k + 1) l = hk_nf k (hk_con l r) := by
  rw [hk_nf, h]; exact if_pos hl
theorem hk_nf_z {l : List Nat} {k r : Nat} (h : hk_lr l l.length 0 = some r) (hl : ¬ (hk_con l r).length ≤ 32) : hk_nf (k + 1) l = none := by
  rw [hk_nf, h]; exact if_neg hl
theorem hk_con_gt {n : Nat} {l : List Nat} {r : Nat} (g : hk_gt n l) (h : hk_rx l r) (hl : (hk_con l r).length ≤ 32) : hk_gt n (hk_con l r) :=
  ⟨hk_con_run g.1 g.2.1 h, hl, hk_con_gc g.1 g.2.1 h g.2.2⟩
theorem hk_nf_gt {n : Nat} {r : List Nat} : ∀ {k : Nat} {l : List Nat}, hk_gt n l → hk_nf k l = some r → hk_gt n r
  | k, l, g, h => by
    cases e : hk_lr l l.length 0 with
    | none =>
      rw [hk_nf_n k e] at h; cases h; exact g
    | some j =>
      cases k with
      | zero => rw [hk_nf_0 e] at h; cases h
      | succ k =>
        by_cases z : (hk_con l j).length ≤ 32
        · rw [hk_nf_s e z] at h
          exact hk_nf_gt (hk_con_gt g (hk_lr_in e) z) h
        · rw [hk_nf_z e z] at h; cases h
/-! the conclusions that the rules on equations build -/
theorem hk_ise_sides {n : Nat} {l : List Nat} (g : hk_gt n l) (he : hk_ise l) :
    hk_run 1 (hk_fm (fun q => [hk_c l q]) 3 (hk_e l 3 - 3)) = some 0 ∧ hk_run 1 (hk_fm (fun q => [hk_c l q]) (hk_e l 3) (l.length - hk_e l 3)) = some 0 ∧
      (∀ c, c ∈ hk_fm (fun q => [hk_c l q]) 3 (hk_e l 3 - 3) → hk_gc n c) ∧ (∀ c, c ∈ hk_fm (fun q => [hk_c l q]) (hk_e l 3) (l.length - hk_e l 3) → hk_gc n c) ∧
      hk_c l 2 % 256 < n ∧ hk_c l 2 % 256 < 256 ∧ hk_fm (fun q => [hk_c l q]) (hk_e l 3) (l.length - hk_e l 3) = l.drop (hk_e l 3) ∧ hk_fm (fun q => [hk_c l q]) 3 (hk_e l 3 - 3) = (l.drop 3).take (hk_e l 3 - 3) := by
  obtain ⟨t1, t2, t3, t4, t5, t6, t7⟩ := hk_ise_at g.1 he
  have e1 : hk_fm (fun q => [hk_c l q]) (hk_e l 3) (l.length - hk_e l 3) = l.drop (hk_e l 3) := by
    rw [hk_fm_sub _ _ (by omega), List.take_of_length_le (by rw [List.length_drop]; omega)]
  have e2 : hk_fm (fun q => [hk_c l q]) 3 (hk_e l 3 - 3) = (l.drop 3).take (hk_e l 3 - 3) := hk_fm_sub _ _ (by omega)
  refine ⟨by rw [e2]; exact t6, by rw [e1]; exact t7, fun c hc => ?_, fun c hc => ?_, ?_, Nat.mod_lt _ (by decide), e1, e2⟩
  · rw [e2] at hc
    exact g.2.2 c (List.mem_of_mem_drop (List.mem_of_mem_take hc))
  · rw [e1] at hc
    exact g.2.2 c (List.mem_of_mem_drop hc)
  · exact (hk_gt_c g (show 2 < l.length by omega)).2 he.2.2
def vl_trans (la lb : List Nat) : List Nat :=
  [196608, 196608, 131072 + hk_c la 2 % 256] ++ hk_fm (fun q => [hk_c la q]) 3 (hk_e la 3 - 3) ++ hk_fm (fun q => [hk_c lb q]) (hk_e lb 3) (lb.length - hk_e lb 3)
def wc_trans (la lb : List Nat) (HA HB : List (List Nat)) : Prop :=
  hk_ise la ∧ hk_ise lb ∧ la.drop (hk_e la 3) = (lb.drop 3).take (hk_e lb 3 - 3) ∧ (vl_trans la lb).length ≤ 32 ∧ (hk_un [] (HA ++ HB)).length ≤ 3
theorem vg_trans {n : Nat} {la lb : List Nat} (hn : n ≤ 48) (ga : hk_gt n la) (gb : hk_gt n lb) (ea : hk_ise la) (eb : hk_ise lb) (hl : (vl_trans la lb).length ≤ 32) : hk_gt n (vl_trans la lb) := by
  obtain ⟨a1, a2, a3, a4, a5, a6, a7, a8⟩ := hk_ise_sides ga ea
  obtain ⟨b1, b2, b3, b4, b5, b6, b7, b8⟩ := hk_ise_sides gb eb
  exact ⟨hk_eq_run a6 a1 b2, hl, hk_eq_gc a5 hn a3 b4⟩
def vl_comb (c : Nat) (la lb : List Nat) : List Nat :=
  [196608, 196608, 131072 + c] ++ [196608] ++ hk_fm (fun q => [hk_c la q]) 3 (hk_e la 3 - 3) ++ hk_fm (fun q => [hk_c lb q]) 3 (hk_e lb 3 - 3) ++ [196608] ++
    hk_fm (fun q => [hk_c la q]) (hk_e la 3) (la.length - hk_e la 3) ++ hk_fm (fun q => [hk_c lb q]) (hk_e lb 3) (lb.length - hk_e lb 3)
def wc_comb (T : hk_T) (cc : Nat) (la lb : List Nat) (HA HB : List (List Nat)) : Prop :=
  hk_ise la ∧ hk_ise lb ∧ 3 ≤ hk_c la 2 % 256 ∧ T.2.1 (hk_c la 2 % 256) = hk_c lb 2 % 256 ∧ (vl_comb cc la lb).length ≤ 32 ∧ (hk_un [] (HA ++ HB)).length ≤ 3 ∧ T.1 + hk_nd T cc ≤ 48
theorem vg_comb {n c : Nat} {la lb : List Nat} (hn : n ≤ 48) (hc : c < n) (ga : hk_gt n la) (gb : hk_gt n lb) (ea : hk_ise la) (eb : hk_ise lb) (hl : (vl_comb c la lb).length ≤ 32) : hk_gt n (vl_comb c la lb) := by
  obtain ⟨a1, a2, a3, a4, a5, a6, a7, a8⟩ := hk_ise_sides ga ea
  obtain ⟨b1, b2, b3, b4, b5, b6, b7, b8⟩ := hk_ise_sides gb eb
  have e : vl_comb c la lb = hk_eq c (196608 :: (hk_fm (fun q => [hk_c la q]) 3 (hk_e la 3 - 3) ++ hk_fm (fun q => [hk_c lb q]) 3 (hk_e lb 3 - 3))) (196608 :: (hk_fm (fun q => [hk_c la q]) (hk_e la 3) (la.length - hk_e la 3) ++ hk_fm (fun q => [hk_c lb q]) (hk_e lb 3) (lb.length - hk_e lb 3))) := by
    unfold vl_comb hk_eq
    simp
  have two : ∀ x y : List Nat, hk_run 1 x = some 0 → hk_run 1 y = some 0 → hk_run 1 (196608 :: (x ++ y)) = some 0 := by
    intro x y hx hy
    rw [hk_run_s, hk_ar_3 (by decide)]
    show hk_run 2 (x ++ y) = _
    rw [hk_run_app _ _ _ _ (hk_run1 hx 1)]; exact hy
  have gc : ∀ x y : List Nat, (∀ c, c ∈ x → hk_gc n c) → (∀ c, c ∈ y → hk_gc n c) → ∀ c, c ∈ 196608 :: (x ++ y) → hk_gc n c := by
    intro x y hx hy c hc
    rcases List.mem_cons.mp hc with z | z
    · exact ⟨by omega, fun y => by omega⟩
    · rcases List.mem_append.mp z with z | z
      · exact hx c z
      · exact hy c z
  refine ⟨?_, hl, ?_⟩
  · rw [e]; exact hk_eq_run (by omega) (two _ _ a1 b1) (two _ _ a2 b2)
  · rw [e]; exact hk_eq_gc hc hn (gc _ _ a3 b3) (gc _ _ a4 b4)
def vl_abs (c vc : Nat) (la : List Nat) : List Nat := [196608, 196608, 131072 + c] ++ hk_abl la 3 (hk_e la 3 - 3) vc ++ hk_abl la (hk_e la 3) (la.length - hk_e la 3) vc
def wc_abs (T : hk_T) (la : List Nat) (HA : List (List Nat)) (vc : Nat) : Prop :=
  hk_ise la ∧ vc / 65536 = 1 ∧ (∀ h, h ∈ HA → ¬ vc ∈ h) ∧ la.length + 2 ≤ 32 ∧ ∃ t, (hk_xa T (vc % 256) (hk_c la 2 % 256)).1 = some t
theorem vg_abs {n c vc : Nat} {la : List Nat} (hn : n ≤ 48) (hc : c < n) (hv : vc / 65536 = 1) (ga : hk_gt n la) (ea : hk_ise la) (hl : la.length + 2 ≤ 32) : hk_gt n (vl_abs c vc la) := by
  obtain ⟨a1, a2, a3, a4, a5, a6, a7, a8⟩ := hk_ise_sides ga ea
  obtain ⟨t1, t2, t3, t4, t5, t6, t7⟩ := hk_ise_at ga.1 ea
  refine ⟨hk_eq_run (by omega) (hk_abl_run (by omega) hv a1) (hk_abl_run (by omega) hv a2), ?_, hk_eq_gc hc hn (hk_abl_gc (by omega) ga.2.1 ga.2.2) (hk_abl_gc (by omega) ga.2.1 ga.2.2)⟩
  unfold vl_abs
  rw [List.length_append, List.length_append, hk_abl_len, hk_abl_len]
  show 3 + (hk_e la 3 - 3 + 1) + (la.length - hk_e la 3 + 1) ≤ 32
  omega
def vl_mp (la : List Nat) : List Nat := hk_fm (fun q => [hk_c la q]) (hk_e la 3) (la.length - hk_e la 3)
def wc_mp (la lb : List Nat) (HA HB : List (List Nat)) : Prop := hk_ise la ∧ (la.drop 3).take (hk_e la 3 - 3) = lb ∧ (hk_un [] (HA ++ HB)).length ≤ 3
theorem vg_mp {n : Nat} {la : List Nat} (ga : hk_gt n la) (ea : hk_ise la) : hk_gt n (vl_mp la) := by
  obtain ⟨a1, a2, a3, a4, a5, a6, a7, a8⟩ := hk_ise_sides ga ea
  have := ga.2.1
  exact ⟨a2, by unfold vl_mp; rw [hk_fm_len]; omega, a4⟩
def hk_ne (l : List Nat) : List Nat → Bool := fun t => decide (t ≠ l)
theorem hk_ne_iff (l t : List Nat) : hk_ne l t = true ↔ t ≠ l := decide_eq_true_iff
def vh_ded (la lb : List Nat) (HA HB : List (List Nat)) : List (List Nat) := hk_un [] (HA.filter (hk_ne lb) ++ HB.filter (hk_ne la))
def wc_ded (la lb : List Nat) (HA HB : List (List Nat)) : Prop := (vh_ded la lb HA HB).length ≤ 3 ∧ (hk_eq 0 la lb).length ≤ 32
def vh_inst (HA : List (List Nat)) (vc : Nat) (u : List Nat) : List (List Nat) := HA.map (fun h => hk_sb h vc u)
def wc_inst (la u : List Nat) (HA : List (List Nat)) (vc : Nat) : Prop :=
  (hk_sb la vc u).length ≤ 32 ∧ (∀ h, h ∈ HA → (hk_sb h vc u).length ≤ 32) ∧ (hk_un [] (vh_inst HA vc u)).length ≤ 3
theorem vg_inst {n vc : Nat} {l u : List Nat} (hv : vc / 65536 = 1) (g : hk_gt n l) (gu : hk_gt n u) (hl : (hk_sb l vc u).length ≤ 32) : hk_gt n (hk_sb l vc u) :=
  ⟨hk_sb_run g.1 hv gu.1, hl, hk_sb_gc g.2.2 gu.2.2⟩
