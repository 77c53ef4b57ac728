/-! the component: what builds terms -/
section
variable {xn xc xm xd xh : Int32} {xA xR xK xS xY xP xE : Nat → Int32}
theorem xa_append {post : St2 → Prop} {o c : Nat} {l : List Nat} {y : Int32} (ho : o < 98) (h : hk_h xK xS o l) (hl : l.length < 100000) (hy : y = nI c)
    (k : ∀ K S : Nat → Int32, hk_h K S o (l ++ [c]) → hk_fr (fun s => s = o) xK xS K S → post (xn, xc, xm, xd, xh, xA, xR, K, S, xY, xP, xE)) : wpX_append post (xn, xc, xm, xd, xh, xA, xR, xK, xS, xY, xP, xE) (nI o) y := by
  subst hy
  have V : vp_in (nI o) 98 := vp_in_nI ho (by omega)
  have e := hk_sz h (by omega)
  have ec : (nI o).toNatClampNeg = o := nI_clamp (by omega)
  refine ⟨V, ?_⟩
  refine pk_le 32 l.length (fun z => ⟨V, V, ?_⟩) (fun z => ⟨V, ?_, ?_⟩) rfl e
  · refine nm_r (e' := upd xS o (nI (l.length + 1))) (by rw [e, ec, nI_1]) ?_
    exact k _ _ (hk_put' h z) hk_fr_s
  · rw [e]; exact hk_vx ho z
  · refine nm_r (e' := upd xK (o * 32 + l.length) (nI c)) (by rw [e, hk_ad, nI_clamp (by omega)]) ⟨V, V, ?_⟩
    refine nm_r (e' := upd xS o (nI (l.length + 1))) (by rw [e, ec, nI_1]) ?_
    exact k _ _ (hk_put h) (hk_fr_p z)
theorem xa_run_l {post : St2 → Prop} {o s to : Nat} {src : List Nat} (ho : o < 98) (hs : s < 98) (hso : s ≠ o) (ht : to ≤ src.length) (hl : src.length ≤ 32) :
    ∀ (d p : Nat) (K S : Nat → Int32) (l : List Nat), p + d = to → hk_h K S o l → hk_h K S s src → l.length + d < 100000 →
      (∀ K' S' : Nat → Int32, hk_h K' S' o (l ++ hk_fm (fun q => [hk_c src q]) p d) → hk_fr (fun s => s = o) K S K' S' → post (xn, xc, xm, xd, xh, xA, xR, K', S', xY, xP, xE)) → wX_appendRun_3 post (nI o) (nI s) (nI to) (d + 1) (nI p) xn xc xm xd xh xA xR K S xY xP xE := by
  intro d
  induction d with
  | zero =>
    intro p K S l hp h hsrc hlen k
    refine br_t (nI_le (by omega) (by omega)) (k K S ?_ hk_fr_r)
    show hk_h K S o (l ++ [])
    rw [List.append_nil]; exact h
  | succ d ih =>
    intro p K S l hp h hsrc hlen k
    refine br_f (nI_ge (by omega) (by omega)) ⟨hk_vx hs (by omega), ?_⟩
    refine xa_append (c := hk_c src p) ho h (by omega) (hk_rd hsrc (by omega) (by omega) (by omega)) (fun K1 S1 h1 f1 => ?_)
    refine nm_r (nI_1 _) ?_
    refine ih (p + 1) K1 S1 (l ++ [hk_c src p]) (by omega) h1 (hk_fr_h f1 hso hsrc) (by rw [hk_len1]; omega) (fun K2 S2 h2 f2 => k K2 S2 ?_ (hk_fr_t f1 f2))
    rw [hk_fm_l, ← List.append_assoc]; exact h2
theorem xa_run {post : St2 → Prop} {o s p to : Nat} {src l : List Nat} (ho : o < 98) (hs : s < 98) (hso : s ≠ o) (hp : p ≤ to) (ht : to ≤ src.length) (hl : src.length ≤ 32) (h : hk_h xK xS o l) (hsrc : hk_h xK xS s src) (hlen : l.length < 90000)
    (k : ∀ K S : Nat → Int32, hk_h K S o (l ++ hk_fm (fun q => [hk_c src q]) p (to - p)) → hk_fr (fun s => s = o) xK xS K S → post (xn, xc, xm, xd, xh, xA, xR, K, S, xY, xP, xE)) : wpX_appendRun post (xn, xc, xm, xd, xh, xA, xR, xK, xS, xY, xP, xE) (nI o) (nI s) (nI p) (nI to) :=
  ⟨_, xa_run_l ho hs hso ht hl (to - p) p xK xS l (by omega) h hsrc (by omega) k⟩
/-- a whole term -/
theorem xa_all {post : St2 → Prop} {o s : Nat} {src l : List Nat} {y : Int32} (ho : o < 98) (hs : s < 98) (hso : s ≠ o) (hl : src.length ≤ 32) (h : hk_h xK xS o l) (hsrc : hk_h xK xS s src) (hlen : l.length < 90000) (hy : y = nI src.length)
    (k : ∀ K S : Nat → Int32, hk_h K S o (l ++ src) → hk_fr (fun s => s = o) xK xS K S → post (xn, xc, xm, xd, xh, xA, xR, K, S, xY, xP, xE)) : wpX_appendRun post (xn, xc, xm, xd, xh, xA, xR, xK, xS, xY, xP, xE) (nI o) (nI s) 0 y := by
  subst hy
  refine xa_run (p := 0) ho hs hso (by omega) (Nat.le_refl _) hl h hsrc hlen (fun K S h1 f1 => k K S ?_ f1)
  rw [Nat.sub_zero, hk_fm_all] at h1; exact h1
/-! depths -/
theorem xa_mk2 {post : St2 → Prop} {J : Int32 → (Nat → Int32) → (Nat → Int32) → (Nat → Int32) → (Nat → Int32) → (Nat → Int32) → (Nat → Int32) → (Nat → Int32) → Prop} {s n p e : Nat} (he : e ≤ 32) (hp : p < 32) :
    ∀ (d q : Nat) (E : Nat → Int32), e ≤ q + d → q < 1000 → (∀ E' : Nat → Int32, (∀ i, E' i = if q ≤ i ∧ i < e then E i + 1 else E i) → J (nI (p + 1)) xA xR xK xS xY xP E') →
      wX_markDepths_61 post J (nI s) (nI n) (nI p) (nI e) xn xc xm xd xh (d + 1) (nI q) xA xR xK xS xY xP E := by
  intro d
  induction d with
  | zero =>
    intro q E hq hq' k
    refine br_t (nI_le (by omega) (by omega)) (nm_r (nI_1 _) (k E (fun i => ?_)))
    rw [if_neg (by omega)]
  | succ d ih =>
    intro q E hq hq' k
    refine pk_le e q (fun z => nm_r (nI_1 _) (k E (fun i => ?_))) (fun z => ?_)
    · rw [if_neg (by omega)]
    · have V : vp_in (nI q) 32 := vp_in_nI (by omega) (by omega)
      refine ⟨V, V, nm_r (e' := upd E q (E q + 1)) (by rw [nI_clamp (by omega)]) (nm_r (nI_1 _) ?_)⟩
      refine ih (q + 1) (upd E q (E q + 1)) (by omega) (by omega) (fun E' hE => k E' (fun i => ?_))
      rw [hE i]
      by_cases w : i = q
      · subst w
        rw [if_neg (by omega), if_pos ⟨Nat.le_refl _, z⟩, pk_us]
      · rw [pk_un w]
        by_cases w2 : q + 1 ≤ i ∧ i < e
        · rw [if_pos w2, if_pos ⟨by omega, w2.2⟩]
        · rw [if_neg w2, if_neg (fun y => w2 ⟨by omega, y.2⟩)]
theorem xa_mk1 {post : St2 → Prop} {s n : Nat} {l : List Nat} (h : hk_h xK xS s l) (hs : s < 98) (g : hk_gt n l)
    (k : ∀ E' : Nat → Int32, (∀ i, i < l.length → E' i = nI (hk_dp l 0 i)) → post (xn, xc, xm, xd, xh, xA, xR, xK, xS, xY, xP, E')) :
    ∀ (d p : Nat) (E : Nat → Int32), p + d = l.length → (∀ i, i < l.length → E i = nI (hk_dn l i 0 (min p i))) → wX_markDepths_29 post (nI s) (nI l.length) xn xc xm xd xh (d + 1) (nI p) xA xR xK xS xY xP E := by
  have hl := g.2.1
  intro d
  induction d with
  | zero =>
    intro p E hp hE
    refine br_t (nI_le (by omega) (by omega)) (k E (fun i hi => ?_))
    rw [hE i hi, show min p i = i - 0 by omega]; rfl
  | succ d ih =>
    intro p E hp hE
    have pl : p < l.length := by omega
    refine br_f (nI_ge (by omega) (by omega)) ?_
    refine xa_kind h hs pl (by omega) (hk_gt_c g pl).1 ?_
    have hc := (hk_gt_c g pl).1
    have step : ∀ i, hk_dn l i 0 (p + 1) = hk_dn l i 0 p + (if hk_c l p / 65536 = 4 ∧ i < hk_e l p then 1 else 0) := by
      intro i
      show hk_dn l i 0 p + (if hk_c l (0 + p) / 65536 = 4 ∧ i < hk_e l (0 + p) then 1 else 0) = _
      rw [Nat.zero_add]
    refine pk_eq (hk_c l p / 65536) 4 (fun e4 => ?_) (fun e4 => ?_)
    · obtain ⟨m, -, ha⟩ := hk_at_ex g.1 pl
      have he := (hk_at_end ha).2.1.1
      refine xa_end h hs hl (fun c hc => (g.2.2 c hc).1) ha ?_
      refine nm_r (nI_1 _) ⟨_, xa_mk2 (by omega) (by omega) (hk_e l p) (p + 1) E (by omega) (by omega) (fun E' hE' => ih (p + 1) E' (by omega) (fun i hi => ?_))⟩
      rw [hE' i]
      by_cases w : p + 1 ≤ i
      · rw [show min (p + 1) i = p + 1 by omega, step i]
        by_cases w2 : i < hk_e l p
        · rw [if_pos ⟨w, w2⟩, if_pos ⟨e4, w2⟩, hE i hi, nI_1, show min p i = p by omega]
        · rw [if_neg (fun y => w2 y.2), if_neg (fun y => w2 y.2), hE i hi, show min p i = p by omega]; rfl
      · rw [if_neg (fun y => w y.1), hE i hi, show min p i = min (p + 1) i by omega]
    · refine nm_r (nI_1 _) ⟨_, xa_mk2 (e := p) (by omega) (by omega) 0 (p + 1) E (by omega) (by omega) (fun E' hE' => ih (p + 1) E' (by omega) (fun i hi => ?_))⟩
      rw [hE' i, if_neg (by omega), hE i hi]
      by_cases w : p + 1 ≤ i
      · rw [show min (p + 1) i = p + 1 by omega, step i, if_neg (fun y => e4 y.1), show min p i = p by omega]; rfl
      · rw [show min p i = min (p + 1) i by omega]
theorem xa_mk0 {post : St2 → Prop} {s n : Nat} {l : List Nat} (h : hk_h xK xS s l) (hs : s < 98) (g : hk_gt n l)
    (k : ∀ E' : Nat → Int32, (∀ i, i < l.length → E' i = nI (hk_dp l 0 i)) → post (xn, xc, xm, xd, xh, xA, xR, xK, xS, xY, xP, E')) :
    ∀ (d p : Nat) (E : Nat → Int32), p + d = l.length → (∀ i, i < p → E i = 0) → wX_markDepths_9 post (nI s) (nI l.length) xn xc xm xd xh (d + 1) (nI p) xA xR xK xS xY xP E := by
  have hl := g.2.1
  intro d
  induction d with
  | zero =>
    intro p E hp hE
    refine br_t (nI_le (by omega) (by omega)) ⟨_, xa_mk1 h hs g k l.length 0 E (by omega) (fun i hi => ?_)⟩
    rw [hE i (by omega), show min 0 i = 0 by omega]; rfl
  | succ d ih =>
    intro p E hp hE
    refine br_f (nI_ge (by omega) (by omega)) ⟨vp_in_nI (by omega) (by omega), nm_r (e' := upd E p 0) (by rw [nI_clamp (by omega)]) (nm_r (nI_1 _) ?_)⟩
    refine ih (p + 1) (upd E p 0) (by omega) (fun i hi => ?_)
    by_cases w : i = p
    · subst w; exact pk_us
    · rw [pk_un w]; exact hE i (by omega)
theorem xa_mark {post : St2 → Prop} {s n : Nat} {l : List Nat} (h : hk_h xK xS s l) (hs : s < 98) (g : hk_gt n l)
    (k : ∀ E' : Nat → Int32, (∀ i, i < l.length → E' i = nI (hk_dp l 0 i)) → post (xn, xc, xm, xd, xh, xA, xR, xK, xS, xY, xP, E')) : wpX_markDepths post (xn, xc, xm, xd, xh, xA, xR, xK, xS, xY, xP, xE) (nI s) :=
  ⟨vp_in_nI hs (by omega), nm_r (hk_sz h (by omega)) ⟨_, xa_mk0 h hs g k l.length 0 xE (by omega) (fun i hi => absurd hi (Nat.not_lt_zero i))⟩⟩
/-! abstraction -/
theorem xa_abs_l {post : St2 → Prop} {o v s f to vc : Nat} {l : List Nat} (ho : o < 98) (hs : s < 98) (hv32 : v < 32) (hso : s ≠ o) (hvo : v ≠ o) (hl : l.length ≤ 32) (hto : to ≤ l.length) (hc : ∀ c, c ∈ l → c < 524288) (hvc : vc < 524288)
    (hY : xY v = nI (vc % 256)) (hE : ∀ q, f ≤ q → q < to → xE q = nI (hk_dp l f q)) :
    ∀ (d p : Nat) (K S : Nat → Int32) (l0 : List Nat), p + d = to → f ≤ p → hk_h K S o l0 → hk_h K S s l → hk_h K S v [vc] → l0.length + d < 100000 →
      (∀ K' S' : Nat → Int32, hk_h K' S' o (l0 ++ hk_fm (fun q => [hk_ab1 l f vc q]) p d) → hk_fr (fun s => s = o) K S K' S' → post (xn, xc, xm, xd, xh, xA, xR, K', S', xY, xP, xE)) →
      wX_appendAbstraction_18 post (nI o) (nI v) (nI s) (nI to) (d + 1) (nI p) xn xc xm xd xh xA xR K S xY xP xE := by
  intro d
  induction d with
  | zero =>
    intro p K S l0 hp hf h hsrc hv hlen k
    refine br_t (nI_le (by omega) (by omega)) (k K S ?_ hk_fr_r)
    show hk_h K S o (l0 ++ [])
    rw [List.append_nil]; exact h
  | succ d ih =>
    intro p K S l0 hp hf h hsrc hv hlen k
    have pl : p < l.length := by omega
    have hxc := hc _ (hk_c_mem pl)
    have ev : K (nI v * 32).toNatClampNeg = nI vc := by
      rw [hk_ad0, nI_clamp (by omega)]
      exact hv.2 0 (Nat.zero_lt_one) (by decide)
    have go : ∀ y : Int32, y = nI (hk_ab1 l f vc p) → wX_appendAbstraction_76 post (wX_appendAbstraction_18 post (nI o) (nI v) (nI s) (nI to) (d + 1)) (nI o) (nI v) (nI s) (nI to) (nI p) y xn xc xm xd xh xA xR K S xY xP xE := by
      intro y hy
      refine xa_append (c := hk_ab1 l f vc p) ho h (by omega) hy (fun K1 S1 h1 f1 => ?_)
      refine nm_r (nI_1 _) ?_
      refine ih (p + 1) K1 S1 (l0 ++ [hk_ab1 l f vc p]) (by omega) (by omega) h1 (hk_fr_h f1 hso hsrc) (hk_fr_h f1 hvo hv) (by rw [hk_len1]; omega) (fun K2 S2 h2 f2 => k K2 S2 ?_ (hk_fr_t f1 f2))
      rw [hk_fm_l, ← List.append_assoc]; exact h2
    refine br_f (nI_ge (by omega) (by omega)) ⟨hk_vx hs (by omega), nm_r (hk_rd hsrc (by omega) pl (by omega)) ⟨by rw [hk_ad0]; exact vp_in_nI (by omega) (by omega), ?_⟩⟩
    rw [ev]
    refine pk_eq (hk_c l p) vc (fun e => ⟨vp_in_nI (by omega) (by omega), vp_in_nI (by omega) (by omega), nm_e (go _ ?_)⟩) (fun e => go _ ?_)
    · have hd := hk_dp_le l f p
      rw [nI_clamp (n := p) (by omega), nI_clamp (n := v) (by omega), hE p hf (by omega), hY]
      unfold hk_ab1
      rw [if_pos e, show (256 : Int32) = nI 256 from rfl, show (327680 : Int32) = nI 327680 from rfl, pk_mul, nI_add, nI_add]
    · unfold hk_ab1
      rw [if_neg e]
theorem xa_abs {post : St2 → Prop} {o v s f to vc n : Nat} {l l0 : List Nat} (ho : o < 98) (hs : s < 98) (hv32 : v < 32) (hso : s ≠ o) (hvo : v ≠ o) (g : hk_gt n l) (hf : f ≤ to) (hto : to ≤ l.length) (hvc : vc < 524288)
    (hY : xY v = nI (vc % 256)) (hE : ∀ q, f ≤ q → q < to → xE q = nI (hk_dp l f q)) (h : hk_h xK xS o l0) (hsrc : hk_h xK xS s l) (hv : hk_h xK xS v [vc]) (hlen : l0.length < 90000)
    (k : ∀ K S : Nat → Int32, hk_h K S o (l0 ++ hk_abl l f (to - f) vc) → hk_fr (fun s => s = o) xK xS K S → post (xn, xc, xm, xd, xh, xA, xR, K, S, xY, xP, xE)) : wpX_appendAbstraction post (xn, xc, xm, xd, xh, xA, xR, xK, xS, xY, xP, xE) (nI o) (nI v) (nI s) (nI f) (nI to) := by
  have hl := g.2.1
  refine ⟨vp_in_nI hv32 (by omega), ?_⟩
  refine xa_append (c := 262144 + vc % 256) ho h (by omega) ?_ (fun K1 S1 h1 f1 => ⟨to - f + 1, ?_⟩)
  · rw [nI_clamp (by omega), hY, show (262144 : Int32) = nI 262144 from rfl, nI_add]
  · refine xa_abs_l ho hs hv32 hso hvo hl hto (fun c hc => (g.2.2 c hc).1) hvc hY hE (to - f) f K1 S1 (l0 ++ [262144 + vc % 256]) (by omega) (Nat.le_refl _) h1 (hk_fr_h f1 hso hsrc) (hk_fr_h f1 hvo hv) (by rw [hk_len1]; omega) (fun K2 S2 h2 f2 => k K2 S2 ?_ (hk_fr_t f1 f2))
    rw [List.append_assoc] at h2; exact h2
/-! substitution -/
theorem xa_sub_l {post : St2 → Prop} {o v s t vc : Nat} {l u : List Nat} (ho : o < 98) (hs : s < 98) (hv98 : v < 98) (ht : t < 98) (hso : s ≠ o) (hvo : v ≠ o) (hto : t ≠ o) (hl : l.length ≤ 32) (hul : u.length ≤ 32) (hc : ∀ c, c ∈ l → c < 524288) (hvc : vc < 524288) :
    ∀ (d p : Nat) (K S : Nat → Int32) (l0 : List Nat), p + d = l.length → hk_h K S o l0 → hk_h K S s l → hk_h K S v [vc] → hk_h K S t u → l0.length + d * 32 < 80000 →
      (∀ K' S' : Nat → Int32, hk_h K' S' o (l0 ++ hk_fm (fun q => if hk_c l q = vc then u else [hk_c l q]) p d) → hk_fr (fun s => s = o) K S K' S' → post (xn, xc, xm, xd, xh, xA, xR, K', S', xY, xP, xE)) →
      wX_substitute_19 post (nI s) (nI v) (nI t) (nI o) (nI l.length) (d + 1) (nI p) xn xc xm xd xh xA xR K S xY xP xE := by
  intro d
  induction d with
  | zero =>
    intro p K S l0 hp h hsrc hv hu hlen k
    refine br_t (nI_le (by omega) (by omega)) (k K S ?_ hk_fr_r)
    show hk_h K S o (l0 ++ [])
    rw [List.append_nil]; exact h
  | succ d ih =>
    intro p K S l0 hp h hsrc hv hu hlen k
    have pl : p < l.length := by omega
    have hxc := hc _ (hk_c_mem pl)
    have ev : K (nI v * 32).toNatClampNeg = nI vc := by
      rw [hk_ad0, nI_clamp (by omega)]
      exact hv.2 0 (Nat.zero_lt_one) (by decide)
    refine br_f (nI_ge (by omega) (by omega)) ⟨hk_vx hs (by omega), nm_r (hk_rd hsrc (by omega) pl (by omega)) ⟨by rw [hk_ad0]; exact vp_in_nI (by omega) (by omega), ?_⟩⟩
    rw [ev]
    refine pk_eq (hk_c l p) vc (fun e => ⟨vp_in_nI ht (by omega), ?_⟩) (fun e => ?_)
    · refine xa_all ho ht hto hul h hu (by omega) (hk_sz hu (by omega)) (fun K1 S1 h1 f1 => ?_)
      refine nm_r (nI_1 _) ?_
      refine ih (p + 1) K1 S1 (l0 ++ u) (by omega) h1 (hk_fr_h f1 hso hsrc) (hk_fr_h f1 hvo hv) (hk_fr_h f1 hto hu) (by rw [List.length_append]; omega) (fun K2 S2 h2 f2 => k K2 S2 ?_ (hk_fr_t f1 f2))
      rw [hk_fm_l, ← List.append_assoc, if_pos e]; exact h2
    · refine xa_append (c := hk_c l p) ho h (by omega) rfl (fun K1 S1 h1 f1 => ?_)
      refine nm_r (nI_1 _) ?_
      refine ih (p + 1) K1 S1 (l0 ++ [hk_c l p]) (by omega) h1 (hk_fr_h f1 hso hsrc) (hk_fr_h f1 hvo hv) (hk_fr_h f1 hto hu) (by rw [hk_len1]; omega) (fun K2 S2 h2 f2 => k K2 S2 ?_ (hk_fr_t f1 f2))
      rw [hk_fm_l, ← List.append_assoc, if_neg e]; exact h2
theorem xa_sub {post : St2 → Prop} {o v s t vc n : Nat} {l u : List Nat} (ho : o < 98) (hs : s < 98) (hv98 : v < 98) (ht : t < 98) (hso : s ≠ o) (hvo : v ≠ o) (hto : t ≠ o) (g : hk_gt n l) (gu : hk_gt n u) (hvc : vc < 524288)
    (hsrc : hk_h xK xS s l) (hv : hk_h xK xS v [vc]) (hu : hk_h xK xS t u)
    (k : ∀ K S : Nat → Int32, hk_h K S o (hk_sb l vc u) → hk_fr (fun s => s = o) xK xS K S → post (xn, xc, xm, xd, xh, xA, xR, K, S, xY, xP, xE)) : wpX_substitute post (xn, xc, xm, xd, xh, xA, xR, xK, xS, xY, xP, xE) (nI s) (nI v) (nI t) (nI o) := by
  have hl := g.2.1
  have f0 : hk_fr (fun s => s = o) xK xS xK (upd xS o 0) := hk_fr_s
  refine ⟨vp_in_nI hs (by omega), nm_r (hk_sz hsrc (by omega)) ⟨vp_in_nI ho (by omega), nm_r (e' := upd xS o 0) (by rw [nI_clamp (by omega)]) ⟨l.length + 1, ?_⟩⟩⟩
  exact xa_sub_l ho hs hv98 ht hso hvo hto hl gu.2.1 (fun c hc => (g.2.2 c hc).1) hvc l.length 0 xK (upd xS o 0) [] (by omega) hk_h0 (hk_fr_h f0 hso hsrc) (hk_fr_h f0 hvo hv) (hk_fr_h f0 hto hu) (by show 0 + l.length * 32 < 80000; omega)
    (fun K2 S2 h2 f2 => k K2 S2 (by rw [List.nil_append] at h2; exact h2) (hk_fr_t f0 f2))
/-! contraction -/
theorem xa_lift_l {post : St2 → Prop} {o s f to lf : Nat} {l : List Nat} (ho : o < 98) (hs : s < 98) (hso : s ≠ o) (hl : l.length ≤ 32) (hto : to ≤ l.length) (hfe : to ≤ hk_e l f) (hc : ∀ c, c ∈ l → c < 524288) (hlf : lf ≤ 32)
    (hE : ∀ q, q < l.length → xE q = nI (hk_dp l 0 q)) (hff : f < l.length) :
    ∀ (d p : Nat) (K S : Nat → Int32) (l0 : List Nat), p + d = to → f ≤ p → hk_h K S o l0 → hk_h K S s l → l0.length + d < 100000 →
      (∀ K' S' : Nat → Int32, hk_h K' S' o (l0 ++ hk_fm (fun q => [hk_lf l f lf q]) p d) → hk_fr (fun s => s = o) K S K' S' → post (xn, xc, xm, xd, xh, xA, xR, K', S', xY, xP, xE)) →
      wX_appendLifted_3 post (nI o) (nI s) (nI f) (nI to) (nI lf) (d + 1) (nI p) xn xc xm xd xh xA xR K S xY xP xE := by
  intro d
  induction d with
  | zero =>
    intro p K S l0 hp hf h hsrc hlen k
    refine br_t (nI_le (by omega) (by omega)) (k K S ?_ hk_fr_r)
    show hk_h K S o (l0 ++ [])
    rw [List.append_nil]; exact h
  | succ d ih =>
    intro p K S l0 hp hf h hsrc hlen k
    have pl : p < l.length := by omega
    have hxc := hc _ (hk_c_mem pl)
    have hd := hk_dp_le l f p
    have ein : xE (nI p).toNatClampNeg - xE (nI f).toNatClampNeg = nI (hk_dp l f p) := by
      rw [nI_clamp (by omega), nI_clamp (by omega), hE p pl, hE f hff, hk_dp_sub hf (by omega), pk_sub (by omega), Nat.add_sub_cancel_left]
    have go : ∀ y : Int32, y = nI (hk_lf l f lf p) → wX_appendLifted_74 post (wX_appendLifted_3 post (nI o) (nI s) (nI f) (nI to) (nI lf) (d + 1)) (nI o) (nI s) (nI f) (nI to) (nI lf) (nI p) y xn xc xm xd xh xA xR K S xY xP xE := by
      intro y hy
      refine xa_append (c := hk_lf l f lf p) ho h (by omega) hy (fun K1 S1 h1 f1 => ?_)
      refine nm_r (nI_1 _) ?_
      refine ih (p + 1) K1 S1 (l0 ++ [hk_lf l f lf p]) (by omega) (by omega) h1 (hk_fr_h f1 hso hsrc) (by rw [hk_len1]; omega) (fun K2 S2 h2 f2 => k K2 S2 ?_ (hk_fr_t f1 f2))
      rw [hk_fm_l, ← List.append_assoc]; exact h2
    refine br_f (nI_ge (by omega) (by omega)) ⟨hk_vx hs (by omega), nm_r (hk_rd hsrc (by omega) pl (by omega)) ⟨vp_in_nI (by omega) (by omega), vp_in_nI (by omega) (by omega), nm_r ein ?_⟩⟩
    refine xa_kind hsrc hs pl (by omega) hxc ?_
    refine pk_eq (hk_c l p / 65536) 5 (fun e => ?_) (fun e => go _ ?_)
    · refine xa_index hsrc hs pl (by omega) hxc ?_
      refine pk_lt (hk_c l p / 256 % 256) (hk_dp l f p) (fun z => go _ ?_) (fun z => nm_e (go _ ?_))
      · unfold hk_lf
        rw [if_neg (fun y => by omega)]
      · unfold hk_lf
        rw [if_pos ⟨e, z⟩, show (256 : Int32) = nI 256 from rfl, pk_mul, nI_add]
    · unfold hk_lf
      rw [if_neg (fun y => e y.1)]
theorem xa_con_l {post : St2 → Prop} {o s b a r n : Nat} {l : List Nat} (ho : o < 98) (hs : s < 98) (hso : s ≠ o) (g : hk_gt n l) (hb : b < l.length) (hae : a = hk_e l b) (ha : a < l.length) (har : a ≤ r) (hre : r = hk_e l a) (hr : r ≤ l.length)
    (hE : ∀ q, q < l.length → xE q = nI (hk_dp l 0 q)) :
    ∀ (d p : Nat) (K S : Nat → Int32) (l0 : List Nat), p + d = a → b ≤ p → hk_h K S o l0 → hk_h K S s l → l0.length + d * 32 < 80000 →
      (∀ K' S' : Nat → Int32, hk_h K' S' o (l0 ++ hk_fm (hk_cb l b a r) p d ++ hk_fm (fun q => [hk_c l q]) r (l.length - r)) → hk_fr (fun s => s = o) K S K' S' → post (xn, xc, xm, xd, xh, xA, xR, K', S', xY, xP, xE)) →
      wX_contract_47 post (nI s) (nI o) (nI b) (nI a) (nI r) (d + 1) (nI p) xn xc xm xd xh xA xR K S xY xP xE := by
  have hl := g.2.1
  have hc : ∀ c, c ∈ l → c < 524288 := fun c hc => (g.2.2 c hc).1
  intro d
  induction d with
  | zero =>
    intro p K S l0 hp hf h hsrc hlen k
    refine br_t (nI_le (by omega) (by omega)) ⟨vp_in_nI hs (by omega), ?_⟩
    rw [hk_sz hsrc (by omega)]
    refine xa_run ho hs hso hr (Nat.le_refl _) hl h hsrc (by omega) (fun K1 S1 h1 f1 => k K1 S1 ?_ f1)
    show hk_h K1 S1 o (l0 ++ [] ++ _)
    rw [List.append_nil]; exact h1
  | succ d ih =>
    intro p K S l0 hp hf h hsrc hlen k
    have pl : p < l.length := by omega
    have hxc := hc _ (hk_c_mem pl)
    have hd := hk_dp_le l b p
    have ein : xE (nI p).toNatClampNeg - xE (nI b).toNatClampNeg = nI (hk_dp l b p) := by
      rw [nI_clamp (by omega), nI_clamp (by omega), hE p pl, hE b hb, hk_dp_sub hf (by omega), pk_sub (by omega), Nat.add_sub_cancel_left]
    have next : ∀ (K1 S1 : Nat → Int32) (w : List Nat), hk_cb l b a r p = w → w.length ≤ 32 → hk_h K1 S1 o (l0 ++ w) → hk_fr (fun s => s = o) K S K1 S1 → wX_contract_47 post (nI s) (nI o) (nI b) (nI a) (nI r) (d + 1) (nI (p + 1)) xn xc xm xd xh xA xR K1 S1 xY xP xE := by
      intro K1 S1 w ew hw h1 f1
      refine ih (p + 1) K1 S1 (l0 ++ w) (by omega) (by omega) h1 (hk_fr_h f1 hso hsrc) (by rw [List.length_append]; omega) (fun K2 S2 h2 f2 => k K2 S2 ?_ (hk_fr_t f1 f2))
      rw [hk_fm_l, ew, ← List.append_assoc]; exact h2
    have one : ∀ (P : St2 → Prop) (y : Int32) (c : Nat), (∀ K1 S1 : Nat → Int32, wX_contract_47 post (nI s) (nI o) (nI b) (nI a) (nI r) (d + 1) (nI (p + 1)) xn xc xm xd xh xA xR K1 S1 xY xP xE → P (xn, xc, xm, xd, xh, xA, xR, K1, S1, xY, xP, xE)) → y = nI c → hk_cb l b a r p = [c] → wpX_append P (xn, xc, xm, xd, xh, xA, xR, K, S, xY, xP, xE) (nI o) y := by
      intro P y c hP hy ew
      exact xa_append (c := c) ho h (by omega) hy (fun K1 S1 h1 f1 => hP K1 S1 (next K1 S1 [c] ew (by show 1 ≤ 32; decide) h1 f1))
    refine br_f (nI_ge (by omega) (by omega)) ⟨hk_vx hs (by omega), nm_r (hk_rd hsrc (by omega) pl (by omega)) ⟨vp_in_nI (by omega) (by omega), vp_in_nI (by omega) (by omega), nm_r ein ?_⟩⟩
    refine xa_kind hsrc hs pl (by omega) hxc ?_
    refine pk_eq (hk_c l p / 65536) 5 (fun e => ?_) (fun e => ?_)
    · refine xa_index hsrc hs pl (by omega) hxc ?_
      refine br_f (by decide) ?_
      refine pk_eq (hk_c l p / 256 % 256) (hk_dp l b p) (fun e2 => ⟨r - a + 1, ?_⟩) (fun e2 => ?_)
      · refine xa_lift_l ho hs hso hl hr (Nat.le_of_eq hre) hc (by omega) hE ha (r - a) a K S l0 (by omega) (Nat.le_refl _) h hsrc (by omega) (fun K1 S1 h1 f1 => ?_)
        refine nm_r (nI_1 _) (next K1 S1 _ ?_ ?_ h1 f1)
        · unfold hk_cb; rw [if_pos ⟨e, e2⟩]
        · rw [hk_fm_len]; omega
      · refine br_f (by decide) ?_
        refine pk_le (hk_c l p / 256 % 256) (hk_dp l b p) (fun z => ?_) (fun z => ?_)
        · exact one _ _ _ (fun K1 S1 q => nm_r (nI_1 _) q) rfl (by unfold hk_cb; rw [if_neg (fun y => e2 y.2), if_neg (fun y => by omega)])
        · exact one _ _ (hk_c l p - 256) (fun K1 S1 q => nm_r (nI_1 _) q) (pk_sub (b := 256) (by omega)) (by unfold hk_cb; rw [if_neg (fun y => e2 y.2), if_pos ⟨e, z⟩])
    · refine xa_index hsrc hs pl (by omega) hxc ?_
      refine br_t rfl (br_t rfl ?_)
      exact one _ _ _ (fun K1 S1 q => nm_r (nI_1 _) q) rfl (by unfold hk_cb; rw [if_neg (fun y => e y.1), if_neg (fun y => e y.1)])
theorem xa_contract {post : St2 → Prop} {o s r n : Nat} {l : List Nat} (ho : o < 98) (hs : s < 98) (hso : s ≠ o) (g : hk_gt n l) (hr : hk_rx l r) (hsrc : hk_h xK xS s l)
    (k : ∀ K S E : Nat → Int32, hk_h K S o (hk_con l r) → hk_fr (fun s => s = o) xK xS K S → post (xn, xc, xm, xd, xh, xA, xR, K, S, xY, xP, E)) : wpX_contract post (xn, xc, xm, xd, xh, xA, xR, xK, xS, xY, xP, xE) (nI s) (nI r) (nI o) := by
  have hl := g.2.1
  have hc : ∀ c, c ∈ l → c < 524288 := fun c hc => (g.2.2 c hc).1
  obtain ⟨m, t1, t2, t3, t4, o1, o2, s1, s2⟩ := hk_rx_at g.1 hr
  have w2 := hk_at_lt t2
  have w3 := hk_at_lt t3
  have w4 := t4.1
  have e2 : nI r + 2 = nI (r + 2) := nI_add r 2
  refine nm_r e2 ?_
  refine xa_end hsrc hs hl hc t2 ?_
  refine xa_end hsrc hs hl hc t3 ?_
  refine xa_mark hsrc hs g (fun E hE => ?_)
  refine ⟨vp_in_nI ho (by omega), nm_r (e' := upd xS o 0) (by rw [nI_clamp (by omega)]) ?_⟩
  have f0 : hk_fr (fun s => s = o) xK xS xK (upd xS o 0) := hk_fr_s
  refine xa_run (p := 0) ho hs hso (Nat.zero_le r) (by omega) hl hk_h0 (hk_fr_h f0 hso hsrc) (by decide) (fun K1 S1 h1 f1 => ⟨hk_e l (r + 2) - (r + 2) + 1, ?_⟩)
  rw [List.nil_append, Nat.sub_zero] at h1
  have f01 := hk_fr_t f0 f1
  refine xa_con_l ho hs hso g w2 rfl w3 (by omega) rfl w4 hE (hk_e l (r + 2) - (r + 2)) (r + 2) K1 S1 _ (by omega) (Nat.le_refl _) h1 (hk_fr_h f01 hso hsrc) (by rw [hk_fm_len]; omega) (fun K2 S2 h2 f2 => ?_)
  exact k K2 S2 E h2 (hk_fr_t f01 f2)
/-! copies and equations -/
theorem xa_copy_l {post : St2 → Prop} {s o : Nat} {l : List Nat} {S : Nat → Int32} (ho : o < 98) (hs : s < 98) (hso : s ≠ o) (hl : l.length ≤ 32) (hS : S o = nI l.length) (K0 S0 : Nat → Int32)
    (k : ∀ K' : Nat → Int32, hk_h K' S o l → hk_fr (fun s => s = o) K0 S0 K' S → post (xn, xc, xm, xd, xh, xA, xR, K', S, xY, xP, xE)) :
    ∀ (d p : Nat) (K : Nat → Int32), p + d = l.length → hk_h K S s l → (∀ i, i < p → K (o * 32 + i) = nI (hk_c l i)) → hk_fr (fun s => s = o) K0 S0 K S → wX_copyTerm_17 post (nI s) (nI o) (nI l.length) xn xc xm xd xh (d + 1) (nI p) xA xR K S xY xP xE := by
  intro d
  induction d with
  | zero =>
    intro p K hp h hd f
    exact br_t (nI_le (by omega) (by omega)) (k K ⟨hS, fun i hi _ => hd i (by omega)⟩ f)
  | succ d ih =>
    intro p K hp h hd f
    refine br_f (nI_ge (by omega) (by omega)) ⟨hk_vx hs (by omega), hk_vx ho (by omega), nm_r (e' := upd K (o * 32 + p) (nI (hk_c l p))) (by rw [hk_rd h (by omega) (by omega) (by omega), hk_ad, nI_clamp (by omega)]) (nm_r (nI_1 _) ?_)⟩
    refine ih (p + 1) _ (by omega) ⟨h.1, fun i hi h32 => ?_⟩ (fun i hi => ?_) (fun t ht => ⟨(f t ht).1, fun i hi => ?_⟩)
    · rw [pk_un (by omega)]; exact h.2 i hi h32
    · by_cases w : i = p
      · subst w; exact pk_us
      · rw [pk_un (by omega)]; exact hd i (by omega)
    · rw [pk_un (by have : t ≠ o := ht; omega)]; exact (f t ht).2 i hi
theorem xa_copy {post : St2 → Prop} {s o : Nat} {l : List Nat} (ho : o < 98) (hs : s < 98) (hso : s ≠ o) (hl : l.length ≤ 32) (h : hk_h xK xS s l)
    (k : ∀ K S : Nat → Int32, hk_h K S o l → hk_fr (fun s => s = o) xK xS K S → post (xn, xc, xm, xd, xh, xA, xR, K, S, xY, xP, xE)) : wpX_copyTerm post (xn, xc, xm, xd, xh, xA, xR, xK, xS, xY, xP, xE) (nI s) (nI o) := by
  refine ⟨vp_in_nI hs (by omega), nm_r (hk_sz h (by omega)) ⟨vp_in_nI ho (by omega), nm_r (e' := upd xS o (nI l.length)) (by rw [nI_clamp (by omega)]) ⟨l.length + 1, ?_⟩⟩⟩
  have f0 : hk_fr (fun s => s = o) xK xS xK (upd xS o (nI l.length)) := hk_fr_s
  exact xa_copy_l ho hs hso hl pk_us xK xS (fun K' => k K' _) l.length 0 xK (by omega) (hk_fr_h f0 hso h) (fun i hi => absurd hi (Nat.not_lt_zero i)) f0
theorem xa_start {post : St2 → Prop} {o a : Nat} (ho : o < 98)
    (k : ∀ K S : Nat → Int32, hk_h K S o [196608, 196608, 131072 + a] → hk_fr (fun s => s = o) xK xS K S → post (xn, xc, xm, xd, xh, xA, xR, K, S, xY, xP, xE)) : wpX_startEquation post (xn, xc, xm, xd, xh, xA, xR, xK, xS, xY, xP, xE) (nI o) (nI a) := by
  refine ⟨vp_in_nI ho (by omega), nm_r (e' := upd xS o 0) (by rw [nI_clamp (by omega)]) ?_⟩
  have f0 : hk_fr (fun s => s = o) xK xS xK (upd xS o 0) := hk_fr_s
  refine xa_append (c := 196608) (l := []) ho hk_h0 (by decide) rfl (fun K1 S1 h1 f1 => ?_)
  refine xa_append (c := 196608) (l := [196608]) ho h1 (by decide) rfl (fun K2 S2 h2 f2 => ?_)
  refine xa_append (c := 131072 + a) (l := [196608, 196608]) ho h2 (by decide) (nI_add 131072 a) (fun K3 S3 h3 f3 => ?_)
  exact k K3 S3 h3 (hk_fr_t (hk_fr_t (hk_fr_t f0 f1) f2) f3)
end
