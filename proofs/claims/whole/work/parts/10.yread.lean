/-! the reference: what only reads -/
section
variable {y1 y2 y3 y4 y5 yn ym yh yc yd yw yl yk ye yp yq yr ys : Int32} {yM yL yY yA yR yP : Nat → Int32}
theorem ya_nd {post : Int32 → Prop} {s p : Nat} {l : List Nat} {y : Int32} (h : hk_hy yM yL s l) (hs : s < 110) (hp : p < l.length) (h32 : p < 32) (k : post (nI (hk_c l p))) (hy : y = nI p := by rfl) : wpY_nd post (y1, y2, y3, y4, y5, yn, ym, yh, yc, yd, yw, yl, yk, ye, yp, yq, yr, ys, yM, yL, yY, yA, yR, yP) (nI s) y := by
  subst hy
  refine br_f (nI_pos (by omega)) (br_f (nI_ge (b := 110) hs (by omega)) (br_f (nI_pos (by omega)) (br_t (nI_lt (b := 32) h32 (by omega)) ⟨hk_vy hs h32, ?_⟩)))
  rw [hk_rdy h hs hp h32]; exact k
theorem ya_slot {post : Int32 → Prop} (t p : Nat) (k : post (nI (32 + t * 4 + p))) : wpY_thSlot post (y1, y2, y3, y4, y5, yn, ym, yh, yc, yd, yw, yl, yk, ye, yp, yq, yr, ys, yM, yL, yY, yA, yR, yP) (nI t) (nI p) := by
  unfold wpY_thSlot
  dsimp only
  rw [hk_ps]; exact k
theorem ya_span_l {post : Int32 → Prop} {s p : Nat} {l : List Nat} (h : hk_hy yM yL s l) (hs : s < 110) (hl : l.length ≤ 32) (hc : ∀ c, c ∈ l → c < 524288) (hp : p ≤ 32) :
    ∀ (d q m b : Nat), q + d = l.length → p ≤ q → hk_run (m + b) (l.drop q) = some 0 → post (nI (q + hk_spn m (l.drop q) - p)) → wY_span_5 post (nI s) (nI p) y1 y2 y3 y4 y5 yn ym yh yc yd yw yl yk ye yp yq yr ys yM yL yY yA yR yP (d + 1) (nI m) (nI q) := by
  intro d
  induction d with
  | zero =>
    intro q m b hq hpq hr k
    rw [List.drop_of_length_le (by omega), hk_run_nil] at hr
    have m0 : m = 0 := by have := Option.some.inj hr; omega
    subst m0
    rw [hk_spn_0, Nat.add_zero] at k
    refine br_t (nI_le (b := 0) (by omega) (by omega)) ?_
    rw [pk_sub hpq]; exact k
  | succ d ih =>
    intro q m b hq hpq hr k
    cases m with
    | zero =>
      rw [hk_spn_0, Nat.add_zero] at k
      refine br_t (nI_le (b := 0) (by omega) (by omega)) ?_
      rw [pk_sub hpq]; exact k
    | succ m =>
      have ql : q < l.length := by omega
      have hcq := hc _ (hk_c_mem ql)
      rw [hk_c_drop ql, show m + 1 + b = (m + b) + 1 by omega, hk_run_s] at hr
      rw [hk_c_drop ql, hk_spn_s] at k
      refine br_f (nI_ge (b := m + 1) (a := 0) (by omega) (by have := hk_run_len hr; have := List.length_drop (i := q + 1) (l := l); omega)) (br_f (nI_ge (b := 32) (by omega) (by omega)) ?_)
      refine ya_nd h hs ql (by omega) ⟨by decide, nm_r (hk_kd hcq) (nm_r (pk_m1 _) ?_)⟩
      refine pk_eq (hk_c l q / 65536) 3 (fun e => nm_r (nI_add m 2) ?_) (fun e => ?_)
      · rw [hk_ar_3 e] at hr k
        refine pk_eq (hk_c l q / 65536) 4 (fun e4 => by omega) (fun e4 => nm_r (nI_1 _) ?_)
        exact ih (q + 1) (m + 2) b (by omega) (by omega) (by rw [show m + 2 + b = m + b + 2 by omega]; exact hr) (by rw [show q + 1 + hk_spn (m + 2) (l.drop (q + 1)) = q + (hk_spn (m + 2) (l.drop (q + 1)) + 1) by omega]; exact k)
      · refine pk_eq (hk_c l q / 65536) 4 (fun e4 => nm_r (nI_1 _) (nm_r (nI_1 _) ?_)) (fun e4 => nm_r (nI_1 _) ?_)
        · rw [hk_ar_4 e4] at hr k
          exact ih (q + 1) (m + 1) b (by omega) (by omega) (by rw [show m + 1 + b = m + b + 1 by omega]; exact hr) (by rw [show q + 1 + hk_spn (m + 1) (l.drop (q + 1)) = q + (hk_spn (m + 1) (l.drop (q + 1)) + 1) by omega]; exact k)
        · rw [hk_ar_k rfl e e4, Nat.add_zero] at hr k
          exact ih (q + 1) m b (by omega) (by omega) hr (by rw [show q + 1 + hk_spn m (l.drop (q + 1)) = q + (hk_spn m (l.drop (q + 1)) + 1) by omega]; exact k)
theorem ya_span {post : Int32 → Prop} {s p n : Nat} {l : List Nat} {y : Int32} (h : hk_hy yM yL s l) (hs : s < 110) (hl : l.length ≤ 32) (hc : ∀ c, c ∈ l → c < 524288) (ha : hk_at l p (n + 1)) (k : post (nI (hk_e l p - p))) (hy : y = nI p := by rfl) : wpY_span post (y1, y2, y3, y4, y5, yn, ym, yh, yc, yd, yw, yl, yk, ye, yp, yq, yr, ys, yM, yL, yY, yA, yR, yP) (nI s) y := by
  subst hy
  have w := hk_at_lt ha
  exact ⟨_, ya_span_l h hs hl hc (by omega) (l.length - p) p 1 n (by omega) (Nat.le_refl _) (by rw [Nat.add_comm]; exact ha.2) k⟩
theorem ya_depth_l {post : Int32 → Prop} {s st p n : Nat} {l : List Nat} (h : hk_hy yM yL s l) (hs : s < 110) (g : hk_gt n l) (hp : p < l.length) (k : post (nI (hk_dp l st p))) :
    ∀ (d q : Nat), q + d = p → st ≤ q → wY_depth_6 post (nI s) (nI p) y1 y2 y3 y4 y5 yn ym yh yc yd yw yl yk ye yp yq yr ys yM yL yY yA yR yP (d + 1) (nI (hk_dn l p st (q - st))) (nI q) := by
  have hl := g.2.1
  intro d
  induction d with
  | zero =>
    intro q hq hst
    have e : q = p := by omega
    subst e
    exact br_t (nI_le (Nat.le_refl _) (by omega)) k
  | succ d ih =>
    intro q hq hst
    have ql : q < l.length := by omega
    have hcq := (hk_gt_c g ql).1
    have hd := hk_dn_le l p st (q - st)
    have st1 : hk_dn l p st (q + 1 - st) = hk_dn l p st (q - st) + (if hk_c l q / 65536 = 4 ∧ p < hk_e l q then 1 else 0) := by
      rw [show q + 1 - st = (q - st) + 1 by omega]
      show hk_dn l p st (q - st) + (if hk_c l (st + (q - st)) / 65536 = 4 ∧ p < hk_e l (st + (q - st)) then 1 else 0) = _
      rw [show st + (q - st) = q by omega]
    have ihq := ih (q + 1) (by omega) (by omega)
    rw [st1] at ihq
    refine br_f (nI_ge (by omega) (by omega)) (br_f (nI_ge (b := 32) (by omega) (by omega)) ?_)
    refine ya_nd h hs ql (by omega) ⟨by decide, ?_⟩
    rw [hk_kd hcq]
    refine pk_eq (hk_c l q / 65536) 4 (fun e => ?_) (fun e => nm_r (nI_1 _) ?_)
    · obtain ⟨m, -, ha⟩ := hk_at_ex g.1 ql
      have he := hk_at_end ha
      have he2 := he.2.1.1
      refine ya_span h hs hl (fun c hc => (g.2.2 c hc).1) ha ?_
      rw [nI_add, show q + (hk_e l q - q) = hk_e l q by omega]
      refine pk_le (hk_e l q) p (fun z => nm_r (nI_1 _) ?_) (fun z => nm_r (nI_1 _) (nm_r (nI_1 _) ?_))
      · rw [if_neg (fun y => by omega)] at ihq; exact ihq
      · rw [if_pos ⟨e, z⟩] at ihq; exact ihq
    · rw [if_neg (fun y => e y.1)] at ihq; exact ihq
theorem ya_depth {post : Int32 → Prop} {s st p n : Nat} {l : List Nat} {y : Int32} (h : hk_hy yM yL s l) (hs : s < 110) (g : hk_gt n l) (hst : st ≤ p) (hp : p < l.length) (k : post (nI (hk_dp l st p))) (hy : y = nI p := by rfl) : wpY_depth post (y1, y2, y3, y4, y5, yn, ym, yh, yc, yd, yw, yl, yk, ye, yp, yq, yr, ys, yM, yL, yY, yA, yR, yP) (nI s) (nI st) y := by
  subst hy
  have q : wY_depth_6 post (nI s) (nI p) y1 y2 y3 y4 y5 yn ym yh yc yd yw yl yk ye yp yq yr ys yM yL yY yA yR yP (p - st + 1) (nI (hk_dn l p st (st - st))) (nI st) := ya_depth_l h hs g hp k (p - st) st (by omega) (Nat.le_refl _)
  rw [Nat.sub_self] at q
  exact ⟨_, q⟩
theorem ya_cmp_l {post : Int32 → Prop} {s o oa ob : Nat} {a b a' b' : List Nat} (ha : hk_hy yM yL s a) (hb : hk_hy yM yL o b) (hs : s < 110) (ho : o < 110) (la : a.length ≤ 32) (lb : b.length ≤ 32) (ca : ∀ c, c ∈ a' → c < 524288) (cb : ∀ c, c ∈ b' → c < 524288)
    (hla : oa + a'.length ≤ a.length) (hlb : ob + b'.length ≤ b.length) (ea : ∀ i, i < a'.length → hk_c a (oa + i) = hk_c a' i) (eb : ∀ i, i < b'.length → hk_c b (ob + i) = hk_c b' i) :
    ∀ (d i : Nat), i + d = 32 → i ≤ a'.length → i ≤ b'.length → (∀ r : Int32, (r < 0 ↔ hk_lt (a'.drop i) (b'.drop i) = true) → (r = 0 ↔ a'.drop i = b'.drop i) → post r) →
      wY_cmp_3 post (nI s) (nI oa) (nI a'.length) (nI o) (nI ob) (nI b'.length) y1 y2 y3 y4 y5 yn ym yh yc yd yw yl yk ye yp yq yr ys yM yL yY yA yR yP (d + 1) (nI i) := by
  have fin : ∀ i, i ≤ a'.length → i ≤ b'.length → i = a'.length ∨ i = b'.length → (∀ r : Int32, (r < 0 ↔ hk_lt (a'.drop i) (b'.drop i) = true) → (r = 0 ↔ a'.drop i = b'.drop i) → post r) → wY_cmp_23 post (nI a'.length) (nI b'.length) y1 y2 y3 y4 y5 yn ym yh yc yd yw yl yk ye yp yq yr ys yM yL yY yA yR yP := by
    intro i h1 h2 h3 k
    refine pk_le b'.length a'.length (fun z => pk_le a'.length b'.length (fun z2 => ?_) (fun z2 => ?_)) (fun z => ?_)
    · rw [List.drop_of_length_le (by omega), List.drop_of_length_le (by omega)] at k
      exact k 0 ⟨fun q => absurd q (by decide), fun q => absurd q (by decide)⟩ ⟨fun _ => rfl, fun _ => rfl⟩
    · rw [List.drop_of_length_le (l := b') (by omega), hk_c_drop (l := a') (p := i) (by omega)] at k
      exact k 1 ⟨fun q => absurd q (by decide), fun q => by rw [hk_lt_n] at q; cases q⟩ ⟨fun q => absurd q (by decide), fun q => by cases q⟩
    · rw [List.drop_of_length_le (l := a') (by omega), hk_c_drop (l := b') (p := i) (by omega)] at k
      exact k (-1) ⟨fun _ => hk_lt_e _ _, fun _ => by decide⟩ ⟨fun q => absurd q (by decide), fun q => by cases q⟩
  intro d
  induction d with
  | zero =>
    intro i hi h1 h2 k
    rw [List.drop_of_length_le (by omega), List.drop_of_length_le (by omega)] at k
    exact br_t (nI_le (a := 32) (by omega) (by omega)) (k 0 ⟨fun q => absurd q (by decide), fun q => absurd q (by decide)⟩ ⟨fun _ => rfl, fun _ => rfl⟩)
  | succ d ih =>
    intro i hi h1 h2 k
    refine br_f (nI_ge (b := 32) (by omega) (by omega)) ?_
    refine pk_le a'.length i (fun z => fin i h1 h2 (Or.inl (by omega)) k) (fun za => ?_)
    refine pk_lt i b'.length (fun zb => ?_) (fun z => fin i h1 h2 (Or.inr (by omega)) k)
    have xa := ca _ (hk_c_mem za)
    have xb := cb _ (hk_c_mem zb)
    refine ya_nd ha hs (p := oa + i) (by omega) (by omega) ?_ (nI_add _ _)
    refine ya_nd hb ho (p := ob + i) (by omega) (by omega) ?_ (nI_add _ _)
    rw [ea i za, eb i zb]
    rw [hk_c_drop za, hk_c_drop zb] at k
    generalize hk_c a' i = x at k xa
    generalize hk_c b' i = y at k xb
    refine pk_eq x y (fun e => nm_r (nI_1 _) ?_) (fun e => ?_)
    · subst e
      refine ih (i + 1) (by omega) za zb (fun r q1 q2 => k r ?_ ?_)
      · rw [hk_lt_c, if_neg (Nat.lt_irrefl x), if_neg (Nat.lt_irrefl x)]; exact q1
      · rw [q2]
        exact ⟨fun q => by rw [q], fun q => (List.cons.inj q).2⟩
    · refine pk_le y x (fun z => ?_) (fun z => ?_)
      · refine k 1 ⟨fun q => absurd q (by decide), fun q => ?_⟩ ⟨fun q => absurd q (by decide), fun q => absurd (List.cons.inj q).1 e⟩
        rw [hk_lt_c, if_neg (by omega), if_pos (by omega)] at q; cases q
      · refine k (-1) ⟨fun _ => ?_, fun _ => by decide⟩ ⟨fun q => absurd q (by decide), fun q => absurd (List.cons.inj q).1 e⟩
        rw [hk_lt_c, if_pos z]
/-- comparing two whole terms -/
theorem ya_cmp {post : Int32 → Prop} {s o n m : Nat} {a b : List Nat} {y z : Int32} (ha : hk_hy yM yL s a) (hb : hk_hy yM yL o b) (hs : s < 110) (ho : o < 110) (ga : hk_gt n a) (gb : hk_gt m b) (hy : y = nI a.length) (hz : z = nI b.length)
    (k : ∀ r : Int32, (r < 0 ↔ hk_lt a b = true) → (r = 0 ↔ a = b) → post r) : wpY_cmp post (y1, y2, y3, y4, y5, yn, ym, yh, yc, yd, yw, yl, yk, ye, yp, yq, yr, ys, yM, yL, yY, yA, yR, yP) (nI s) 0 y (nI o) 0 z := by
  subst hy hz
  exact ⟨_, ya_cmp_l (oa := 0) (ob := 0) ha hb hs ho ga.2.1 gb.2.1 (fun c hc => (ga.2.2 c hc).1) (fun c hc => (gb.2.2 c hc).1) (by omega) (by omega) (fun i _ => by rw [Nat.zero_add]) (fun i _ => by rw [Nat.zero_add]) 32 0 (by omega) (by omega) (by omega) k⟩
/-- comparing two pieces -/
theorem ya_cmpp {post : Int32 → Prop} {s o n m oa ob na nb : Nat} {a b : List Nat} {y z : Int32} (ha : hk_hy yM yL s a) (hb : hk_hy yM yL o b) (hs : s < 110) (ho : o < 110) (ga : hk_gt n a) (gb : hk_gt m b) (hna : oa + na ≤ a.length) (hnb : ob + nb ≤ b.length) (hy : y = nI na) (hz : z = nI nb)
    (k : ∀ r : Int32, (r = 0 ↔ (a.drop oa).take na = (b.drop ob).take nb) → post r) : wpY_cmp post (y1, y2, y3, y4, y5, yn, ym, yh, yc, yd, yw, yl, yk, ye, yp, yq, yr, ys, yM, yL, yY, yA, yR, yP) (nI s) (nI oa) y (nI o) (nI ob) z := by
  subst hy hz
  have la : ((a.drop oa).take na).length = na := by rw [List.length_take, List.length_drop]; omega
  have lb : ((b.drop ob).take nb).length = nb := by rw [List.length_take, List.length_drop]; omega
  have ea : ∀ i, i < na → hk_c a (oa + i) = hk_c ((a.drop oa).take na) i := fun i hi => (hk_c_sub hi).symm
  have eb : ∀ i, i < nb → hk_c b (ob + i) = hk_c ((b.drop ob).take nb) i := fun i hi => (hk_c_sub hi).symm
  have ca : ∀ c, c ∈ (a.drop oa).take na → c < 524288 := fun c hc => (ga.2.2 c (List.mem_of_mem_drop (List.mem_of_mem_take hc))).1
  have cb : ∀ c, c ∈ (b.drop ob).take nb → c < 524288 := fun c hc => (gb.2.2 c (List.mem_of_mem_drop (List.mem_of_mem_take hc))).1
  generalize (a.drop oa).take na = a' at k la ea ca
  generalize (b.drop ob).take nb = b' at k lb eb cb
  subst la lb
  exact ⟨_, ya_cmp_l ha hb hs ho ga.2.1 gb.2.1 ca cb hna hnb ea eb 32 0 (by omega) (by omega) (by omega) (fun r _ h2 => k r h2)⟩
theorem ya_has_l {post : Int32 → Prop} {s vc n : Nat} {l : List Nat} (h : hk_hy yM yL s l) (hs : s < 110) (g : hk_gt n l) (hvc : vc < 524288) :
    ∀ (d p : Nat), p + d = l.length → (vc ∈ l.drop p → post 1) → (¬ vc ∈ l.drop p → post 0) → wY_contains_2 post (nI s) (nI vc) y1 y2 y3 y4 y5 yn ym yh yc yd yw yl yk ye yp yq yr ys yM yL yY yA yR yP (d + 1) (nI p) := by
  have hl := g.2.1
  intro d
  induction d with
  | zero =>
    intro p hp k1 k0
    refine ⟨vp_in_nI hs (by omega), ?_⟩
    rw [hk_szy h hs hl]
    refine br_t (nI_le (by omega) (by omega)) (k0 ?_)
    rw [List.drop_of_length_le (by omega)]
    exact List.not_mem_nil
  | succ d ih =>
    intro p hp k1 k0
    have pp : p < l.length := by omega
    have xc := (hk_gt_c g pp).1
    rw [hk_c_drop pp] at k1 k0
    refine ⟨vp_in_nI hs (by omega), ?_⟩
    rw [hk_szy h hs hl]
    refine br_f (nI_ge (by omega) (by omega)) (br_f (nI_ge (b := 32) (by omega) (by omega)) ?_)
    refine ya_nd h hs pp (by omega) ?_
    refine pk_eq (hk_c l p) vc (fun e => k1 (by rw [e]; exact List.mem_cons_self)) (fun e => nm_r (nI_1 _) ?_)
    refine ih (p + 1) (by omega) (fun z => k1 (List.mem_cons_of_mem _ z)) (fun z => k0 (fun q => ?_))
    rcases List.mem_cons.mp q with q | q
    · exact e q.symm
    · exact z q
theorem ya_has {post : Int32 → Prop} {s vc n : Nat} {l : List Nat} (h : hk_hy yM yL s l) (hs : s < 110) (g : hk_gt n l) (hvc : vc < 524288) (k1 : vc ∈ l → post 1) (k0 : ¬ vc ∈ l → post 0) : wpY_contains post (y1, y2, y3, y4, y5, yn, ym, yh, yc, yd, yw, yl, yk, ye, yp, yq, yr, ys, yM, yL, yY, yA, yR, yP) (nI s) (nI vc) :=
  ⟨_, ya_has_l h hs g hvc l.length 0 (by omega) k1 k0⟩
theorem ya_lr_l {post : Int32 → Prop} {s n : Nat} {l : List Nat} (h : hk_hy yM yL s l) (hs : s < 110) (g : hk_gt n l) :
    ∀ (d p : Nat), p + d = l.length → post (hk_o (hk_lr l d p)) → wY_findRedex_2 post (nI s) y1 y2 y3 y4 y5 yn ym yh yc yd yw yl yk ye yp yq yr ys yM yL yY yA yR yP (d + 1) (nI p) := by
  have hl := g.2.1
  intro d
  induction d with
  | zero =>
    intro p hp k
    refine ⟨vp_in_nI hs (by omega), ?_⟩
    rw [hk_szy h hs hl, nI_1]
    exact br_t (nI_le (by omega) (by omega)) k
  | succ d ih =>
    intro p hp k
    have pp : p < l.length := by omega
    have xc := (hk_gt_c g pp).1
    refine ⟨vp_in_nI hs (by omega), ?_⟩
    rw [hk_szy h hs hl, nI_1]
    refine pk_le l.length (p + 1) (fun z => ?_) (fun z => ?_)
    · have d0 : d = 0 := by omega
      subst d0
      rw [hk_lr_f (fun y => by have := y.1; omega)] at k
      exact k
    · refine br_f (nI_ge (b := 31) (by omega) (by omega)) ?_
      refine ya_nd h hs pp (by omega) ⟨by decide, ?_⟩
      rw [hk_kd xc]
      refine pk_eq (hk_c l p / 65536) 3 (fun e => ?_) (fun e => nm_e ?_)
      · have xc' := (hk_gt_c g z).1
        refine ya_nd h hs z (by omega) ⟨by decide, ?_⟩
        rw [hk_kd xc']
        refine pk_eq (hk_c l (p + 1) / 65536) 4 (fun e' => ?_) (fun e' => nm_e ?_)
        · rw [hk_lr_t ⟨z, e, e'⟩] at k; exact k
        · rw [hk_lr_f (fun y => e' y.2.2)] at k
          exact ih (p + 1) (by omega) k
      · rw [hk_lr_f (fun y => e y.2.1)] at k
        exact ih (p + 1) (by omega) k
theorem ya_lr {post : Int32 → Prop} {s n : Nat} {l : List Nat} (h : hk_hy yM yL s l) (hs : s < 110) (g : hk_gt n l) (k : post (hk_o (hk_lr l l.length 0))) : wpY_findRedex post (y1, y2, y3, y4, y5, yn, ym, yh, yc, yd, yw, yl, yk, ye, yp, yq, yr, ys, yM, yL, yY, yA, yR, yP) (nI s) :=
  ⟨_, ya_lr_l h hs g l.length 0 (by omega) k⟩
/-- taking an equation apart -/
theorem ya_split {post : Int32 → SY → Prop} {s n : Nat} {l : List Nat} (h : hk_hy yM yL s l) (hs : s < 110) (g : hk_gt n l)
    (k1 : hk_ise l → post 1 (y1, y2, y3, y4, y5, yn, ym, yh, yc, yd, yw, yl, yk, nI (hk_c l 2 % 256), 3, nI (hk_e l 3 - 3), nI (hk_e l 3), nI (l.length - hk_e l 3), yM, yL, yY, yA, yR, yP)) (k0 : ¬ hk_ise l → post 0 (y1, y2, y3, y4, y5, yn, ym, yh, yc, yd, yw, yl, yk, ye, yp, yq, yr, ys, yM, yL, yY, yA, yR, yP)) : wpY_splitEq post (y1, y2, y3, y4, y5, yn, ym, yh, yc, yd, yw, yl, yk, ye, yp, yq, yr, ys, yM, yL, yY, yA, yR, yP) (nI s) := by
  have hl := g.2.1
  have l0 := hk_gt_pos g
  have c0 := (hk_gt_c g l0).1
  unfold wpY_splitEq
  dsimp only
  refine ya_nd (p := 0) h hs l0 (by omega) ⟨by decide, ?_⟩
  rw [hk_kd c0]
  refine pk_eq (hk_c l 0 / 65536) 3 (fun e0 => ?_) (fun e => k0 (fun q => e q.1))
  have a1 := hk_at_s (hk_at0 g.1)
  rw [hk_ar_3 e0] at a1
  have l1 := hk_at_lt a1
  have c1 : hk_c l 1 < 524288 := (hk_gt_c g l1).1
  refine ya_nd (p := 1) h hs l1 (by omega) ⟨by decide, ?_⟩
  rw [hk_kd c1]
  refine pk_eq (hk_c l 1 / 65536) 3 (fun e1 => ?_) (fun e => k0 (fun q => e q.2.1))
  have a2 := hk_at_s a1
  rw [hk_ar_3 e1] at a2
  have l2 := hk_at_lt a2
  have c2 : hk_c l 2 < 524288 := (hk_gt_c g l2).1
  refine ya_nd (p := 2) h hs l2 (by omega) ⟨by decide, ?_⟩
  rw [hk_kd c2]
  refine pk_eq (hk_c l 2 / 65536) 2 (fun e2 => ?_) (fun e => k0 (fun q => e q.2.2))
  have E : hk_ise l := ⟨e0, e1, e2⟩
  obtain ⟨t1, t2, t3, t4, t5, t6, t7⟩ := hk_ise_at g.1 E
  refine ya_nd (p := 2) h hs l2 (by omega) ⟨by decide, nm_r (hk_tyn c2) ?_⟩
  refine ya_span (p := 3) h hs hl (fun c hc => (g.2.2 c hc).1) t1 ?_
  refine nm_r (e' := nI (hk_e l 3)) (by rw [show (3 : Int32) = nI 3 from rfl, nI_add, show 3 + (hk_e l 3 - 3) = hk_e l 3 by omega]) ?_
  refine ya_span (p := hk_e l 3) h hs hl (fun c hc => (g.2.2 c hc).1) t2 ?_
  rw [t5]
  exact k1 E
/-! the table of types -/
theorem ya_find_l {post : Int32 → Prop} {T : hk_T} {d c : Nat} (hb : hk_tb T yA yR) (ht : hk_ti T) (hd : d < 48) (hc : c < 48) :
    ∀ (k i : Nat), 3 ≤ i → i + k = T.1 → post (hk_o (hk_fd T.2.1 T.2.2 d c k i)) → wY_findType_2 post (nI d) (nI c) y1 y2 y3 y4 y5 (nI T.1) ym yh yc yd yw yl yk ye yp yq yr ys yM yL yY yA yR yP (k + 1) (nI i) := by
  have hn := ht.2.1
  intro k
  induction k with
  | zero =>
    intro i h3 hi q
    exact br_t (nI_le (by omega) (by omega)) q
  | succ k ih =>
    intro i h3 hi q
    have w := ht.2.2.2.2.2.2 i h3 (by omega)
    have V : vp_in (nI i) 48 := vp_in_nI (by omega) (by omega)
    refine br_f (nI_ge (by omega) (by omega)) (br_f (nI_ge (b := 48) (by omega) (by omega)) ⟨V, ?_⟩)
    rw [nI_clamp (n := i) (by omega), (hb i h3 (by omega)).1, (hb i h3 (by omega)).2]
    refine pk_eq (T.2.1 i) d (fun e => ⟨V, pk_eq (T.2.2 i) c (fun e' => ?_) (fun e' => nm_r (nI_1 _) ?_)⟩) (fun e => nm_r (nI_1 _) ?_)
    · rw [hk_fd_t ⟨e, e'⟩] at q; exact q
    · rw [hk_fd_f (fun z => e' z.2)] at q
      exact ih (i + 1) (by omega) (by omega) q
    · rw [hk_fd_f (fun z => e z.1)] at q
      exact ih (i + 1) (by omega) (by omega) q
theorem ya_find {post : Int32 → Prop} {T : hk_T} {d c : Nat} (hb : hk_tb T yA yR) (ht : hk_ti T) (hd : d < 48) (hc : c < 48) (k : post (hk_o (hk_find T d c))) : wpY_findType post (y1, y2, y3, y4, y5, nI T.1, ym, yh, yc, yd, yw, yl, yk, ye, yp, yq, yr, ys, yM, yL, yY, yA, yR, yP) (nI d) (nI c) :=
  ⟨_, ya_find_l hb ht hd hc (T.1 - 3) 3 (by omega) (by have := ht.1; omega) k⟩
theorem hk_m1_nge : ¬ (0 : Int32) ≤ -1 := by decide
theorem ya_intern {post : Int32 → SY → Prop} {T : hk_T} {d c : Nat} (hb : hk_tb T yA yR) (ht : hk_ti T) (hd : d < T.1) (hc : c < T.1)
    (k : ∀ A' R' : Nat → Int32, hk_tb (hk_it T d c).2 A' R' → post (hk_o (hk_it T d c).1) (y1, y2, y3, y4, y5, nI (hk_it T d c).2.1, ym, yh, yc, yd, yw, yl, yk, ye, yp, yq, yr, ys, yM, yL, yY, A', R', yP)) : wpY_intern post (y1, y2, y3, y4, y5, nI T.1, ym, yh, yc, yd, yw, yl, yk, ye, yp, yq, yr, ys, yM, yL, yY, yA, yR, yP) (nI d) (nI c) := by
  have hn := ht.2.1
  refine ya_find hb ht (by omega) (by omega) ?_
  cases hf : hk_find T d c with
  | some j =>
    rw [hk_it_f hf] at k
    exact br_t (hk_o_ge (by have := hk_find_in hf (by have := ht.1; omega); omega)) (k yA yR hb)
  | none =>
    refine br_f hk_m1_nge ?_
    refine pk_lt T.1 48 (fun z => ?_) (fun z => ?_)
    · rw [hk_it_a hf (by omega)] at k
      have V : vp_in (nI T.1) 48 := vp_in_nI z (by omega)
      refine ⟨V, nm_r (e' := upd yA T.1 (nI d)) (by rw [nI_clamp (by omega)]) ⟨V, nm_r (e' := upd yR T.1 (nI c)) (by rw [nI_clamp (by omega)]) (nm_r (nI_1 _) ?_)⟩⟩
      rw [nI_pred]
      exact k (upd yA T.1 (nI d)) (upd yR T.1 (nI c)) (hk_tb_a hb)
    · rw [hk_it_z hf z] at k
      exact k yA yR hb
theorem ya_need {post : Int32 → Prop} {T : hk_T} {a : Nat} (hb : hk_tb T yA yR) (ht : hk_ti T) (ha : a < T.1) (k : post (nI (hk_nd T a))) : wpY_eqNeed post (y1, y2, y3, y4, y5, nI T.1, ym, yh, yc, yd, yw, yl, yk, ye, yp, yq, yr, ys, yM, yL, yY, yA, yR, yP) (nI a) := by
  have hn := ht.2.1
  have h5 := ht.1
  refine ya_find (c := 0) hb ht (by omega) (by omega) ?_
  cases hf : hk_find T a 0 with
  | none =>
    have e : hk_nd T a = 2 := by unfold hk_nd; rw [hf]
    rw [e] at k
    exact br_f hk_m1_nge k
  | some f =>
    have w := hk_find_in hf (by omega)
    refine br_t (hk_o_ge (by omega)) ?_
    refine ya_find (c := f) hb ht (by omega) (by omega) ?_
    cases hg : hk_find T a f with
    | none =>
      have e : hk_nd T a = 1 := by unfold hk_nd; rw [hf]; dsimp only; rw [hg]
      rw [e] at k
      exact br_f hk_m1_nge k
    | some j =>
      have e : hk_nd T a = 0 := by unfold hk_nd; rw [hf]; dsimp only; rw [hg]
      rw [e] at k
      exact br_t (hk_o_ge (by have := hk_find_in hg (by omega); omega)) k
theorem ya_internEq {post : Int32 → SY → Prop} {T : hk_T} {a : Nat} (hb : hk_tb T yA yR) (ht : hk_ti T) (ha : a < T.1) (hr : (hk_it T a 0).1 ≠ none)
    (k : ∀ A' R' : Nat → Int32, hk_tb (hk_ie T a).2 A' R' → post (hk_o (hk_ie T a).1) (y1, y2, y3, y4, y5, nI (hk_ie T a).2.1, ym, yh, yc, yd, yw, yl, yk, ye, yp, yq, yr, ys, yM, yL, yY, A', R', yP)) : wpY_internEq post (y1, y2, y3, y4, y5, nI T.1, ym, yh, yc, yd, yw, yl, yk, ye, yp, yq, yr, ys, yM, yL, yY, yA, yR, yP) (nI a) := by
  have h0 : 0 < T.1 := by have := ht.1; omega
  obtain ⟨i1, i2, i3, i4⟩ := hk_it_ok (d := a) (c := 0) ht ha h0
  unfold wpY_internEq
  dsimp only
  refine ya_intern (c := 0) hb ht ha h0 (fun A' R' hb' => ?_)
  cases hq : (hk_it T a 0).1 with
  | none => exact absurd hq hr
  | some f =>
    have hf := i4 f hq
    refine ya_intern (c := f) hb' i1 (by omega) hf.2 (fun A2 R2 hb2 => ?_)
    have e2 : hk_ie T a = hk_it (hk_it T a 0).2 a f := by rw [hk_ie, hq]; rfl
    rw [e2] at k
    exact k A2 R2 hb2
end
