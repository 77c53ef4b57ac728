/-! the component: what only reads -/
section
variable {xn xc xm xd xh : Int32} {xA xR xK xS xY xP xE : Nat → Int32}
theorem xa_kind {post : Int32 → Prop} {s p : Nat} {l : List Nat} (h : hk_h xK xS s l) (hs : s < 98) (hp : p < l.length) (h32 : p < 32) (hc : hk_c l p < 524288) (k : post (nI (hk_c l p / 65536))) : wpX_kindAt post (xn, xc, xm, xd, xh, xA, xR, xK, xS, xY, xP, xE) (nI s) (nI p) := by
  refine ⟨hk_vx hs h32, by decide, ?_⟩
  rw [hk_rd h (by omega) hp h32, hk_kd hc]; exact k
theorem xa_index {post : Int32 → Prop} {s p : Nat} {l : List Nat} (h : hk_h xK xS s l) (hs : s < 98) (hp : p < l.length) (h32 : p < 32) (hc : hk_c l p < 524288) (k : post (nI (hk_c l p / 256 % 256))) : wpX_indexAt post (xn, xc, xm, xd, xh, xA, xR, xK, xS, xY, xP, xE) (nI s) (nI p) := by
  refine ⟨hk_vx hs h32, by decide, by decide, ?_⟩
  rw [hk_rd h (by omega) hp h32, hk_ixn hc]; exact k
theorem xa_type {post : Int32 → Prop} {s p : Nat} {l : List Nat} (h : hk_h xK xS s l) (hs : s < 98) (hp : p < l.length) (h32 : p < 32) (hc : hk_c l p < 524288) (k : post (nI (hk_c l p % 256))) : wpX_typeAt post (xn, xc, xm, xd, xh, xA, xR, xK, xS, xY, xP, xE) (nI s) (nI p) := by
  refine ⟨hk_vx hs h32, by decide, ?_⟩
  rw [hk_rd h (by omega) hp h32, hk_tyn hc]; exact k
theorem xa_part {post : Int32 → Prop} (t p : Nat) (k : post (nI (32 + t * 4 + p))) : wpX_partSlot post () (nI t) (nI p) := by
  unfold wpX_partSlot
  rw [hk_ps]; exact k
theorem xa_end_l {post : Int32 → Prop} {s : Nat} {l : List Nat} (h : hk_h xK xS s l) (hs : s < 98) (hl : l.length ≤ 32) (hc : ∀ c, c ∈ l → c < 524288) :
    ∀ (d p m b : Nat), p + d = l.length → hk_run (m + b) (l.drop p) = some 0 → post (nI (p + hk_spn m (l.drop p))) → wX_endOf_13 post (nI s) (nI l.length) xn xc xm xd xh xA xR xK xS xY xP xE (d + 1) (nI m) (nI p) := by
  intro d
  induction d with
  | zero =>
    intro p m b hp hr k
    refine br_t (nI_le (by omega) (by omega)) ?_
    rw [List.drop_of_length_le (by omega), hk_spn_nil] at k
    exact k
  | succ d ih =>
    intro p m b hp hr k
    refine br_f (nI_ge (by omega) (by omega)) ?_
    cases m with
    | zero =>
      rw [hk_spn_0] at k
      exact br_t (nI_le (b := 0) (by omega) (by omega)) k
    | succ m =>
      have hpl : p < l.length := by omega
      have hcp := hc _ (hk_c_mem hpl)
      rw [hk_c_drop hpl, show m + 1 + b = (m + b) + 1 by omega, hk_run_s] at hr
      rw [hk_c_drop hpl, hk_spn_s] at k
      refine br_f (nI_ge (b := m + 1) (a := 0) (by omega) (by have := hk_run_len hr; have := List.length_drop (i := p + 1) (l := l); omega)) ?_
      refine xa_kind h hs hpl (by omega) hcp ?_
      refine pk_eq (hk_c l p / 65536) 3 (fun e => ?_) (fun e => ?_)
      · rw [hk_ar_3 e] at hr k
        refine nm_r (nI_1 _) (nm_r (nI_1 _) ?_)
        exact ih (p + 1) (m + 2) b (by omega) (by rw [show m + 2 + b = m + b + 2 by omega]; exact hr) (by rw [show p + 1 + hk_spn (m + 2) (l.drop (p + 1)) = p + (hk_spn (m + 2) (l.drop (p + 1)) + 1) by omega]; exact k)
      · refine pk_eq (hk_c l p / 65536) 4 (fun e4 => ?_) (fun e4 => ?_)
        · rw [hk_ar_4 e4] at hr k
          refine nm_r (nI_1 _) ?_
          exact ih (p + 1) (m + 1) b (by omega) (by rw [show m + 1 + b = m + b + 1 by omega]; exact hr) (by rw [show p + 1 + hk_spn (m + 1) (l.drop (p + 1)) = p + (hk_spn (m + 1) (l.drop (p + 1)) + 1) by omega]; exact k)
        · rw [hk_ar_k rfl e e4, Nat.add_zero] at hr k
          refine nm_r (pk_m1 _) (nm_r (nI_1 _) ?_)
          exact ih (p + 1) m b (by omega) hr (by rw [show p + 1 + hk_spn m (l.drop (p + 1)) = p + (hk_spn m (l.drop (p + 1)) + 1) by omega]; exact k)
theorem xa_end {post : Int32 → Prop} {s p n : Nat} {l : List Nat} (h : hk_h xK xS s l) (hs : s < 98) (hl : l.length ≤ 32) (hc : ∀ c, c ∈ l → c < 524288) (ha : hk_at l p (n + 1)) (k : post (nI (hk_e l p))) : wpX_endOf post (xn, xc, xm, xd, xh, xA, xR, xK, xS, xY, xP, xE) (nI s) (nI p) := by
  refine ⟨vp_in_nI hs (by omega), nm_r (hk_sz h (by omega)) ⟨_, xa_end_l h hs hl hc (l.length - p) p 1 n (by have := ha.1; omega) (by rw [Nat.add_comm]; exact ha.2) k⟩⟩
/-- comparing two complete terms: the sign says their order -/
theorem xa_cmp_l {post : Int32 → Prop} {s o : Nat} {a b : List Nat} (ha : hk_h xK xS s a) (hb : hk_h xK xS o b) (hs : s < 98) (ho : o < 98) (la : a.length ≤ 32) (lb : b.length ≤ 32) (ca : ∀ c, c ∈ a → c < 524288) (cb : ∀ c, c ∈ b → c < 524288) {m : Nat} (hm : m ≤ a.length) (hm' : m ≤ b.length) (hmm : m = a.length ∨ m = b.length) :
    ∀ (d p n : Nat), p + d = m → hk_run n (a.drop p) = some 0 → hk_run n (b.drop p) = some 0 →
      (∀ r : Int32, (r < 0 ↔ hk_lt (a.drop p) (b.drop p) = true) → (r = 0 ↔ a.drop p = b.drop p) → post r) → wX_compareTerms_34 post (nI s) (nI o) (nI m) xn xc xm xd xh xA xR xK xS xY xP xE (d + 1) (nI p) := by
  intro d
  induction d with
  | zero =>
    intro p n hp ra rb k
    refine br_t (nI_le (by omega) (by omega)) ?_
    have e : a.drop p = [] ∧ b.drop p = [] := by
      rcases hmm with z | z
      · have e := List.drop_of_length_le (l := a) (i := p) (by omega)
        rw [e, hk_run_nil] at ra
        have n0 : n = 0 := Option.some.inj ra
        subst n0
        refine ⟨e, ?_⟩
        cases q : b.drop p with
        | nil => rfl
        | cons x t => rw [q, hk_run_0] at rb; cases rb
      · have e := List.drop_of_length_le (l := b) (i := p) (by omega)
        rw [e, hk_run_nil] at rb
        have n0 : n = 0 := Option.some.inj rb
        subst n0
        refine ⟨?_, e⟩
        cases q : a.drop p with
        | nil => rfl
        | cons x t => rw [q, hk_run_0] at ra; cases ra
    refine k 0 ?_ ?_
    · rw [e.1, e.2]
      exact ⟨fun z => absurd z (by decide), fun z => absurd z (by decide)⟩
    · rw [e.1, e.2]
      exact ⟨fun _ => rfl, fun _ => rfl⟩
  | succ d ih =>
    intro p n hp ra rb k
    have pa : p < a.length := by omega
    have pb : p < b.length := by omega
    have xa := ca _ (hk_c_mem pa)
    have xb := cb _ (hk_c_mem pb)
    refine br_f (nI_ge (by omega) (by omega)) ⟨hk_vx hs (by omega), hk_vx ho (by omega), ?_⟩
    rw [hk_rd ha (by omega) pa (by omega), hk_rd hb (by omega) pb (by omega)]
    rw [hk_c_drop pa] at ra k
    rw [hk_c_drop pb] at rb k
    refine nm_e ?_
    generalize hk_c a p = x at ra k xa
    generalize hk_c b p = y at rb k xb
    cases n with
    | zero => rw [hk_run_0] at ra; cases ra
    | succ n =>
      rw [hk_run_s] at ra rb
      rcases Nat.lt_trichotomy x y with z | z | z
      · have e := pk_sneg (a := x) (b := y) (by omega) z
        refine br_f (fun q => ?_) (k _ ?_ ?_)
        · rw [q] at e; exact absurd e (by decide)
        · rw [hk_lt_c, if_pos z]; exact ⟨fun _ => rfl, fun _ => e⟩
        · refine ⟨fun q => ?_, fun q => ?_⟩
          · rw [q] at e; exact absurd e (by decide)
          · have := (List.cons.inj q).1; omega
      · subst z
        refine br_t (Int32.sub_self _) (nm_r (nI_1 _) ?_)
        refine ih (p + 1) _ (by omega) ra rb (fun r h1 h2 => k r ?_ ?_)
        · rw [hk_lt_c, if_neg (Nat.lt_irrefl x), if_neg (Nat.lt_irrefl x)]; exact h1
        · rw [h2]
          exact ⟨fun q => by rw [q], fun q => (List.cons.inj q).2⟩
      · have e : nI x - nI y = nI (x - y) := pk_sub (by omega)
        have e0 : ¬ nI (x - y) = 0 := nI_ne0 (by omega) (by omega)
        rw [e]
        refine br_f e0 (k _ ?_ ?_)
        · rw [hk_lt_c, if_neg (by omega), if_pos z]
          exact ⟨fun q => absurd q (nI_pos (by omega)), fun q => by cases q⟩
        · exact ⟨fun q => absurd q e0, fun q => by have := (List.cons.inj q).1; omega⟩
theorem xa_cmp {post : Int32 → Prop} {n s o : Nat} {a b : List Nat} (ha : hk_h xK xS s a) (hb : hk_h xK xS o b) (hs : s < 98) (ho : o < 98) (ga : hk_gt n a) (gb : hk_gt n b)
    (k : ∀ r : Int32, (r < 0 ↔ hk_lt a b = true) → (r = 0 ↔ a = b) → post r) : wpX_compareTerms post (xn, xc, xm, xd, xh, xA, xR, xK, xS, xY, xP, xE) (nI s) (nI o) := by
  have la := ga.2.1
  have lb := gb.2.1
  have V : vp_in (nI s) 98 := vp_in_nI hs (by omega)
  have V' : vp_in (nI o) 98 := vp_in_nI ho (by omega)
  have ea := hk_sz ha (by omega)
  have eb := hk_sz hb (by omega)
  refine ⟨V, V', ?_⟩
  rw [ea, eb]
  refine pk_le b.length a.length (fun z => ⟨V', nm_e ⟨b.length + 1, ?_⟩⟩) (fun z => ⟨V, nm_e ⟨a.length + 1, ?_⟩⟩)
  · exact xa_cmp_l ha hb hs ho la lb (fun c hc => (ga.2.2 c hc).1) (fun c hc => (gb.2.2 c hc).1) (m := b.length) (by omega) (by omega) (Or.inr rfl) b.length 0 1 (by omega) ga.1 gb.1 k
  · exact xa_cmp_l ha hb hs ho la lb (fun c hc => (ga.2.2 c hc).1) (fun c hc => (gb.2.2 c hc).1) (m := a.length) (by omega) (by omega) (Or.inl rfl) a.length 0 1 (by omega) ga.1 gb.1 k
theorem xa_same_l {post : Int32 → Prop} {s o f g m : Nat} {a b : List Nat} (ha : hk_h xK xS s a) (hb : hk_h xK xS o b) (hs : s < 98) (ho : o < 98) (la : a.length ≤ 32) (lb : b.length ≤ 32) (ca : ∀ c, c ∈ a → c < 524288) (cb : ∀ c, c ∈ b → c < 524288) (fa : f + m ≤ a.length) (gb : g + m ≤ b.length) :
    ∀ (d i : Nat), i + d = m → ((a.drop (f + i)).take d = (b.drop (g + i)).take d → post 1) → (¬ (a.drop (f + i)).take d = (b.drop (g + i)).take d → post 0) → wX_sameRun_3 post (nI s) (nI f) (nI o) (nI g) (nI m) xn xc xm xd xh xA xR xK xS xY xP xE (d + 1) (nI i) := by
  intro d
  induction d with
  | zero =>
    intro i hi k1 k0
    exact br_t (nI_le (by omega) (by omega)) (k1 (by rw [List.take_zero, List.take_zero]))
  | succ d ih =>
    intro i hi k1 k0
    have pa : f + i < a.length := by omega
    have pb : g + i < b.length := by omega
    have xa := ca _ (hk_c_mem pa)
    have xb := cb _ (hk_c_mem pb)
    have ea : nI s * 32 + nI f + nI i = nI s * 32 + nI (f + i) := by rw [Int32.add_assoc, nI_add]
    have eb : nI o * 32 + nI g + nI i = nI o * 32 + nI (g + i) := by rw [Int32.add_assoc, nI_add]
    rw [hk_c_drop pa, hk_c_drop pb, List.take_succ_cons, List.take_succ_cons] at k1 k0
    refine br_f (nI_ge (by omega) (by omega)) ?_
    rw [ea, eb]
    refine ⟨hk_vx hs (by omega), hk_vx ho (by omega), ?_⟩
    rw [hk_rd ha (by omega) pa (by omega), hk_rd hb (by omega) pb (by omega)]
    refine pk_eq (hk_c a (f + i)) (hk_c b (g + i)) (fun e => nm_r (nI_1 _) ?_) (fun e => k0 (fun z => e (List.cons.inj z).1))
    refine ih (i + 1) (by omega) (fun z => k1 ?_) (fun z => k0 (fun q => z ?_))
    · rw [e]; exact congrArg _ z
    · exact (List.cons.inj q).2
theorem xa_same {post : Int32 → Prop} {s o f g m n : Nat} {a b : List Nat} (ha : hk_h xK xS s a) (hb : hk_h xK xS o b) (hs : s < 98) (ho : o < 98) (ga : hk_gt n a) (gb : hk_gt n b) (fa : f + m ≤ a.length) (hgb : g + m ≤ b.length)
    (k1 : (a.drop f).take m = (b.drop g).take m → post 1) (k0 : ¬ (a.drop f).take m = (b.drop g).take m → post 0) : wpX_sameRun post (xn, xc, xm, xd, xh, xA, xR, xK, xS, xY, xP, xE) (nI s) (nI f) (nI o) (nI g) (nI m) :=
  ⟨_, xa_same_l ha hb hs ho ga.2.1 gb.2.1 (fun c hc => (ga.2.2 c hc).1) (fun c hc => (gb.2.2 c hc).1) fa hgb m 0 (by omega) k1 k0⟩
theorem xa_occ_l {post : Int32 → Prop} {v s vc : Nat} {l : List Nat} (hv : xK (nI v * 32).toNatClampNeg = nI vc) (hvc : vc < 524288) (h : hk_h xK xS s l) (hs : s < 98) (hv98 : v < 98) (hl : l.length ≤ 32) (hc : ∀ c, c ∈ l → c < 524288) :
    ∀ (d p : Nat), p + d = l.length → (vc ∈ l.drop p → post 1) → (¬ vc ∈ l.drop p → post 0) → wX_occursIn_10 post (nI v) (nI s) (nI l.length) xn xc xm xd xh xA xR xK xS xY xP xE (d + 1) (nI p) := by
  intro d
  induction d with
  | zero =>
    intro p hp k1 k0
    refine br_t (nI_le (by omega) (by omega)) (k0 ?_)
    rw [List.drop_of_length_le (by omega)]
    exact List.not_mem_nil
  | succ d ih =>
    intro p hp k1 k0
    have pp : p < l.length := by omega
    have xc := hc _ (hk_c_mem pp)
    rw [hk_c_drop pp] at k1 k0
    refine br_f (nI_ge (by omega) (by omega)) ⟨hk_vx hs (by omega), by rw [hk_ad0]; exact vp_in_nI (by omega) (by omega), ?_⟩
    rw [hv, hk_rd h (by omega) pp (by omega)]
    refine pk_eq (hk_c l p) vc (fun e => k1 (by rw [e]; exact List.mem_cons_self)) (fun e => nm_r (nI_1 _) ?_)
    refine ih (p + 1) (by omega) (fun z => k1 (List.mem_cons_of_mem _ z)) (fun z => k0 (fun q => ?_))
    rcases List.mem_cons.mp q with q | q
    · exact e q.symm
    · exact z q
theorem xa_occ {post : Int32 → Prop} {v s vc n : Nat} {l : List Nat} (hv : xK (nI v * 32).toNatClampNeg = nI vc) (hvc : vc < 524288) (h : hk_h xK xS s l) (hs : s < 98) (hv98 : v < 98) (g : hk_gt n l)
    (k1 : vc ∈ l → post 1) (k0 : ¬ vc ∈ l → post 0) : wpX_occursIn post (xn, xc, xm, xd, xh, xA, xR, xK, xS, xY, xP, xE) (nI v) (nI s) :=
  ⟨vp_in_nI hs (by omega), nm_r (hk_sz h (by omega)) ⟨_, xa_occ_l hv hvc h hs hv98 g.2.1 (fun c hc => (g.2.2 c hc).1) l.length 0 (by omega) k1 k0⟩⟩
theorem xa_redex {post : Int32 → Prop} {s p n : Nat} {l : List Nat} (h : hk_h xK xS s l) (hs : s < 98) (g : hk_gt n l) (hp : p < l.length) (k1 : hk_rx l p → post 1) (k0 : ¬ hk_rx l p → post 0) : wpX_isRedex post (xn, xc, xm, xd, xh, xA, xR, xK, xS, xY, xP, xE) (nI s) (nI p) := by
  have hl := g.2.1
  refine ⟨vp_in_nI hs (by omega), ?_⟩
  rw [hk_sz h (by omega), nI_1]
  refine pk_le l.length (p + 1) (fun z => k0 (fun q => by have := q.1; omega)) (fun z => ?_)
  refine xa_kind h hs hp (by omega) (hk_gt_c g hp).1 ?_
  have hc := (hk_gt_c g hp).1
  refine pk_eq (hk_c l p / 65536) 3 (fun e => ?_) (fun e => k0 (fun q => e q.2.1))
  have hc' := (hk_gt_c g z).1
  refine xa_kind h hs z (by omega) hc' ?_
  exact pk_eq (hk_c l (p + 1) / 65536) 4 (fun e' => k1 ⟨z, e, e'⟩) (fun e' => k0 (fun q => e' q.2.2))
theorem xa_lr_l {post : Int32 → Prop} {s n : Nat} {l : List Nat} (h : hk_h xK xS s l) (hs : s < 98) (g : hk_gt n l) :
    ∀ (d p : Nat), p + d = l.length → post (hk_o (hk_lr l d p)) → wX_leftmostRedex_9 post (nI s) (nI l.length) xn xc xm xd xh xA xR xK xS xY xP xE (d + 1) (nI p) := by
  have hl := g.2.1
  intro d
  induction d with
  | zero =>
    intro p hp k
    exact br_t (nI_le (by omega) (by omega)) k
  | succ d ih =>
    intro p hp k
    refine br_f (nI_ge (by omega) (by omega)) ?_
    refine xa_redex h hs g (by omega) (fun z => ?_) (fun z => ?_)
    · rw [hk_lr_t z] at k
      exact br_f (by decide) k
    · rw [hk_lr_f z] at k
      exact br_t rfl (nm_r (nI_1 _) (ih (p + 1) (by omega) k))
theorem xa_lr {post : Int32 → Prop} {s n : Nat} {l : List Nat} (h : hk_h xK xS s l) (hs : s < 98) (g : hk_gt n l) (k : post (hk_o (hk_lr l l.length 0))) : wpX_leftmostRedex post (xn, xc, xm, xd, xh, xA, xR, xK, xS, xY, xP, xE) (nI s) :=
  ⟨vp_in_nI hs (by omega), nm_r (hk_sz h (by omega)) ⟨_, xa_lr_l h hs g l.length 0 (by omega) k⟩⟩
theorem xa_con {post : Int32 → Prop} {s n : Nat} {l : List Nat} {x : Int32} (h : hk_h xK xS s l) (hs : s < 98) (g : hk_gt n l) (k0 : (∀ j, j < l.length → x ≠ nI j) → post (-1)) (k1 : ∀ j, j < l.length → x = nI j → post (nI (hk_c l j))) : wpX_codeOrNone post (xn, xc, xm, xd, xh, xA, xR, xK, xS, xY, xP, xE) (nI s) x := by
  have hl := g.2.1
  rcases hk_val x l.length with z | ⟨j, hj, rfl⟩
  · refine br_c (fun _ => k0 z) (fun q => ⟨vp_in_nI hs (by omega), ?_⟩)
    rw [hk_sz h (by omega)]
    obtain ⟨j, hj, rfl⟩ := nI_of q
    refine br_t (nI_le ?_ hj) (k0 z)
    rcases Nat.lt_or_ge j l.length with w | w
    · exact absurd rfl (z j w)
    · exact w
  · refine br_f (nI_pos (by omega)) ⟨vp_in_nI hs (by omega), ?_⟩
    rw [hk_sz h (by omega)]
    refine br_f (nI_ge hj (by omega)) ⟨hk_vx hs (by omega), ?_⟩
    rw [hk_rd h (by omega) hj (by omega)]
    exact k1 j hj rfl
theorem xa_takes {post : Int32 → Prop} {T : hk_T} {f a : Nat} (hb : hk_tb T xA xR) (ht : hk_ti T) (hf : f < T.1) (ha : a < 48) (k1 : 3 ≤ f → T.2.1 f = a → post 1) (k0 : ¬ (3 ≤ f ∧ T.2.1 f = a) → post 0) : wpX_takes post (xn, xc, xm, xd, xh, xA, xR, xK, xS, xY, xP, xE) (nI f) (nI a) := by
  have hn := ht.2.1
  refine pk_lt f 3 (fun z => k0 (fun q => by omega)) (fun z => ⟨vp_in_nI (by omega) (by omega), ?_⟩)
  have w := ht.2.2.2.2.2.2 f z hf
  rw [nI_clamp (by omega), (hb f z hf).1]
  exact pk_eq (T.2.1 f) a (fun e => k1 z e) (fun e => k0 (fun q => e q.2))
/-! the table of types -/
theorem xa_find_l {post : Int32 → Prop} {T : hk_T} {d c : Nat} (hb : hk_tb T xA xR) (ht : hk_ti T) (hd : d < 48) (hc : c < 48) :
    ∀ (k i : Nat), 3 ≤ i → i + k = T.1 → post (hk_o (hk_fd T.2.1 T.2.2 d c k i)) → wX_findFun_8 post (nI d) (nI c) (nI T.1) xn xc xm xd xh xA xR xK xS xY xP xE (k + 1) (nI i) := by
  have hn := ht.2.1
  intro k
  induction k with
  | zero =>
    intro i h3 hi q
    exact br_t (nI_le (by omega) (by omega)) q
  | succ k ih =>
    intro i h3 hi q
    have w := ht.2.2.2.2.2.2 i h3 (by omega)
    have V : vp_in (nI i) 48 := vp_in_nI (by omega) (by omega)
    refine br_f (nI_ge (by omega) (by omega)) ⟨V, ?_⟩
    rw [nI_clamp (n := i) (by omega), (hb i h3 (by omega)).1, (hb i h3 (by omega)).2]
    refine pk_eq (T.2.1 i) d (fun e => ⟨V, pk_eq (T.2.2 i) c (fun e' => ?_) (fun e' => nm_r (nI_1 _) ?_)⟩) (fun e => nm_r (nI_1 _) ?_)
    · rw [hk_fd_t ⟨e, e'⟩] at q; exact q
    · rw [hk_fd_f (fun z => e' z.2)] at q
      exact ih (i + 1) (by omega) (by omega) q
    · rw [hk_fd_f (fun z => e z.1)] at q
      exact ih (i + 1) (by omega) (by omega) q
theorem xa_find {post : Int32 → Prop} {T : hk_T} {d c : Nat} (hb : hk_tb T xA xR) (ht : hk_ti T) (hd : d < 48) (hc : c < 48) (k : post (hk_o (hk_find T d c))) : wpX_findFun post (nI T.1, xc, xm, xd, xh, xA, xR, xK, xS, xY, xP, xE) (nI d) (nI c) :=
  ⟨_, xa_find_l hb ht hd hc (T.1 - 3) 3 (by omega) (by have := ht.1; omega) k⟩
theorem xa_intern {post : Int32 → St2 → Prop} {T : hk_T} {d c : Nat} (hb : hk_tb T xA xR) (ht : hk_ti T) (hd : d < T.1) (hc : c < T.1)
    (k : ∀ A' R' : Nat → Int32, hk_tb (hk_it T d c).2 A' R' → post (hk_o (hk_it T d c).1) (nI (hk_it T d c).2.1, xc, xm, xd, xh, A', R', xK, xS, xY, xP, xE)) : wpX_internFun post (nI T.1, xc, xm, xd, xh, xA, xR, xK, xS, xY, xP, xE) (nI d) (nI c) := by
  have hn := ht.2.1
  refine xa_find hb ht (by omega) (by omega) ?_
  cases hf : hk_find T d c with
  | some j =>
    rw [hk_it_f hf] at k
    exact br_f (hk_o_ne (by have := hk_find_in hf (by have := ht.1; omega); omega)) (k xA xR hb)
  | none =>
    refine br_t rfl ?_
    refine pk_lt T.1 48 (fun z => ?_) (fun z => ?_)
    · rw [hk_it_a hf (by omega)] at k
      have V : vp_in (nI T.1) 48 := vp_in_nI z (by omega)
      refine ⟨V, nm_r (e' := upd xA T.1 (nI d)) (by rw [nI_clamp (by omega)]) ⟨V, nm_r (e' := upd xR T.1 (nI c)) (by rw [nI_clamp (by omega)]) (nm_r (nI_1 _) ?_)⟩⟩
      rw [nI_pred]
      exact k (upd xA T.1 (nI d)) (upd xR T.1 (nI c)) (hk_tb_a hb)
    · rw [hk_it_z hf z] at k
      exact k xA xR hb
theorem xa_internEq {post : Int32 → St2 → Prop} {T : hk_T} {a : Nat} (hb : hk_tb T xA xR) (ht : hk_ti T) (ha : a < T.1)
    (k : ∀ A' R' : Nat → Int32, hk_tb (hk_xe T a).2 A' R' → post (hk_o (hk_xe T a).1) (nI (hk_xe T a).2.1, xc, xm, xd, xh, A', R', xK, xS, xY, xP, xE)) : wpX_internEqTypes post (nI T.1, xc, xm, xd, xh, xA, xR, xK, xS, xY, xP, xE) (nI a) := by
  have hn := ht.2.1
  have h0 : 0 < T.1 := by have := ht.1; omega
  have go : hk_xe T a = hk_ie T a → (hk_it T a 0).1 ≠ none → wX_internEqTypes_25 post (nI a) (nI T.1) xc xm xd xh xA xR xK xS xY xP xE := by
    intro e hne
    obtain ⟨i1, i2, i3, i4⟩ := hk_it_ok (d := a) (c := 0) ht ha h0
    refine xa_intern (c := 0) hb ht ha h0 (fun A' R' hb' => ?_)
    cases hr : (hk_it T a 0).1 with
    | none => exact absurd hr hne
    | some f =>
      have hf := i4 f hr
      refine xa_intern (c := f) hb' i1 (by omega) hf.2 (fun A2 R2 hb2 => ?_)
      have e2 : hk_xe T a = hk_it (hk_it T a 0).2 a f := by rw [e, hk_ie, hr]; rfl
      rw [e2] at k
      exact k A2 R2 hb2
  refine xa_find (c := 0) hb ht (by omega) (by omega) ?_
  cases hf : hk_find T a 0 with
  | some j =>
    refine br_f (hk_o_ne (by have := hk_find_in hf (by have := ht.1; omega); omega)) (go (hk_xe_s hf) ?_)
    rw [hk_it_f hf]; exact fun z => by cases z
  | none =>
    refine br_t rfl ?_
    have e2 : nI T.1 + 2 = nI (T.1 + 2) := nI_add T.1 2
    rw [e2]
    refine pk_le (T.1 + 2) 48 (fun z => go (hk_xe_n hf z) ?_) (fun z => ?_)
    · rw [hk_it_a hf (by omega)]; exact fun z => by cases z
    · rw [hk_xe_z hf (by omega)] at k
      exact k xA xR hb
theorem xa_internAbs {post : Int32 → St2 → Prop} {T : hk_T} {d c : Nat} (hb : hk_tb T xA xR) (ht : hk_ti T) (hd : d < T.1) (hc : c < T.1)
    (k : ∀ A' R' : Nat → Int32, hk_tb (hk_xa T d c).2 A' R' → post (hk_o (hk_xa T d c).1) (nI (hk_xa T d c).2.1, xc, xm, xd, xh, A', R', xK, xS, xY, xP, xE)) : wpX_internAbsTypes post (nI T.1, xc, xm, xd, xh, xA, xR, xK, xS, xY, xP, xE) (nI d) (nI c) := by
  have hn := ht.2.1
  obtain ⟨i1, i2, i3, i4⟩ := hk_it_ok (d := d) (c := c) ht hd hc
  have go : ∀ t, (hk_it T d c).1 = some t → hk_xa T d c = hk_xb (hk_it T d c).2 t → wX_internAbsTypes_25 post (nI d) (nI c) (nI T.1) xc xm xd xh xA xR xK xS xY xP xE := by
    intro t hr e
    refine xa_intern hb ht hd hc (fun A' R' hb' => ?_)
    rw [hr]
    have hf := i4 t hr
    refine xa_internEq (a := t) hb' i1 hf.2 (fun A2 R2 hb2 => ?_)
    rw [e] at k
    cases hq : (hk_xe (hk_it T d c).2 t).1 with
    | none =>
      have w : hk_xb (hk_it T d c).2 t = (none, (hk_xe (hk_it T d c).2 t).2) := by unfold hk_xb; rw [hq]
      rw [w] at k
      exact br_t rfl (k A2 R2 hb2)
    | some j =>
      have w : hk_xb (hk_it T d c).2 t = (some t, (hk_xe (hk_it T d c).2 t).2) := by unfold hk_xb; rw [hq]
      rw [w] at k
      refine br_f (hk_o_ne ?_) (k A2 R2 hb2)
      have := hk_xe_in i1 hf.2 hq
      omega
  refine xa_find hb ht (by omega) (by omega) ?_
  cases hf : hk_find T d c with
  | some j =>
    refine br_f (hk_o_ne (by have := hk_find_in hf (by have := ht.1; omega); omega)) (go j (by rw [hk_it_f hf]) ?_)
    unfold hk_xa
    rw [hf, hk_it_f hf]
  | none =>
    refine br_t rfl ?_
    have e2 : nI T.1 + 3 = nI (T.1 + 3) := nI_add T.1 3
    rw [e2]
    refine pk_le (T.1 + 3) 48 (fun z => go T.1 (by rw [hk_it_a hf (by omega)]) ?_) (fun z => ?_)
    · unfold hk_xa
      rw [hf, if_pos z]
    · have w : hk_xa T d c = (none, T) := by unfold hk_xa; rw [hf, if_neg (by omega)]
      rw [w] at k
      exact k xA xR hb
end
