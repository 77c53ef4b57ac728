/-! reading a part of a theorem from its end -/
def sw_m : Nat → Int32
  | 0 => -1
  | n + 1 => nI n
theorem sw_m_s : ∀ n, nI n + (-1) = sw_m n
  | 0 => by decide
  | n + 1 => pk_m1 n
theorem sw_m_1 : ∀ n, nI n - 1 = sw_m n
  | 0 => by decide
  | n + 1 => nI_pred n
theorem sw_by {st : List Nat} (h : sv_oks st) : sv_by st := fun e he => by have := sv_ok_lt (h e he); omega
theorem sw_2 {n : Nat} (h : n < 1024) : (lN n).toInt32 = nI n := lN_i n
section
variable {xn xc xm xd xh : Int32} {xA xR xK xS xY xP xE : Nat → Int32} {T : hk_T} {nM nH : Nat} {TY HC : Nat → Nat} {G : Nat → List Nat}
theorem sw_hc {post : Int32 → Prop} {h : Nat} (I : sw_I T nM TY nH HC G) (RX : hk_R T nM TY nH HC G xA xR xY xP (hk_h xK xS)) (hh : h < nH) (k : post (nI (HC h))) : wpX_hypCount post (xn, xc, xm, xd, nI nH, xA, xR, xK, xS, xY, xP, xE) (nI h) := by
  have h4 := I.1.2.2.2.1
  refine hk_ok1 (by omega) hh (br_f (by decide) ⟨vp_in_nI (by omega) (by omega), ?_⟩)
  rw [nI_clamp (by omega), (RX.2.2 h hh).1]; exact k
theorem sw_sz {post : Int32 → Prop} {h p : Nat} (I : sw_I T nM TY nH HC G) (RX : hk_R T nM TY nH HC G xA xR xY xP (hk_h xK xS)) (hh : h < nH) (hp : p ≤ HC h) (k : post (nI (G (32 + h * 4 + p)).length)) : wpX_thmSize post (xn, xc, xm, xd, nI nH, xA, xR, xK, xS, xY, xP, xE) (nI h) (nI p) := by
  have h4 := I.1.2.2.2.1
  obtain ⟨hc, gp⟩ := I.1.2.2.2.2.2.2 h hh
  obtain ⟨xPt, xhp⟩ := RX.2.2 h hh
  unfold wpX_thmSize
  dsimp only
  refine xa_isPart hh (by omega) xPt hc (fun z => absurd rfl (z p (by omega))) (fun j hj e => br_f (by decide) ?_)
  refine xa_part h p ⟨vp_in_nI (by omega) (by omega), ?_⟩
  rw [hk_sz (xhp p hp) (by omega)]; exact k
theorem sw_nd {post : Int32 → Prop} {h p q : Nat} (I : sw_I T nM TY nH HC G) (RX : hk_R T nM TY nH HC G xA xR xY xP (hk_h xK xS)) (hh : h < nH) (hp : p ≤ HC h) (hq : q < (G (32 + h * 4 + p)).length) (k : post (nI (hk_c (G (32 + h * 4 + p)) q))) : wpX_thmNode post (xn, xc, xm, xd, nI nH, xA, xR, xK, xS, xY, xP, xE) (nI h) (nI p) (nI q) := by
  have h4 := I.1.2.2.2.1
  obtain ⟨hc, gp⟩ := I.1.2.2.2.2.2.2 h hh
  obtain ⟨xPt, xhp⟩ := RX.2.2 h hh
  have l32 := (gp p hp).2.1
  unfold wpX_thmNode
  dsimp only
  refine xa_isPart hh (by omega) xPt hc (fun z => absurd rfl (z p (by omega))) (fun j hj e => br_f (by decide) ?_)
  refine xa_part h p ?_
  refine xa_con (xhp p hp) (by omega) (gp p hp) (fun z => absurd rfl (z q hq)) (fun j hj e => ?_)
  have : q = j := (nI_eq (by omega) (by omega)).mp e
  subst this
  exact k
/-- the end of a part: its value -/
theorem sw_757 {post : Int32 → Prop} {L kc ks : Nat} {xs : Nat → Int32} {J322 J393 : Int32 → Prop} {J410 : Int32 → Int32 → Int32 → Prop} {x3 x4 x5 x6 x7 x8 : Int32} {p e : Nat} (he : e < 2) (hp : p < 1024)
    (k0 : p = 0 → J410 x7 (nI e) (nI (p + 1))) (k1 : p ≠ 0 → e = 0 → J410 0 x8 (nI (p + 1))) (k2 : p ≠ 0 → e ≠ 0 → J410 x7 x8 (nI (p + 1))) :
    wL_law_757 post L xs J322 J393 J410 x3 x4 x5 x6 x7 x8 (nI p) (sv_lo [e]) 1 0 kc ks xn xc xm xd xh xA xR xK xS xY xP xE := by
  have et : (sv_lo [e] &&& 255).toInt32 = nI e := by rw [sv_top (by omega)]; exact lN_i e
  have e2 : nI e >>> ((2 : Int32) &&& 31) = 0 := by rw [sw_s2 (by omega), show e / 4 = 0 by omega]; rfl
  have e3 : nI e &&& 3 = nI e := by rw [sw_a3 (by omega), show e % 4 = e by omega]
  refine br_t rfl (br_t rfl (nm_r et (br_t e2 (nm_r e3 ?_))))
  refine pk_eq p 0 (fun z => nm_r (nI_1 _) (k0 z)) (fun z => ?_)
  exact pk_eq e 0 (fun y => nm_r (nI_1 _) (k1 z y)) (fun y => nm_r (nI_1 _) (k2 z y))
/-- a push -/
theorem sw_711 {post : Int32 → Prop} {L kc ks : Nat} {xs : Nat → Int32} {J322 J393 : Int32 → Prop} {J410 : Int32 → Int32 → Int32 → Prop} {J445 : Int64 → Int64 → Int32 → Int32 → Prop} {x3 x4 x5 x6 x7 x8 x9 x16 : Int32} {st : List Nat} {e q : Nat} {y : Int32} (ho : sv_oks st) (he : e < 48) (hl : st.length < 16) (hy : y = nI e)
    (k : J445 (sv_lo (e :: st)) (sv_hi (e :: st)) (nI (e :: st).length) (sw_m q)) : wL_law_711 post L xs J322 J393 J410 J445 x3 x4 x5 x6 x7 x8 x9 (sv_lo st) (sv_hi st) (nI st.length) x16 (nI q) y kc ks xn xc xm xd xh xA xR xK xS xY xP xE := by
  subst hy
  refine br_t (nI_lt (b := 16) hl (by omega)) (nm_r (sv_uhi (by omega) (sw_by ho) hl) (nm_r (e' := sv_lo (e :: st)) ?_ (nm_r (nI_1 _) (nm_r (sw_m_s q) k))))
  rw [nI_l (by omega)]
  exact sv_ulo (by omega) (sw_by ho) hl
theorem sw_445 {post : Int32 → Prop} {L kc ks : Nat} {xs : Nat → Int32} {J322 J393 : Int32 → Prop} {J410 : Int32 → Int32 → Int32 → Prop} {x3 x5 x7 x8 : Int32} {h p m e : Nat} {l : List Nat} (I : sw_I T nM TY nH HC G) (RX : hk_R T nM TY nH HC G xA xR xY xP (hk_h xK xS)) (hh : h < nH) (hp : p ≤ HC h) (el : l = G (32 + h * 4 + p)) (hm : m < 1024) (hv : sv_v (sw_sg m) l e)
    (k : wL_law_757 post L xs J322 J393 J410 x3 (nI h) x5 (nI m) x7 x8 (nI p) (sv_lo [e]) 1 0 kc ks xn xc xm xd (nI nH) xA xR xK xS xY xP xE) :
    ∀ (q : Nat) (st : List Nat), q ≤ l.length → sv_ev (sw_sg m) (l.drop q) [] = some st → wL_law_445 post L xs J322 J393 J410 x3 (nI h) x5 (nI m) x7 x8 (nI p) 0 kc ks xn xc xm xd (nI nH) xA xR xK xS xY xP xE (q + 1) (sv_lo st) (sv_hi st) (nI st.length) (sw_m q) := by
  have va := sw_sg_va m
  have g : hk_gt T.1 l := by rw [el]; exact (I.1.2.2.2.2.2.2 h hh).2 p hp
  have l32 := g.2.1
  intro q
  induction q with
  | zero =>
    intro st hq hst
    rw [List.drop_zero, hv []] at hst
    cases hst
    exact br_t (by decide) k
  | succ q ih =>
    intro st hq hst
    have ql : q < l.length := by omega
    have hc := (hk_gt_c g ql).1
    have full := hv []
    have sp : l = l.take q ++ l.drop q := (List.take_append_drop q l).symm
    rw [sp] at full
    obtain ⟨st', e1, -⟩ := sv_ev_spl full
    have e1' := e1
    rw [hk_c_drop ql] at e1
    obtain ⟨st0, e2, e3⟩ := sv_ev_i e1
    rw [hst] at e2
    cases e2
    obtain ⟨n, r1, r2⟩ := sv_16 g.1 l32 ql
    obtain ⟨vs, w1, w2, w3, w4⟩ := sv_run va r1 e1'
    rw [List.append_nil] at w2
    subst w2
    have lst' : st'.length ≤ 16 := by omega
    have os : sv_oks st := by
      rcases Nat.lt_or_ge (q + 1) l.length with z | z
      · obtain ⟨n2, r3, -⟩ := sv_16 g.1 l32 z
        obtain ⟨vs2, -, v2, v3, -⟩ := sv_run va r3 hst
        rw [List.append_nil] at v2
        rw [v2]; exact v3
      · rw [List.drop_of_length_le (by omega)] at hst
        cases hst
        exact fun y hy => absurd hy List.not_mem_nil
    have ihq := ih st' (by omega) e1'
    refine br_f (nI_pos (by omega)) (br_t rfl ?_)
    refine sw_nd (q := q) I RX hh hp (by rw [← el]; exact ql) ?_
    rw [← el]
    refine br_t (nI_pos' (by omega)) (nm_r (sw_k16 hc) (nm_r (sw_k8 hc) (nm_r (sw_k0 hc) ?_)))
    rcases sv_st_i e3 with ⟨h1, h2, h3, rfl⟩ | ⟨h1, h2, h3, rfl⟩ | ⟨h1, f, x, w, y, rfl, hy, rfl⟩
    · refine pk_eq (hk_c l q / 65536) 1 (fun _ => ?_) (fun z => absurd h1 z)
      refine br_f (nI_nlt (a := 1) (by omega) (by omega)) (br_t (nI_le (b := 3) (by omega) (by omega)) ?_)
      refine sw_vv hm h2 h3 (nm_e ?_)
      have ok := (va _ _ h2 h3)
      refine sw_711 os (by omega) (by rw [List.length_cons] at lst'; omega) ?_ ihq
      rw [show (4 : Int32) = nI 4 from rfl, pk_mul, nI_add]
    · refine pk_eq (hk_c l q / 65536) 1 (fun z => absurd z (by omega)) (fun _ => ?_)
      refine pk_eq (hk_c l q / 65536) 2 (fun _ => ?_) (fun z => absurd h1 z)
      refine pk_eq (hk_c l q / 256 % 256) 0 (fun _ => ?_) (fun z => absurd h2 z)
      refine br_t (nI_le (b := 3) (by omega) (by omega)) (nm_e ?_)
      refine sw_711 os (by omega) (by rw [List.length_cons] at lst'; omega) ?_ ihq
      rw [show (4 : Int32) = nI 4 from rfl, show (16 : Int32) = nI 16 from rfl, pk_mul, nI_add]
    · have k1 : hk_c l q / 65536 = 3 := by rw [h1]
      have k2 : hk_c l q / 256 % 256 = 0 := by rw [h1]
      have k3 : hk_c l q % 256 = 0 := by rw [h1]
      have of' := os f List.mem_cons_self
      have ox := os x (List.mem_cons_of_mem _ List.mem_cons_self)
      have lf := sv_ok_lt of'
      have lx := sv_ok_lt ox
      have ow : sv_oks w := fun z hz => os z (List.mem_cons_of_mem _ (List.mem_cons_of_mem _ hz))
      have oxw : sv_oks (x :: w) := fun z hz => os z (List.mem_cons_of_mem _ hz)
      have ly := sv_ok_lt (sv_cb_ok of' ox hy)
      have lw : w.length < 16 := by rw [List.length_cons] at lst'; omega
      have l1 : (x :: w).length ≤ 16 := by rw [List.length_cons]; omega
      have l2 : (f :: x :: w).length ≤ 16 := by
        obtain ⟨n2, r3, r4⟩ : ∃ n2, hk_run (n2 + 1) (l.drop (q + 1)) = some 0 ∧ n2 + 1 ≤ 16 := by
          rcases Nat.lt_or_ge (q + 1) l.length with z | z
          · exact sv_16 g.1 l32 z
          · rw [List.drop_of_length_le (by omega)] at hst
            cases hst
        obtain ⟨vs2, v1, v2, v3, -⟩ := sv_run va r3 hst
        rw [List.append_nil] at v2
        rw [v2]; omega
      refine pk_eq (hk_c l q / 65536) 1 (fun z => absurd z (by omega)) (fun _ => ?_)
      refine pk_eq (hk_c l q / 65536) 2 (fun z => absurd z (by omega)) (fun _ => ?_)
      refine pk_eq (hk_c l q / 65536) 3 (fun _ => ?_) (fun z => absurd k1 z)
      refine pk_eq (hk_c l q / 256 % 256) 0 (fun _ => ?_) (fun z => absurd k2 z)
      refine pk_eq (hk_c l q % 256) 0 (fun _ => ?_) (fun z => absurd k3 z)
      refine br_t (nI_le (a := 2) (by rw [List.length_cons, List.length_cons]; omega) (by omega)) ?_
      refine nm_r (e' := nI f) (by rw [sv_top (by omega)]; exact lN_i f) ?_
      refine nm_r (sv_plo (sw_by os) l2) (nm_r (sv_phi (sw_by os) l2) ?_)
      refine nm_r (e' := nI (x :: w).length) (pk_m1 _) ?_
      refine nm_r (e' := nI x) (by rw [sv_top (by omega)]; exact lN_i x) ?_
      refine nm_r (sv_plo (sw_by oxw) l1) (nm_r (sv_phi (sw_by oxw) l1) ?_)
      refine nm_r (e' := nI w.length) (pk_m1 _) ?_
      refine sw_lc lf lx hy (br_t (nI_pos' (by omega)) ?_)
      exact sw_711 ow ly lw rfl ihq
end
