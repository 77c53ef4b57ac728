/-! equations and their meaning -/
theorem sv_c2 {a : Nat} (ha : a < 4) : (131072 + a) / 65536 = 2 ∧ (131072 + a) / 256 % 256 = 0 ∧ (131072 + a) % 256 = a := by omega
/-- the value of s = t -/
theorem sv_mkeq {s : Nat → Nat → Nat} (hs : sv_va s) {a x y : Nat} {l r : List Nat} (ha : a < 4) (hx : sv_ok x = true) (hy : sv_ok y = true) (tx : sv_t x = a) (ty : sv_t y = a) (vl : sv_v s l x) (vr : sv_v s r y) : sv_v s (hk_eq a l r) (if sv_n x = sv_n y then 1 else 0) := by
  intro st
  obtain ⟨g, g1, g2⟩ := sv_q2 ha hx hy tx ty
  obtain ⟨c1, c2, c3⟩ := sv_c2 ha
  have e1 : sv_ev s (l ++ r) st = some (x :: y :: st) := by rw [sv_ev_app (vr st)]; exact vl _
  have e2 : sv_ev s ((131072 + a) :: (l ++ r)) st = some ((16 + a * 4) :: x :: y :: st) := by
    rw [sv_ev_s _ e1, sv_st_2 c1, if_pos ⟨c2, by omega⟩, c3]
  have e3 : sv_ev s (196608 :: (131072 + a) :: (l ++ r)) st = some (g :: y :: st) := by rw [sv_ev_s _ e2]; exact sv_st_3 g1
  unfold hk_eq
  rw [sv_ev_s _ e3]; exact sv_st_3 g2
/-- taking an equation apart -/
theorem sv_eqn {s : Nat → Nat → Nat} (hs : sv_va s) {l : List Nat} {e : Nat} (h : hk_run 1 l = some 0) (he : hk_ise l) (hv : sv_v s l e) :
    ∃ x y, hk_c l 2 % 256 < 4 ∧ sv_ok x = true ∧ sv_ok y = true ∧ sv_t x = hk_c l 2 % 256 ∧ sv_t y = hk_c l 2 % 256 ∧ sv_v s ((l.drop 3).take (hk_e l 3 - 3)) x ∧ sv_v s (l.drop (hk_e l 3)) y ∧ e = if sv_n x = sv_n y then 1 else 0 := by
  obtain ⟨t1, t2, t3, t4, t5, t6, t7⟩ := hk_ise_at h he
  have E : l = hk_c l 0 :: hk_c l 1 :: hk_c l 2 :: ((l.drop 3).take (hk_e l 3 - 3) ++ l.drop (hk_e l 3)) := by
    have a0 := hk_c_drop (l := l) (p := 0) (by omega)
    have a1 := hk_c_drop (l := l) (p := 1) (by omega)
    have a2 := hk_c_drop (l := l) (p := 2) (by omega)
    rw [List.drop_zero] at a0
    have a3 : l.drop 3 = (l.drop 3).take (hk_e l 3 - 3) ++ l.drop (hk_e l 3) := by
      have := List.take_append_drop (hk_e l 3 - 3) (l.drop 3)
      rw [List.drop_drop, show 3 + (hk_e l 3 - 3) = hk_e l 3 by omega] at this
      exact this.symm
    have a1 : l.drop (0 + 1) = hk_c l 1 :: l.drop (1 + 1) := a1
    have a2 : l.drop (1 + 1) = hk_c l 2 :: l.drop 3 := a2
    rw [a1, a2, a3] at a0
    exact a0
  have hv0 := hv []
  generalize (l.drop 3).take (hk_e l 3 - 3) = S at *
  generalize l.drop (hk_e l 3) = R at *
  rw [E] at hv0
  obtain ⟨q0, p0, z0⟩ := sv_ev_i hv0
  obtain ⟨q1, p1, z1⟩ := sv_ev_i p0
  obtain ⟨q2, p2, z2⟩ := sv_ev_i p1
  obtain ⟨q3, p3, p4⟩ := sv_ev_spl p2
  obtain ⟨y, rfl, oy, vy⟩ := sv_v_of hs t7 p3
  obtain ⟨x, rfl, ox, vx⟩ := sv_v_of hs t6 p4
  rcases sv_st_i z2 with ⟨h1, h2, h3, rfl⟩ | ⟨h1, h2, h3, rfl⟩ | ⟨h1, f, x', w, e', hw, he', rfl⟩
  · have := he.2.2; omega
  · rcases sv_st_i z1 with ⟨k1, k2, k3, rfl⟩ | ⟨k1, k2, k3, rfl⟩ | ⟨k1, f, x', w, e1, hw, he1, rfl⟩
    · have := he.2.1; omega
    · have := he.2.1; omega
    · rcases sv_st_i z0 with ⟨m1, m2, m3, hz⟩ | ⟨m1, m2, m3, hz⟩ | ⟨m1, f2, x2, w2, e2, hw2, he2, hz⟩
      · have := he.1; omega
      · have := he.1; omega
      · cases hw
        cases hw2
        cases hz
        obtain ⟨b1, b2, b3⟩ := sv_q1 h3 ox oy he1 he2
        exact ⟨x, y, h3, ox, oy, b1, b2, vx, vy, b3⟩
  · have := he.2.2; omega
/-! theorems that hold -/
def sv_th (H : List (List Nat)) (Cn : List Nat) : Prop := ∀ s, sv_va s → (∀ h, h ∈ H → ∃ e, e < 2 ∧ sv_v s h e) ∧ ∃ e, e < 2 ∧ sv_v s Cn e ∧ ((∀ h, h ∈ H → sv_v s h 1) → e = 1)
theorem sv_if (x y : Nat) : (if x = y then 1 else 0) < 2 := by split <;> omega
theorem sv_if1 {x y : Nat} (h : (if x = y then 1 else 0) = 1) : x = y := by
  split at h
  · assumption
  · omega
theorem sv_un_in {HA HB : List (List Nat)} {h : List Nat} : h ∈ hk_un [] (HA ++ HB) ↔ h ∈ HA ∨ h ∈ HB := by
  rw [hk_un_mem, List.mem_append]
  exact ⟨fun z => z.elim id (fun y => absurd y List.not_mem_nil), Or.inl⟩
theorem sv_refl {l : List Nat} {a : Nat} (ha : a < 4) (h : ∀ s, sv_va s → ∃ e, sv_ok e = true ∧ sv_t e = a ∧ sv_v s l e) : sv_th [] (hk_eq a l l) := by
  intro s hs
  obtain ⟨e, o, t, v⟩ := h s hs
  refine ⟨fun h hh => absurd hh List.not_mem_nil, _, sv_if _ _, sv_mkeq hs ha o o t t v v, fun _ => if_pos rfl⟩
theorem sv_n16 {x : Nat} (h : x < 16) : sv_n x = x := by unfold sv_n; rw [if_neg (by omega), if_neg (by omega)]
theorem sv_trans {la lb : List Nat} {HA HB : List (List Nat)} {n : Nat} (ga : hk_gt n la) (gb : hk_gt n lb) (A : sv_th HA la) (B : sv_th HB lb) (ea : hk_ise la) (eb : hk_ise lb) (em : la.drop (hk_e la 3) = (lb.drop 3).take (hk_e lb 3 - 3)) : sv_th (hk_un [] (HA ++ HB)) (vl_trans la lb) := by
  intro s hs
  obtain ⟨a1, p, p1, p2, p3⟩ := A s hs
  obtain ⟨b1, q, q1, q2, q3⟩ := B s hs
  obtain ⟨x, y, u1, u2, u3, u4, u5, u6, u7, u8⟩ := sv_eqn hs ga.1 ea p2
  obtain ⟨y', z, w1, w2, w3, w4, w5, w6, w7, w8⟩ := sv_eqn hs gb.1 eb q2
  rw [← em] at w6
  have ey := sv_v_u u7 w6
  subst ey
  obtain ⟨-, -, -, -, -, -, -, dA⟩ := hk_ise_sides ga ea
  obtain ⟨-, -, -, -, -, -, dB, -⟩ := hk_ise_sides gb eb
  have e : vl_trans la lb = hk_eq (hk_c la 2 % 256) ((la.drop 3).take (hk_e la 3 - 3)) (lb.drop (hk_e lb 3)) := by
    unfold vl_trans hk_eq
    rw [dA, dB]; simp
  refine ⟨fun h hh => (sv_un_in.mp hh).elim (a1 h) (b1 h), (if sv_n x = sv_n z then 1 else 0), sv_if _ _, ?_, fun H => ?_⟩
  · rw [e]; exact sv_mkeq hs u1 u2 w3 u4 (by rw [w5, ← w4, u5]) u6 w7
  · have k1 := p3 (fun h hh => H h (sv_un_in.mpr (Or.inl hh)))
    have k2 := q3 (fun h hh => H h (sv_un_in.mpr (Or.inr hh)))
    rw [u8] at k1
    rw [w8] at k2
    rw [if_pos ((sv_if1 k1).trans (sv_if1 k2))]
theorem sv_comb {la lb : List Nat} {HA HB : List (List Nat)} {n : Nat} (ga : hk_gt n la) (gb : hk_gt n lb) (A : sv_th HA la) (B : sv_th HB lb) (ea : hk_ise la) (eb : hk_ise lb) (h3 : hk_c la 2 % 256 = 3) (h0 : hk_c lb 2 % 256 = 0) : sv_th (hk_un [] (HA ++ HB)) (vl_comb 0 la lb) := by
  intro s hs
  obtain ⟨a1, p, p1, p2, p3⟩ := A s hs
  obtain ⟨b1, q, q1, q2, q3⟩ := B s hs
  obtain ⟨f, g, u1, u2, u3, u4, u5, u6, u7, u8⟩ := sv_eqn hs ga.1 ea p2
  obtain ⟨x, y, w1, w2, w3, w4, w5, w6, w7, w8⟩ := sv_eqn hs gb.1 eb q2
  rw [h3] at u4 u5
  rw [h0] at w4 w5
  obtain ⟨-, -, -, -, -, -, dA1, dA2⟩ := hk_ise_sides ga ea
  obtain ⟨-, -, -, -, -, -, dB1, dB2⟩ := hk_ise_sides gb eb
  obtain ⟨v, v1, v2⟩ := sv_app1 u2 w2 u4 w4
  obtain ⟨v', v1', v2'⟩ := sv_app1 u3 w3 u5 w5
  have cmb : ∀ {k m : List Nat} {c d e : Nat}, sv_v s k c → sv_v s m d → sv_cb c d = some e → sv_v s (196608 :: (k ++ m)) e := by
    intro k m c d e hk hm hc st
    have e1 : sv_ev s (k ++ m) st = some (c :: d :: st) := by rw [sv_ev_app (hm st)]; exact hk _
    rw [sv_ev_s _ e1]; exact sv_st_3 hc
  have e : vl_comb 0 la lb = hk_eq 0 (196608 :: ((la.drop 3).take (hk_e la 3 - 3) ++ (lb.drop 3).take (hk_e lb 3 - 3))) (196608 :: (la.drop (hk_e la 3) ++ lb.drop (hk_e lb 3))) := by
    unfold vl_comb hk_eq
    rw [dA1, dA2, dB1, dB2]; simp
  obtain ⟨o1, o2, o3⟩ := sv_b v2
  obtain ⟨o1', o2', o3'⟩ := sv_b v2'
  refine ⟨fun h hh => (sv_un_in.mp hh).elim (a1 h) (b1 h), (if sv_n v = sv_n v' then 1 else 0), sv_if _ _, ?_, fun H => ?_⟩
  · rw [e]; exact sv_mkeq hs (by omega) o1 o1' o2 o2' (cmb u6 w6 v1) (cmb u7 w7 v1')
  · have k1 := p3 (fun h hh => H h (sv_un_in.mpr (Or.inl hh)))
    have k2 := q3 (fun h hh => H h (sv_un_in.mpr (Or.inr hh)))
    rw [u8] at k1
    rw [w8] at k2
    have n1 := sv_cb_n u2 w2
    rw [sv_if1 k1, sv_if1 k2, sv_cb_n u3 w3, v1', v1] at n1
    have : v' = v := Option.some.inj n1
    rw [this, if_pos rfl]
theorem sv_assume {l : List Nat} (h : ∀ s, sv_va s → ∃ e, e < 2 ∧ sv_v s l e) : sv_th [l] l := by
  intro s hs
  obtain ⟨e, e1, e2⟩ := h s hs
  refine ⟨fun y hy => by rw [List.mem_singleton.mp hy]; exact ⟨e, e1, e2⟩, e, e1, e2, fun H => sv_v_u e2 (H l List.mem_cons_self)⟩
theorem sv_mp {la lb : List Nat} {HA HB : List (List Nat)} {n : Nat} (ga : hk_gt n la) (A : sv_th HA la) (B : sv_th HB lb) (ea : hk_ise la) (em : (la.drop 3).take (hk_e la 3 - 3) = lb) : sv_th (hk_un [] (HA ++ HB)) (vl_mp la) := by
  intro s hs
  obtain ⟨a1, p, p1, p2, p3⟩ := A s hs
  obtain ⟨b1, q, q1, q2, q3⟩ := B s hs
  obtain ⟨x, y, u1, u2, u3, u4, u5, u6, u7, u8⟩ := sv_eqn hs ga.1 ea p2
  obtain ⟨-, -, -, -, -, -, dA1, -⟩ := hk_ise_sides ga ea
  rw [em] at u6
  have ex := sv_v_u u6 q2
  subst ex
  rw [(sv_b q1).2.1] at u4
  rw [← u4] at u5
  have y2 := sv_t0 u3 u5
  refine ⟨fun h hh => (sv_un_in.mp hh).elim (a1 h) (b1 h), y, y2, ?_, fun H => ?_⟩
  · unfold vl_mp; rw [dA1]; exact u7
  · have k1 := p3 (fun h hh => H h (sv_un_in.mpr (Or.inl hh)))
    have k2 := q3 (fun h hh => H h (sv_un_in.mpr (Or.inr hh)))
    rw [u8] at k1
    have := sv_n2 (sv_if1 k1) y2
    omega
theorem sv_ded {la lb : List Nat} {HA HB : List (List Nat)} (A : sv_th HA la) (B : sv_th HB lb) : sv_th (vh_ded la lb HA HB) (hk_eq 0 la lb) := by
  intro s hs
  obtain ⟨a1, p, p1, p2, p3⟩ := A s hs
  obtain ⟨b1, q, q1, q2, q3⟩ := B s hs
  obtain ⟨o1, o2, o3⟩ := sv_b p1
  obtain ⟨o1', o2', o3'⟩ := sv_b q1
  refine ⟨fun h hh => (sv_un_in.mp hh).elim (fun z => a1 h ((List.mem_filter.mp z).1)) (fun z => b1 h ((List.mem_filter.mp z).1)), _, sv_if _ _, sv_mkeq hs (by omega) o1 o1' o2 o2' p2 q2, fun H => ?_⟩
  rw [o3, o3']
  have fA : q = 1 → p = 1 := by
    intro hq
    refine p3 (fun h hh => ?_)
    by_cases z : h = lb
    · rw [z, ← hq]; exact q2
    · exact H h (sv_un_in.mpr (Or.inl (List.mem_filter.mpr ⟨hh, (hk_ne_iff lb h).mpr z⟩)))
  have fB : p = 1 → q = 1 := by
    intro hp
    refine q3 (fun h hh => ?_)
    by_cases z : h = la
    · rw [z, ← hp]; exact p2
    · exact H h (sv_un_in.mpr (Or.inr (List.mem_filter.mpr ⟨hh, (hk_ne_iff la h).mpr z⟩)))
  rw [if_pos]
  by_cases z : p = 1
  · rw [z, fB z]
  · by_cases w : q = 1
    · exact absurd (fA w) z
    · omega
/-! putting a term in for a variable -/
def sv_sb (vc : Nat) (u : List Nat) : List Nat → List Nat
  | [] => []
  | c :: l => (if c = vc then u else [c]) ++ sv_sb vc u l
theorem sv_fm_sh (f : Nat → List Nat) (a : Nat) : ∀ k, hk_fm f (a + 1) k = hk_fm (fun p => f (p + 1)) a k
  | 0 => rfl
  | k + 1 => by
    show hk_fm f (a + 1) k ++ f (a + 1 + k) = hk_fm (fun p => f (p + 1)) a k ++ f (a + k + 1)
    rw [sv_fm_sh f a k, show a + 1 + k = a + k + 1 by omega]
theorem sv_sb_eq (vc : Nat) (u : List Nat) : ∀ l : List Nat, hk_sb l vc u = sv_sb vc u l
  | [] => rfl
  | c :: l => by
    have ih := sv_sb_eq vc u l
    unfold hk_sb at ih ⊢
    rw [List.length_cons, hk_fm_l, sv_fm_sh]
    show (if c = vc then u else [c]) ++ hk_fm (fun p => if hk_c l p = vc then u else [hk_c l p]) 0 l.length = _
    rw [ih]; rfl
def sv_up (s : Nat → Nat → Nat) (i d x : Nat) : Nat → Nat → Nat := fun j t => if j = i ∧ t = d then x else s j t
theorem sv_up_va {s : Nat → Nat → Nat} (hs : sv_va s) {i d x : Nat} (hx : sv_ok x = true) (h16 : x < 16) (hd : x / 4 = d) : sv_va (sv_up s i d (x % 4)) := by
  intro j t hj ht
  unfold sv_up
  split
  · rename_i z
    obtain ⟨rfl, rfl⟩ := z
    refine ⟨Nat.mod_lt _ (by decide), ?_⟩
    rw [← hd, show x / 4 * 4 + x % 4 = x by omega]; exact hx
  · exact hs j t hj ht
theorem sv_subst {s : Nat → Nat → Nat} (hs : sv_va s) {i d vc e : Nat} {u : List Nat} (hvc : vc = 65536 + i * 256 + d) (hi : i < 2) (hd : d < 4) (ho : sv_ok e = true) (ht : sv_t e = d) (hu : sv_v s u e) :
    ∀ {l : List Nat} {st r : List Nat}, sv_ev (sv_up s i d (sv_n e % 4)) l st = some r → sv_oks st → ∀ st2, st2.map sv_n = st.map sv_n → sv_oks st2 → ∃ r2, sv_ev s (sv_sb vc u l) st2 = some r2 ∧ r2.map sv_n = r.map sv_n ∧ sv_oks r2 ∧ sv_oks r := by
  obtain ⟨n1, n2, n3⟩ := sv_nok ho (by omega)
  have hs' := sv_up_va hs (i := i) (d := d) n1 n2 (by omega)
  intro l
  induction l with
  | nil =>
    intro st r h o st2 m o2
    cases h
    exact ⟨st2, rfl, m, o2, o⟩
  | cons c l ih =>
    intro st r h o st2 m o2
    obtain ⟨q, e1, e2⟩ := sv_ev_i h
    obtain ⟨q2, f1, f2, f3, f4⟩ := ih e1 o st2 m o2
    have or : sv_oks r := sv_st_ok hs' e2 f4
    rw [sv_sb]
    by_cases z : c = vc
    · rw [if_pos z, sv_ev_app f1, hu q2]
      subst z
      have k1 : c / 65536 = 1 := by omega
      have k2 : c / 256 % 256 = i := by omega
      have k3 : c % 256 = d := by omega
      rw [sv_st_1 k1, k2, k3, if_pos ⟨hi, hd⟩] at e2
      cases e2
      have en : d * 4 + sv_up s i d (sv_n e % 4) i d = sv_n e := by
        unfold sv_up
        rw [if_pos ⟨rfl, rfl⟩]; omega
      refine ⟨e :: q2, rfl, ?_, ?_, or⟩
      · rw [List.map_cons, List.map_cons, en, f2]
        rw [sv_n16 n2]
      · intro y hy
        rcases List.mem_cons.mp hy with w | w
        · rw [w]; exact ho
        · exact f3 y w
    · rw [if_neg z]
      show ∃ r2, sv_ev s (c :: sv_sb vc u l) st2 = some r2 ∧ _
      rw [sv_ev_s c f1]
      rcases sv_st_i e2 with ⟨h1, h2, h3, rfl⟩ | ⟨h1, h2, h3, rfl⟩ | ⟨h1, f, x, w, y, rfl, he, rfl⟩
      · have en : sv_up s i d (sv_n e % 4) (c / 256 % 256) (c % 256) = s (c / 256 % 256) (c % 256) := by
          unfold sv_up
          rw [if_neg (fun y => z (by omega))]
        rw [sv_st_1 h1, if_pos ⟨h2, h3⟩, en]
        rw [en] at or
        refine ⟨_, rfl, by rw [List.map_cons, List.map_cons, f2], ?_, or⟩
        intro y hy
        rcases List.mem_cons.mp hy with w | w
        · rw [w]; exact (hs _ _ h2 h3).2
        · exact f3 y w
      · rw [sv_st_2 h1, if_pos ⟨h2, h3⟩]
        refine ⟨_, rfl, by rw [List.map_cons, List.map_cons, f2], ?_, or⟩
        intro y hy
        rcases List.mem_cons.mp hy with w | w
        · rw [w]; exact sv_eq_ok _ h3
        · exact f3 y w
      · subst h1
        match q2, f2, f3 with
        | [_], f2, _ => exact absurd f2 (by simp)
        | f' :: x' :: w', f2, f3 =>
          rw [List.map_cons, List.map_cons, List.map_cons, List.map_cons] at f2
          have a1 := List.cons.inj f2
          have a2 := List.cons.inj a1.2
          have of' := f3 f' List.mem_cons_self
          have ox' := f3 x' (List.mem_cons_of_mem _ List.mem_cons_self)
          have c1 := sv_cb_n of' ox'
          rw [a1.1, a2.1, sv_cb_n (f4 f List.mem_cons_self) (f4 x (List.mem_cons_of_mem _ List.mem_cons_self)), he] at c1
          refine ⟨y :: w', sv_st_3 c1.symm, by rw [List.map_cons, List.map_cons, a2.2], ?_, or⟩
          intro y' hy
          rcases List.mem_cons.mp hy with v | v
          · rw [v]; exact sv_cb_ok of' ox' c1.symm
          · exact f3 y' (List.mem_cons_of_mem _ (List.mem_cons_of_mem _ v))
theorem sv_sub1 {s : Nat → Nat → Nat} (hs : sv_va s) {i d vc e v : Nat} {u l : List Nat} (hvc : vc = 65536 + i * 256 + d) (hi : i < 2) (hd : d < 4) (ho : sv_ok e = true) (ht : sv_t e = d) (hu : sv_v s u e) (hr : hk_run 1 (hk_sb l vc u) = some 0)
    (hv : sv_v (sv_up s i d (sv_n e % 4)) l v) (h2 : v < 2) : sv_v s (hk_sb l vc u) v := by
  obtain ⟨r2, e1, e2, e3, e4⟩ := sv_subst hs hvc hi hd ho ht hu (hv []) (fun y hy => absurd hy List.not_mem_nil) [] rfl (fun y hy => absurd hy List.not_mem_nil)
  rw [← sv_sb_eq] at e1
  obtain ⟨w, rfl, ow, vw⟩ := sv_v_of hs hr e1
  rw [List.map_cons, List.map_cons] at e2
  have := sv_n2 (List.cons.inj e2).1 h2
  rw [← this]; exact vw
theorem sv_inst {la u : List Nat} {HA : List (List Nat)} {n i d vc : Nat} (ga : hk_gt n la) (gA : ∀ y, y ∈ HA → hk_gt n y) (gu : hk_gt n u) (hvc : vc = 65536 + i * 256 + d) (hi : i < 2) (hd : d < 4) (A : sv_th HA la)
    (hu : ∀ s, sv_va s → ∃ e, sv_ok e = true ∧ sv_t e = d ∧ sv_v s u e) : sv_th (hk_un [] (vh_inst HA vc u)) (hk_sb la vc u) := by
  intro s hs
  obtain ⟨e, o, t, v⟩ := hu s hs
  obtain ⟨n1, n2, n3⟩ := sv_nok o (by omega)
  have kv : vc / 65536 = 1 := by omega
  have hs' := sv_up_va hs (i := i) (d := d) n1 n2 (by omega)
  obtain ⟨a1, p, p1, p2, p3⟩ := A _ hs'
  have mem : ∀ {h}, h ∈ hk_un [] (vh_inst HA vc u) ↔ ∃ k, k ∈ HA ∧ hk_sb k vc u = h := by
    intro h
    rw [hk_un_mem]
    unfold vh_inst
    rw [List.mem_map]
    exact ⟨fun z => z.elim id (fun y => absurd y List.not_mem_nil), Or.inl⟩
  have sub : ∀ {k w}, k ∈ HA → sv_v (sv_up s i d (sv_n e % 4)) k w → w < 2 → sv_v s (hk_sb k vc u) w := fun hk hw h2 => sv_sub1 hs hvc hi hd o t v (hk_sb_run (gA _ hk).1 kv gu.1) hw h2
  refine ⟨fun h hh => ?_, p, p1, sv_sub1 hs hvc hi hd o t v (hk_sb_run ga.1 kv gu.1) p2 p1, fun H => p3 (fun k hk => ?_)⟩
  · obtain ⟨k, hk, rfl⟩ := mem.mp hh
    obtain ⟨w, w1, w2⟩ := a1 k hk
    exact ⟨w, w1, sub hk w2 w1⟩
  · obtain ⟨w, w1, w2⟩ := a1 k hk
    have := sv_v_u (sub hk w2 w1) (H _ (mem.mpr ⟨k, hk, rfl⟩))
    rw [← this]; exact w2
