/-! the table: what a handle means, and terms that have a type -/
def sv_is (T : hk_T) (j d c : Nat) : Prop := 3 ≤ j ∧ j < T.1 ∧ T.2.1 j = d ∧ T.2.2 j = c
def sv_le (T T' : hk_T) : Prop := T.1 ≤ T'.1 ∧ ∀ j, 3 ≤ j → j < T.1 → T'.2.1 j = T.2.1 j ∧ T'.2.2 j = T.2.2 j
theorem sv_le_r (T : hk_T) : sv_le T T := ⟨Nat.le_refl _, fun _ _ _ => ⟨rfl, rfl⟩⟩
theorem sv_le_t {T T' T'' : hk_T} (h : sv_le T T') (h' : sv_le T' T'') : sv_le T T'' :=
  ⟨Nat.le_trans h.1 h'.1, fun j h3 hj => ⟨(h'.2 j h3 (Nat.lt_of_lt_of_le hj h.1)).1.trans (h.2 j h3 hj).1, (h'.2 j h3 (Nat.lt_of_lt_of_le hj h.1)).2.trans (h.2 j h3 hj).2⟩⟩
theorem sv_is_le {T T' : hk_T} {j d c : Nat} (h : sv_le T T') (hj : sv_is T j d c) : sv_is T' j d c :=
  ⟨hj.1, Nat.lt_of_lt_of_le hj.2.1 h.1, (h.2 j hj.1 hj.2.1).1.trans hj.2.2.1, (h.2 j hj.1 hj.2.1).2.trans hj.2.2.2⟩
theorem sv_fd_is {D C : Nat → Nat} {d c j : Nat} : ∀ {k i : Nat}, hk_fd D C d c k i = some j → D j = d ∧ C j = c
  | 0, i, h => by cases h
  | k + 1, i, h => by
    by_cases z : D i = d ∧ C i = c
    · rw [hk_fd_t z] at h; cases h; exact z
    · rw [hk_fd_f z] at h; exact sv_fd_is h
theorem sv_it_le (T : hk_T) (d c : Nat) : sv_le T (hk_it T d c).2 := by
  cases hf : hk_find T d c with
  | some j => rw [hk_it_f hf]; exact sv_le_r T
  | none =>
    by_cases z : 48 ≤ T.1
    · rw [hk_it_z hf z]; exact sv_le_r T
    · rw [hk_it_a hf z]
      refine ⟨Nat.le_succ _, fun j h3 hj => ⟨?_, ?_⟩⟩
      · exact hk_up_n (by omega)
      · exact hk_up_n (by omega)
theorem sv_it_is {T : hk_T} {d c j : Nat} (ht : hk_ti T) (h : (hk_it T d c).1 = some j) : sv_is (hk_it T d c).2 j d c := by
  have h5 := ht.1
  cases hf : hk_find T d c with
  | some i =>
    rw [hk_it_f hf] at h ⊢
    cases h
    have w := hk_find_in hf (by omega)
    have q := sv_fd_is hf
    exact ⟨w.1, w.2, q.1, q.2⟩
  | none =>
    by_cases z : 48 ≤ T.1
    · rw [hk_it_z hf z] at h; cases h
    · rw [hk_it_a hf z] at h ⊢
      cases h
      exact ⟨by omega, Nat.lt_succ_self _, hk_up_s _ _ _, hk_up_s _ _ _⟩
theorem sv_ie_le (T : hk_T) (a : Nat) : sv_le T (hk_ie T a).2 := sv_le_t (sv_it_le T a 0) (sv_it_le _ a _)
theorem sv_ie_is {T : hk_T} {a j : Nat} (ht : hk_ti T) (ha : a < T.1) (hne : (hk_it T a 0).1 ≠ none) (h : (hk_ie T a).1 = some j) : ∃ f, sv_is (hk_ie T a).2 f a 0 ∧ sv_is (hk_ie T a).2 j a f := by
  have h0 : 0 < T.1 := by have := ht.1; omega
  obtain ⟨i1, i2, i3, i4⟩ := hk_it_ok (d := a) (c := 0) ht ha h0
  cases hf : (hk_it T a 0).1 with
  | none => exact absurd hf hne
  | some f =>
    have e : hk_ie T a = hk_it (hk_it T a 0).2 a f := by unfold hk_ie; rw [hf]; rfl
    rw [e] at h ⊢
    exact ⟨f, sv_is_le (sv_it_le _ a f) (sv_it_is ht hf), sv_it_is i1 h⟩
def sv_ty (T : hk_T) (e t : Nat) : Prop :=
  sv_ok e = true ∧ ((e < 16 ∧ t = e / 4) ∨ (16 ≤ e ∧ e < 32 ∧ ∃ f, sv_is T f (e / 4 - 4) 0 ∧ sv_is T t (e / 4 - 4) f) ∨ (32 ≤ e ∧ sv_is T t (e / 4 - 8) 0))
theorem sv_ty_le {T T' : hk_T} {e t : Nat} (h : sv_le T T') (ht : sv_ty T e t) : sv_ty T' e t := by
  refine ⟨ht.1, ?_⟩
  rcases ht.2 with z | ⟨z1, z2, f, z3, z4⟩ | ⟨z1, z2⟩
  · exact Or.inl z
  · exact Or.inr (Or.inl ⟨z1, z2, f, sv_is_le h z3, sv_is_le h z4⟩)
  · exact Or.inr (Or.inr ⟨z1, sv_is_le h z2⟩)
theorem sv_ok32 : sv_all (fun e => !sv_ok e || (decide (e < 32) || (!decide (e / 4 = 8) || decide (e = 32 ∨ e = 33)))) = true := by decide +kernel
theorem sv_ty_t {T : hk_T} {e t : Nat} (hT : hk_ti T) (h : sv_ty T e t) (h4 : t < 4) : sv_t e = t := by
  obtain ⟨t1, t2, t3, t4, t5, t6, t7⟩ := hT
  have lt := sv_ok_lt h.1
  rcases h.2 with ⟨z1, z2⟩ | ⟨z1, z2, f, z3, z4⟩ | ⟨z1, z2⟩
  · unfold sv_t; rw [if_pos z1]; exact z2.symm
  · exfalso
    have e3 : t = 3 := by have := z4.1; omega
    subst e3
    have := z4.2.2.2
    rw [t4] at this
    have := z3.1
    omega
  · have e3 : t = 3 := by have := z2.1; omega
    subst e3
    have e0 := z2.2.2.1
    rw [t3] at e0
    have q := sv_all_o sv_ok32 lt
    have n32 : ¬ e < 32 := by omega
    have e8 : e / 4 = 8 := by omega
    rw [h.1, decide_eq_false n32, decide_eq_true e8] at q
    have q : e = 32 ∨ e = 33 := of_decide_eq_true q
    unfold sv_t
    rw [if_neg (by omega), if_pos q]
theorem sv_ty_b {T : hk_T} {e : Nat} (hT : hk_ti T) (h : sv_ty T e 0) : e < 2 := sv_t0 h.1 (sv_ty_t hT h (by omega))
theorem sv_f6 : ∀ a, a < 4 → sv_all (fun x => !sv_ok x || (!decide (sv_t x = a) || (match sv_cb (16 + a * 4) x with | none => false | some g => sv_ok g && decide (32 ≤ g) && decide (g / 4 - 8 = a)))) = true := by
  intro a ha
  have : a = 0 ∨ a = 1 ∨ a = 2 ∨ a = 3 := by omega
  rcases this with rfl | rfl | rfl | rfl <;> decide +kernel
theorem sv_f7 : sv_all (fun f => sv_all (fun x => !sv_ok f || !sv_ok x || (decide (f < 32) || (!decide (sv_t x = f / 4 - 8) || (match sv_cb f x with | none => false | some e => decide (e < 2)))))) = true := by decide +kernel
theorem sv_b_ty {T : hk_T} {e : Nat} (h : e < 2) : sv_ty T e 0 := ⟨(sv_b h).1, Or.inl ⟨by omega, by omega⟩⟩
theorem sv_eqn_f : sv_all (fun e => !sv_ok e || (decide (e < 16) || (decide (32 ≤ e) || decide (e = 16 + (e / 4 - 4) * 4)))) = true := by decide +kernel
theorem sv_ty_cb {T : hk_T} {f x tf tx : Nat} (hT : hk_ti T) (hf : sv_ty T f tf) (hx : sv_ty T x tx) (h3 : 3 ≤ tf) (hd : T.2.1 tf = tx) : ∃ e, sv_cb f x = some e ∧ sv_ty T e (T.2.2 tf) := by
  have hT' := hT
  obtain ⟨t1, t2, t3, t4, t5, t6, t7⟩ := hT'
  have lf := sv_ok_lt hf.1
  have lx := sv_ok_lt hx.1
  rcases hf.2 with ⟨z1, z2⟩ | ⟨z1, z2, g, z3, z4⟩ | ⟨z1, z2⟩
  · have e3 : tf = 3 := by omega
    subst e3
    rw [t3] at hd
    subst hd
    have a1 := sv_ty_t hT hf (by omega)
    have a2 := sv_ty_t hT hx (by omega)
    obtain ⟨e, e1, e2⟩ := sv_app1 hf.1 hx.1 a1 a2
    exact ⟨e, e1, by rw [t4]; exact sv_b_ty e2⟩
  · have q4 : f / 4 - 4 < 4 := by omega
    have ed : f / 4 - 4 = tx := by rw [← hd]; exact z4.2.2.1.symm
    have a2 := sv_ty_t hT hx (by omega)
    have q := sv_all_o (sv_f6 (f / 4 - 4) q4) lx
    rw [hx.1, decide_eq_true (show sv_t x = f / 4 - 4 by omega)] at q
    have ef : f = 16 + (f / 4 - 4) * 4 := by
      have w := sv_all_o sv_eqn_f lf
      rw [hf.1, decide_eq_false (show ¬ f < 16 by omega), decide_eq_false (show ¬ 32 ≤ f by omega)] at w
      exact of_decide_eq_true w
    rw [ef]
    cases hc : sv_cb (16 + (f / 4 - 4) * 4) x with
    | none => rw [hc] at q; cases q
    | some e =>
      rw [hc] at q
      have q : (sv_ok e && decide (32 ≤ e) && decide (e / 4 - 8 = f / 4 - 4)) = true := q
      rw [Bool.and_eq_true, Bool.and_eq_true] at q
      have q3 : e / 4 - 8 = f / 4 - 4 := of_decide_eq_true q.2
      refine ⟨e, rfl, q.1.1, Or.inr (Or.inr ⟨of_decide_eq_true q.1.2, ?_⟩)⟩
      rw [z4.2.2.2, q3]; exact z3
  · have ed : f / 4 - 8 = tx := by rw [← hd]; exact z2.2.2.1.symm
    have a2 := sv_ty_t hT hx (by omega)
    have q := sv_or3 (sv_all_o (sv_all_o sv_f7 lf) lx) hf.1 hx.1
    rw [decide_eq_false (show ¬ f < 32 by omega), decide_eq_true (show sv_t x = f / 4 - 8 by omega)] at q
    cases hc : sv_cb f x with
    | none => rw [hc] at q; cases q
    | some e =>
      rw [hc] at q
      exact ⟨e, rfl, by rw [z2.2.2.2]; exact sv_b_ty (of_decide_eq_true q)⟩
/-- a term of type t -/
def sv_tm (T : hk_T) (l : List Nat) (t : Nat) : Prop := ∀ s, sv_va s → ∃ e, sv_ty T e t ∧ sv_v s l e
theorem sv_tm_le {T T' : hk_T} {l : List Nat} {t : Nat} (h : sv_le T T') (ht : sv_tm T l t) : sv_tm T' l t := by
  intro s hs
  obtain ⟨e, e1, e2⟩ := ht s hs
  exact ⟨e, sv_ty_le h e1, e2⟩
theorem sv_tm_var {T : hk_T} {i t : Nat} (hi : i < 2) (ht : t < 4) : sv_tm T [65536 + i * 256 + t] t := by
  intro s hs
  have k1 : (65536 + i * 256 + t) / 65536 = 1 := by omega
  have k2 : (65536 + i * 256 + t) / 256 % 256 = i := by omega
  have k3 : (65536 + i * 256 + t) % 256 = t := by omega
  obtain ⟨a1, a2⟩ := hs i t hi ht
  refine ⟨t * 4 + s i t, ⟨a2, Or.inl ⟨by omega, by omega⟩⟩, fun st => ?_⟩
  rw [sv_ev_s _ (sv_ev_n s st), sv_st_1 k1, k2, k3, if_pos ⟨hi, ht⟩]
theorem sv_tm_eq {T : hk_T} {a f j : Nat} (ha : a < 4) (h1 : sv_is T f a 0) (h2 : sv_is T j a f) : sv_tm T [131072 + a] j := by
  intro s hs
  obtain ⟨c1, c2, c3⟩ := sv_c2 ha
  have e4 : (16 + a * 4) / 4 - 4 = a := by omega
  refine ⟨16 + a * 4, ⟨sv_eq_ok a ha, Or.inr (Or.inl ⟨by omega, by omega, f, by rw [e4]; exact h1, by rw [e4]; exact h2⟩)⟩, fun st => ?_⟩
  rw [sv_ev_s _ (sv_ev_n s st), sv_st_2 c1, if_pos ⟨c2, by omega⟩, c3]
theorem sv_tm_comb {T : hk_T} {f x : List Nat} {tf tx : Nat} (hT : hk_ti T) (hf : sv_tm T f tf) (hx : sv_tm T x tx) (h3 : 3 ≤ tf) (hd : T.2.1 tf = tx) : sv_tm T ([196608] ++ f ++ x) (T.2.2 tf) := by
  intro s hs
  obtain ⟨a, a1, a2⟩ := hf s hs
  obtain ⟨b, b1, b2⟩ := hx s hs
  obtain ⟨e, e1, e2⟩ := sv_ty_cb hT a1 b1 h3 hd
  refine ⟨e, e2, fun st => ?_⟩
  have w : sv_ev s (f ++ x) st = some (a :: b :: st) := by rw [sv_ev_app (b2 st)]; exact a2 _
  show sv_ev s (196608 :: (f ++ x)) st = _
  rw [sv_ev_s _ w]; exact sv_st_3 e1
theorem sv_va0 : sv_va (fun _ _ => 0) := by
  intro i t hi ht
  refine ⟨by show 0 < 4; decide, ?_⟩
  show sv_ok (t * 4 + 0) = true
  have : t = 0 ∨ t = 1 ∨ t = 2 ∨ t = 3 := by omega
  rcases this with rfl | rfl | rfl | rfl <;> decide
/-- a variable's node is one of the law's variables -/
theorem sv_tm_vc {T : hk_T} {c t : Nat} (h : sv_tm T [c] t) (hk : c / 65536 = 1) : c / 256 % 256 < 2 ∧ c % 256 < 4 := by
  obtain ⟨e, e1, e2⟩ := h _ sv_va0
  have q := e2 []
  rw [sv_ev_s _ (sv_ev_n _ []), sv_st_1 hk] at q
  split at q
  · assumption
  · cases q
/-- the stack's height on the way -/
theorem sv_hgt : ∀ {l : List Nat} {n m : Nat}, hk_run n l = some m → m ≤ n + l.length
  | [], n, m, h => by
    rw [hk_run_nil] at h
    cases h
    exact Nat.le_refl _
  | c :: l, 0, m, h => by rw [hk_run_0] at h; cases h
  | c :: l, n + 1, m, h => by
    rw [hk_run_s] at h
    have := sv_hgt h
    have w : hk_ar c ≤ 2 := by
      unfold hk_ar
      split
      · omega
      · split <;> omega
    rw [List.length_cons]; omega
theorem sv_16 {l : List Nat} (h : hk_run 1 l = some 0) (hl : l.length ≤ 32) {p : Nat} (hp : p < l.length) : ∃ n, hk_run (n + 1) (l.drop p) = some 0 ∧ n + 1 ≤ 16 := by
  obtain ⟨n, h1, h2⟩ := hk_at_ex h hp
  refine ⟨n, h2.2, ?_⟩
  have a := sv_hgt h1
  have b := hk_run_len h2.2
  rw [List.length_take] at a
  rw [List.length_drop] at b
  omega
