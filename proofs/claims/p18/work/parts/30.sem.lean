/-! the meaning of codes. Values: below 16 one of the base types e / 4; 16 .. 31 EQ at e / 4 - 4; 32 .. 47 EQ at e / 4 - 8 with its first argument -/
def sv_ok (e : Nat) : Bool := if e < 12 then decide (e % 4 < 2) else if e < 16 then true else if e < 32 then decide (e % 4 = 0) else if e < 44 then decide (e % 4 < 2) else decide (e < 48)
def sv_ar (x : Nat) : Option (Nat × Nat) :=
  if x / 16 = 2 then (if x / 4 % 4 = 0 then some (3, 2 ^ (x % 4)) else none) else if x / 16 = 0 then some (x / 4 % 4, x % 4) else none
def sv_cb (f x : Nat) : Option Nat :=
  match sv_ar x with
  | none => none
  | some (t, v) =>
    if f / 16 = 1 then (if t = f / 4 % 4 then some (32 + f / 4 % 4 * 4 + v) else none)
    else if f / 16 = 2 then (if t = f / 4 % 4 then some (if f % 4 = v then 1 else 0) else none)
    else if f / 16 = 0 ∧ f / 4 % 4 = 3 then (if t = 0 then some (f % 4 / 2 ^ v % 2) else none) else none
def sv_n (e : Nat) : Nat := if e = 32 then 13 else if e = 33 then 14 else e
def sv_t (e : Nat) : Nat := if e < 16 then e / 4 else if e = 32 ∨ e = 33 then 3 else 9
def sv_all (p : Nat → Bool) : Bool := (List.range 48).all p
theorem sv_all_o {p : Nat → Bool} (h : sv_all p = true) {e : Nat} (he : e < 48) : p e = true := List.all_eq_true.mp h e (List.mem_range.mpr he)
theorem sv_ok_lt {e : Nat} (h : sv_ok e = true) : e < 48 := by
  unfold sv_ok at h
  split at h
  · omega
  · split at h
    · omega
    · split at h
      · omega
      · split at h
        · omega
        · exact of_decide_eq_true h
theorem sv_f1 : sv_all (fun f => sv_all (fun x => !sv_ok f || !sv_ok x || (match sv_cb f x with | none => true | some e => sv_ok e))) = true := by decide +kernel
theorem sv_f2 : sv_all (fun f => sv_all (fun x => !sv_ok f || !sv_ok x || decide (sv_cb (sv_n f) (sv_n x) = sv_cb f x))) = true := by decide +kernel
/-- EQ at a, both arguments: the types agree, and the answer is whether they are the same -/
def sv_q (a x y : Nat) : Bool :=
  match sv_cb (16 + a * 4) x with
  | none => !decide (sv_t x = a)
  | some g => match sv_cb g y with
    | none => !(decide (sv_t x = a) && decide (sv_t y = a))
    | some e => decide (sv_t x = a) && decide (sv_t y = a) && decide (e = if sv_n x = sv_n y then 1 else 0)
theorem sv_f3 : ∀ a, a < 4 → sv_all (fun x => sv_all (fun y => !sv_ok x || !sv_ok y || sv_q a x y)) = true := by
  intro a ha
  have : a = 0 ∨ a = 1 ∨ a = 2 ∨ a = 3 := by omega
  rcases this with rfl | rfl | rfl | rfl <;> decide +kernel
theorem sv_f4 : sv_all (fun f => sv_all (fun x => !sv_ok f || !sv_ok x || !decide (sv_t f = 3) || !decide (sv_t x = 0) || (match sv_cb f x with | none => false | some e => decide (e < 2)))) = true := by decide +kernel
theorem sv_f5 : sv_all (fun e => !sv_ok e || (!decide (sv_t e < 4) || (sv_ok (sv_n e) && decide (sv_n e < 16) && decide (sv_n e / 4 = sv_t e)))) = true := by decide +kernel
theorem sv_or3 {a b c : Bool} (h : (!a || !b || c) = true) (ha : a = true) (hb : b = true) : c = true := by rw [ha, hb] at h; exact h
theorem sv_cb_ok {f x e : Nat} (hf : sv_ok f = true) (hx : sv_ok x = true) (h : sv_cb f x = some e) : sv_ok e = true := by
  have := sv_or3 (sv_all_o (sv_all_o sv_f1 (sv_ok_lt hf)) (sv_ok_lt hx)) hf hx
  rw [h] at this
  exact this
theorem sv_cb_n {f x : Nat} (hf : sv_ok f = true) (hx : sv_ok x = true) : sv_cb (sv_n f) (sv_n x) = sv_cb f x :=
  of_decide_eq_true (sv_or3 (sv_all_o (sv_all_o sv_f2 (sv_ok_lt hf)) (sv_ok_lt hx)) hf hx)
theorem sv_q_o {a x y : Nat} (ha : a < 4) (hx : sv_ok x = true) (hy : sv_ok y = true) : sv_q a x y = true :=
  sv_or3 (sv_all_o (sv_all_o (sv_f3 a ha) (sv_ok_lt hx)) (sv_ok_lt hy)) hx hy
theorem sv_q1 {a x y g e : Nat} (ha : a < 4) (hx : sv_ok x = true) (hy : sv_ok y = true) (h1 : sv_cb (16 + a * 4) x = some g) (h2 : sv_cb g y = some e) : sv_t x = a ∧ sv_t y = a ∧ e = if sv_n x = sv_n y then 1 else 0 := by
  have := sv_q_o ha hx hy
  unfold sv_q at this
  rw [h1] at this
  dsimp only at this
  rw [h2] at this
  dsimp only at this
  rw [Bool.and_eq_true, Bool.and_eq_true] at this
  exact ⟨of_decide_eq_true this.1.1, of_decide_eq_true this.1.2, of_decide_eq_true this.2⟩
theorem sv_q2 {a x y : Nat} (ha : a < 4) (hx : sv_ok x = true) (hy : sv_ok y = true) (tx : sv_t x = a) (ty : sv_t y = a) : ∃ g, sv_cb (16 + a * 4) x = some g ∧ sv_cb g y = some (if sv_n x = sv_n y then 1 else 0) := by
  have := sv_q_o ha hx hy
  unfold sv_q at this
  cases h1 : sv_cb (16 + a * 4) x with
  | none =>
    rw [h1] at this
    dsimp only at this
    rw [decide_eq_true tx] at this; cases this
  | some g =>
    rw [h1] at this
    dsimp only at this
    cases h2 : sv_cb g y with
    | none =>
      rw [h2] at this
      dsimp only at this
      rw [decide_eq_true tx, decide_eq_true ty] at this; cases this
    | some e =>
      refine ⟨g, rfl, ?_⟩
      rw [h2, (sv_q1 ha hx hy h1 h2).2.2]
theorem sv_app1 {f x : Nat} (hf : sv_ok f = true) (hx : sv_ok x = true) (tf : sv_t f = 3) (tx : sv_t x = 0) : ∃ e, sv_cb f x = some e ∧ e < 2 := by
  have := sv_all_o (sv_all_o sv_f4 (sv_ok_lt hf)) (sv_ok_lt hx)
  rw [hf, hx, decide_eq_true tf, decide_eq_true tx] at this
  cases h : sv_cb f x with
  | none => rw [h] at this; cases this
  | some e =>
    rw [h] at this
    exact ⟨e, rfl, of_decide_eq_true this⟩
theorem sv_nok {e : Nat} (h : sv_ok e = true) (ht : sv_t e < 4) : sv_ok (sv_n e) = true ∧ sv_n e < 16 ∧ sv_n e / 4 = sv_t e := by
  have := sv_all_o sv_f5 (sv_ok_lt h)
  rw [h, decide_eq_true ht] at this
  have this : (sv_ok (sv_n e) && decide (sv_n e < 16) && decide (sv_n e / 4 = sv_t e)) = true := this
  rw [Bool.and_eq_true, Bool.and_eq_true] at this
  exact ⟨this.1.1, of_decide_eq_true this.1.2, of_decide_eq_true this.2⟩
theorem sv_t0 {e : Nat} (h : sv_ok e = true) (ht : sv_t e = 0) : e < 2 := by
  unfold sv_t at ht
  split at ht
  · have h4 : e < 4 := by omega
    unfold sv_ok at h
    rw [if_pos (by omega)] at h
    have := of_decide_eq_true h
    omega
  · split at ht <;> omega
theorem sv_b {e : Nat} (h : e < 2) : sv_ok e = true ∧ sv_t e = 0 ∧ sv_n e = e := by
  have : e = 0 ∨ e = 1 := by omega
  rcases this with rfl | rfl <;> decide
theorem sv_n2 {e e' : Nat} (h : sv_n e = sv_n e') (he : e' < 2) : e = e' := by
  rw [(sv_b he).2.2] at h
  unfold sv_n at h
  split at h
  · omega
  · split at h <;> omega
/-! the machine: from the right, with a stack -/
def sv_st (s : Nat → Nat → Nat) (c : Nat) (st : List Nat) : Option (List Nat) :=
  if c / 65536 = 1 then (if c / 256 % 256 < 2 ∧ c % 256 < 4 then some ((c % 256 * 4 + s (c / 256 % 256) (c % 256)) :: st) else none)
  else if c / 65536 = 2 then (if c / 256 % 256 = 0 ∧ c % 256 < 4 then some ((16 + c % 256 * 4) :: st) else none)
  else if c = 196608 then (match st with
    | f :: x :: r => (match sv_cb f x with
      | some e => some (e :: r)
      | none => none)
    | _ => none)
  else none
def sv_ev (s : Nat → Nat → Nat) : List Nat → List Nat → Option (List Nat)
  | [], st => some st
  | c :: l, st => match sv_ev s l st with
    | none => none
    | some q => sv_st s c q
theorem sv_ev_n (s : Nat → Nat → Nat) (st : List Nat) : sv_ev s [] st = some st := rfl
theorem sv_ev_s {s : Nat → Nat → Nat} {l st q : List Nat} (c : Nat) (h : sv_ev s l st = some q) : sv_ev s (c :: l) st = sv_st s c q := by rw [sv_ev, h]
theorem sv_ev_z {s : Nat → Nat → Nat} {l st : List Nat} (c : Nat) (h : sv_ev s l st = none) : sv_ev s (c :: l) st = none := by rw [sv_ev, h]
theorem sv_ev_i {s : Nat → Nat → Nat} {l st r : List Nat} {c : Nat} (h : sv_ev s (c :: l) st = some r) : ∃ q, sv_ev s l st = some q ∧ sv_st s c q = some r := by
  cases e : sv_ev s l st with
  | none => rw [sv_ev_z c e] at h; cases h
  | some q => rw [sv_ev_s c e] at h; exact ⟨q, rfl, h⟩
theorem sv_ev_app {s : Nat → Nat → Nat} {b st q : List Nat} (h : sv_ev s b st = some q) : ∀ a : List Nat, sv_ev s (a ++ b) st = sv_ev s a q
  | [] => h
  | c :: a => by
    have ih := sv_ev_app h a
    rw [List.cons_append]
    cases e : sv_ev s a q with
    | none => rw [sv_ev_z c e, sv_ev_z c (ih.trans e)]
    | some r => rw [sv_ev_s c e, sv_ev_s c (ih.trans e)]
theorem sv_ev_spl {s : Nat → Nat → Nat} {b st r : List Nat} : ∀ {a : List Nat}, sv_ev s (a ++ b) st = some r → ∃ q, sv_ev s b st = some q ∧ sv_ev s a q = some r := by
  intro a h
  cases e : sv_ev s b st with
  | some q => rw [sv_ev_app e] at h; exact ⟨q, rfl, h⟩
  | none =>
    exfalso
    have z : ∀ a : List Nat, sv_ev s (a ++ b) st = none := by
      intro a
      induction a with
      | nil => exact e
      | cons c a ih => exact sv_ev_z c ih
    rw [z] at h; cases h
def sv_va (s : Nat → Nat → Nat) : Prop := ∀ i t, i < 2 → t < 4 → s i t < 4 ∧ sv_ok (t * 4 + s i t) = true
theorem sv_st_1 {s : Nat → Nat → Nat} {c : Nat} {st : List Nat} (h : c / 65536 = 1) : sv_st s c st = if c / 256 % 256 < 2 ∧ c % 256 < 4 then some ((c % 256 * 4 + s (c / 256 % 256) (c % 256)) :: st) else none := if_pos h
theorem sv_st_2 {s : Nat → Nat → Nat} {c : Nat} {st : List Nat} (h : c / 65536 = 2) : sv_st s c st = if c / 256 % 256 = 0 ∧ c % 256 < 4 then some ((16 + c % 256 * 4) :: st) else none := by
  unfold sv_st; rw [if_neg (by omega), if_pos h]
theorem sv_st_3 {s : Nat → Nat → Nat} {f x e : Nat} {st : List Nat} (h : sv_cb f x = some e) : sv_st s 196608 (f :: x :: st) = some (e :: st) := by
  unfold sv_st; rw [if_neg (by decide), if_neg (by decide), if_pos rfl]; dsimp only; rw [h]
/-- what a step does -/
theorem sv_st_i {s : Nat → Nat → Nat} {c : Nat} {st r : List Nat} (h : sv_st s c st = some r) :
    (c / 65536 = 1 ∧ c / 256 % 256 < 2 ∧ c % 256 < 4 ∧ r = (c % 256 * 4 + s (c / 256 % 256) (c % 256)) :: st) ∨ (c / 65536 = 2 ∧ c / 256 % 256 = 0 ∧ c % 256 < 4 ∧ r = (16 + c % 256 * 4) :: st) ∨
      (c = 196608 ∧ ∃ f x w e, st = f :: x :: w ∧ sv_cb f x = some e ∧ r = e :: w) := by
  unfold sv_st at h
  split at h
  · rename_i h1
    split at h
    · rename_i h2
      cases h
      exact Or.inl ⟨h1, h2.1, h2.2, rfl⟩
    · cases h
  · split at h
    · rename_i h1
      split at h
      · rename_i h2
        cases h
        exact Or.inr (Or.inl ⟨h1, h2.1, h2.2, rfl⟩)
      · cases h
    · split at h
      · rename_i h1
        split at h
        · rename_i f x w
          split at h
          · rename_i e he
            cases h
            exact Or.inr (Or.inr ⟨h1, f, x, w, e, rfl, he, rfl⟩)
          · cases h
        · cases h
      · cases h
def sv_oks (st : List Nat) : Prop := ∀ e, e ∈ st → sv_ok e = true
theorem sv_eq_ok : ∀ a, a < 4 → sv_ok (16 + a * 4) = true := by
  intro a ha
  have : a = 0 ∨ a = 1 ∨ a = 2 ∨ a = 3 := by omega
  rcases this with rfl | rfl | rfl | rfl <;> decide
theorem sv_st_ok {s : Nat → Nat → Nat} {c : Nat} {st r : List Nat} (hs : sv_va s) (h : sv_st s c st = some r) (ho : sv_oks st) : sv_oks r := by
  rcases sv_st_i h with ⟨h1, h2, h3, rfl⟩ | ⟨h1, h2, h3, rfl⟩ | ⟨h1, f, x, w, e, rfl, he, rfl⟩
  · intro y hy
    rcases List.mem_cons.mp hy with z | z
    · rw [z]; exact (hs _ _ h2 h3).2
    · exact ho y z
  · intro y hy
    rcases List.mem_cons.mp hy with z | z
    · rw [z]; exact sv_eq_ok _ h3
    · exact ho y z
  · intro y hy
    rcases List.mem_cons.mp hy with z | z
    · rw [z]; exact sv_cb_ok (ho f List.mem_cons_self) (ho x (List.mem_cons_of_mem _ List.mem_cons_self)) he
    · exact ho y (List.mem_cons_of_mem _ (List.mem_cons_of_mem _ z))
/-- n complete terms push n values, whatever lies below -/
theorem sv_run {s : Nat → Nat → Nat} (hs : sv_va s) : ∀ {l : List Nat} {n : Nat} {st r : List Nat}, hk_run n l = some 0 → sv_ev s l st = some r →
    ∃ vs, vs.length = n ∧ r = vs ++ st ∧ sv_oks vs ∧ ∀ st2, sv_ev s l st2 = some (vs ++ st2)
  | [], n, st, r, h, e => by
    rw [hk_run_nil] at h
    have n0 : n = 0 := Option.some.inj h
    rw [sv_ev_n] at e
    cases e
    exact ⟨[], n0.symm, rfl, fun y hy => absurd hy List.not_mem_nil, fun st2 => rfl⟩
  | c :: l, 0, st, r, h, e => by rw [hk_run_0] at h; cases h
  | c :: l, n + 1, st, r, h, e => by
    rw [hk_run_s] at h
    obtain ⟨q, e1, e2⟩ := sv_ev_i e
    obtain ⟨vs, v1, v2, v3, v4⟩ := sv_run hs h e1
    subst v2
    rcases sv_st_i e2 with ⟨h1, h2, h3, rfl⟩ | ⟨h1, h2, h3, rfl⟩ | ⟨h1, f, x, w, y, hw, he, rfl⟩
    · rw [hk_ar_k h1 (by decide) (by decide)] at v1
      refine ⟨(c % 256 * 4 + s (c / 256 % 256) (c % 256)) :: vs, by rw [List.length_cons]; omega, rfl, ?_, fun st2 => ?_⟩
      · intro y hy
        rcases List.mem_cons.mp hy with z | z
        · rw [z]; exact (hs _ _ h2 h3).2
        · exact v3 y z
      · rw [sv_ev_s c (v4 st2), sv_st_1 h1, if_pos ⟨h2, h3⟩]; rfl
    · rw [hk_ar_k h1 (by decide) (by decide)] at v1
      refine ⟨(16 + c % 256 * 4) :: vs, by rw [List.length_cons]; omega, rfl, ?_, fun st2 => ?_⟩
      · intro y hy
        rcases List.mem_cons.mp hy with z | z
        · rw [z]; exact sv_eq_ok _ h3
        · exact v3 y z
      · rw [sv_ev_s c (v4 st2), sv_st_2 h1, if_pos ⟨h2, h3⟩]; rfl
    · subst h1
      rw [hk_ar_3 (by decide)] at v1
      match vs, v1, hw, v3, v4 with
      | f' :: x' :: w', v1, hw, v3, v4 =>
        have a1 := List.cons.inj hw
        have a2 := List.cons.inj a1.2
        have e1 : f' = f := a1.1
        have e2 : x' = x := a2.1
        have e3 : w' ++ st = w := a2.2
        subst e1 e2 e3
        refine ⟨y :: w', by rw [List.length_cons] at v1 ⊢; rw [List.length_cons] at v1; omega, rfl, ?_, fun st2 => ?_⟩
        · intro z hz
          rcases List.mem_cons.mp hz with e | e
          · rw [e]; exact sv_cb_ok (v3 f' List.mem_cons_self) (v3 x' (List.mem_cons_of_mem _ List.mem_cons_self)) he
          · exact v3 z (List.mem_cons_of_mem _ (List.mem_cons_of_mem _ e))
        · rw [sv_ev_s _ (v4 st2)]; exact sv_st_3 he
def sv_v (s : Nat → Nat → Nat) (l : List Nat) (e : Nat) : Prop := ∀ st, sv_ev s l st = some (e :: st)
theorem sv_v_u {s : Nat → Nat → Nat} {l : List Nat} {e e' : Nat} (h : sv_v s l e) (h' : sv_v s l e') : e = e' := by
  have a := h []
  rw [h' []] at a
  exact ((List.cons.inj (Option.some.inj a)).1).symm
theorem sv_v_of {s : Nat → Nat → Nat} (hs : sv_va s) {l st r : List Nat} (h : hk_run 1 l = some 0) (e : sv_ev s l st = some r) : ∃ v, r = v :: st ∧ sv_ok v = true ∧ sv_v s l v := by
  obtain ⟨vs, v1, v2, v3, v4⟩ := sv_run hs h e
  match vs, v1, v2, v3, v4 with
  | [v], v1, v2, v3, v4 => exact ⟨v, v2, v3 v List.mem_cons_self, v4⟩
theorem sv_v_ok {s : Nat → Nat → Nat} (hs : sv_va s) {l : List Nat} {e : Nat} (h : hk_run 1 l = some 0) (he : sv_v s l e) : sv_ok e = true := by
  obtain ⟨v, v1, v2, v3⟩ := sv_v_of hs h (he [])
  rw [sv_v_u he v3]; exact v2
