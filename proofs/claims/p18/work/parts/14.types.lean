/-! the table of types: n, the domains D, the results C -/
def hk_up (f : Nat → Nat) (k x : Nat) : Nat → Nat := fun j => if j = k then x else f j
theorem hk_up_s (f : Nat → Nat) (k x : Nat) : hk_up f k x k = x := if_pos rfl
theorem hk_up_n {f : Nat → Nat} {k x j : Nat} (h : j ≠ k) : hk_up f k x j = f j := if_neg h
abbrev hk_T : Type := Nat × (Nat → Nat) × (Nat → Nat)
def hk_fd (D C : Nat → Nat) (d c : Nat) : Nat → Nat → Option Nat
  | 0, _ => none
  | k + 1, i => if D i = d ∧ C i = c then some i else hk_fd D C d c k (i + 1)
def hk_find (T : hk_T) (d c : Nat) : Option Nat := hk_fd T.2.1 T.2.2 d c (T.1 - 3) 3
theorem hk_fd_in {D C : Nat → Nat} {d c j : Nat} : ∀ {k i : Nat}, hk_fd D C d c k i = some j → i ≤ j ∧ j < i + k
  | 0, i, h => by cases h
  | k + 1, i, h => by
    unfold hk_fd at h
    split at h
    · cases h; omega
    · have := hk_fd_in h; omega
theorem hk_find_in {T : hk_T} {d c j : Nat} (h : hk_find T d c = some j) (hn : 3 ≤ T.1) : 3 ≤ j ∧ j < T.1 := by
  have := hk_fd_in h; omega
/-- interning fun(d,c): the handle, or none where the table is full, and the table then -/
def hk_it (T : hk_T) (d c : Nat) : Option Nat × hk_T :=
  match hk_find T d c with
  | some j => (some j, T)
  | none => if 48 ≤ T.1 then (none, T) else (some T.1, (T.1 + 1, hk_up T.2.1 T.1 d, hk_up T.2.2 T.1 c))
def hk_ti (T : hk_T) : Prop := 5 ≤ T.1 ∧ T.1 ≤ 48 ∧ T.2.1 3 = 0 ∧ T.2.2 3 = 0 ∧ T.2.1 4 = 0 ∧ T.2.2 4 = 3 ∧ ∀ i, 3 ≤ i → i < T.1 → T.2.1 i < T.1 ∧ T.2.2 i < T.1
theorem hk_it_f {T : hk_T} {d c j : Nat} (h : hk_find T d c = some j) : hk_it T d c = (some j, T) := by unfold hk_it; rw [h]
theorem hk_it_z {T : hk_T} {d c : Nat} (h : hk_find T d c = none) (hn : 48 ≤ T.1) : hk_it T d c = (none, T) := by unfold hk_it; rw [h]; exact if_pos hn
theorem hk_it_a {T : hk_T} {d c : Nat} (h : hk_find T d c = none) (hn : ¬ 48 ≤ T.1) : hk_it T d c = (some T.1, (T.1 + 1, hk_up T.2.1 T.1 d, hk_up T.2.2 T.1 c)) := by unfold hk_it; rw [h]; exact if_neg hn
theorem hk_it_ok {T : hk_T} {d c : Nat} (h : hk_ti T) (hd : d < T.1) (hc : c < T.1) :
    hk_ti (hk_it T d c).2 ∧ T.1 ≤ (hk_it T d c).2.1 ∧ (hk_it T d c).2.1 ≤ T.1 + 1 ∧ ∀ j, (hk_it T d c).1 = some j → 3 ≤ j ∧ j < (hk_it T d c).2.1 := by
  cases hf : hk_find T d c with
  | some j =>
    rw [hk_it_f hf]
    exact ⟨h, Nat.le_refl _, Nat.le_succ _, fun i e => by cases e; exact hk_find_in (T := T) hf (by have := h.1; omega)⟩
  | none =>
    by_cases z : 48 ≤ T.1
    · rw [hk_it_z hf z]
      exact ⟨h, Nat.le_refl _, Nat.le_succ _, fun i e => by cases e⟩
    · rw [hk_it_a hf z]
      obtain ⟨a1, a2, a3, a4, a5, a6, a7⟩ := h
      refine ⟨⟨by show 5 ≤ T.1 + 1; omega, by show T.1 + 1 ≤ 48; omega, ?_, ?_, ?_, ?_, ?_⟩, by show T.1 ≤ T.1 + 1; omega, by show T.1 + 1 ≤ T.1 + 1; omega, fun i e => by cases e; exact ⟨by omega, by show T.1 < T.1 + 1; omega⟩⟩
      · show hk_up T.2.1 T.1 d 3 = 0
        rw [hk_up_n (by omega)]; exact a3
      · show hk_up T.2.2 T.1 c 3 = 0
        rw [hk_up_n (by omega)]; exact a4
      · show hk_up T.2.1 T.1 d 4 = 0
        rw [hk_up_n (by omega)]; exact a5
      · show hk_up T.2.2 T.1 c 4 = 3
        rw [hk_up_n (by omega)]; exact a6
      · intro i h3 hi
        show hk_up T.2.1 T.1 d i < T.1 + 1 ∧ hk_up T.2.2 T.1 c i < T.1 + 1
        have hi : i < T.1 + 1 := hi
        by_cases e : i = T.1
        · subst e
          rw [hk_up_s, hk_up_s]; omega
        · rw [hk_up_n e, hk_up_n e]
          have := a7 i h3 (by omega)
          omega
/-- what EQTYPES(a) needs, and interning it -/
def hk_nd (T : hk_T) (a : Nat) : Nat :=
  match hk_find T a 0 with
  | none => 2
  | some f => match hk_find T a f with
    | none => 1
    | some _ => 0
def hk_ie (T : hk_T) (a : Nat) : Option Nat × hk_T := hk_it (hk_it T a 0).2 a ((hk_it T a 0).1.getD 0)
theorem hk_fd_t {D C : Nat → Nat} {d c k i : Nat} (h : D i = d ∧ C i = c) : hk_fd D C d c (k + 1) i = some i := by unfold hk_fd; exact if_pos h
theorem hk_fd_f {D C : Nat → Nat} {d c k i : Nat} (h : ¬ (D i = d ∧ C i = c)) : hk_fd D C d c (k + 1) i = hk_fd D C d c k (i + 1) := by
  rw [hk_fd]; exact if_neg h
/-- an answer: a handle, or -1 -/
def hk_o : Option Nat → Int32
  | none => -1
  | some j => nI j
theorem hk_o_ne {j : Nat} (h : j < 48) : ¬ hk_o (some j) = -1 := by
  intro z
  have z : nI j = -1 := z
  have a : ¬ nI j < 0 := nI_pos (by omega)
  rw [z] at a
  exact a (by decide)
theorem hk_o_ge {j : Nat} (h : j < 2147483648) : 0 ≤ hk_o (some j) := nI_pos' h
/-- the arrays hold the table -/
def hk_tb (T : hk_T) (A R : Nat → Int32) : Prop := ∀ i, 3 ≤ i → i < T.1 → A i = nI (T.2.1 i) ∧ R i = nI (T.2.2 i)
theorem hk_tb_a {T : hk_T} {A R : Nat → Int32} {d c : Nat} (h : hk_tb T A R) : hk_tb (T.1 + 1, hk_up T.2.1 T.1 d, hk_up T.2.2 T.1 c) (upd A T.1 (nI d)) (upd R T.1 (nI c)) := by
  intro i h3 hi
  have hi : i < T.1 + 1 := hi
  show upd A T.1 (nI d) i = nI (hk_up T.2.1 T.1 d i) ∧ upd R T.1 (nI c) i = nI (hk_up T.2.2 T.1 c i)
  by_cases e : i = T.1
  · subst e
    rw [pk_us, pk_us, hk_up_s, hk_up_s]; exact ⟨rfl, rfl⟩
  · rw [pk_un e, pk_un e, hk_up_n e, hk_up_n e]; exact h i h3 (by omega)
/-- interning EQTYPES(a), all or none -/
def hk_xe (T : hk_T) (a : Nat) : Option Nat × hk_T :=
  match hk_find T a 0 with
  | none => if T.1 + 2 ≤ 48 then hk_ie T a else (none, T)
  | some _ => hk_ie T a
theorem hk_xe_s {T : hk_T} {a j : Nat} (h : hk_find T a 0 = some j) : hk_xe T a = hk_ie T a := by unfold hk_xe; rw [h]
theorem hk_xe_n {T : hk_T} {a : Nat} (h : hk_find T a 0 = none) (hn : T.1 + 2 ≤ 48) : hk_xe T a = hk_ie T a := by unfold hk_xe; rw [h]; exact if_pos hn
theorem hk_xe_z {T : hk_T} {a : Nat} (h : hk_find T a 0 = none) (hn : ¬ T.1 + 2 ≤ 48) : hk_xe T a = (none, T) := by unfold hk_xe; rw [h]; exact if_neg hn
/-- the other way to say whether they fit -/
theorem hk_xe_fit {T : hk_T} {a : Nat} (ht : hk_ti T) (ha : a < T.1) (h : T.1 + hk_nd T a ≤ 48) : hk_xe T a = hk_ie T a ∧ ∃ j, (hk_ie T a).1 = some j := by
  have h0 : 0 < T.1 := by have := ht.1; omega
  cases hf : hk_find T a 0 with
  | none =>
    have e : hk_nd T a = 2 := by unfold hk_nd; rw [hf]
    rw [e] at h
    refine ⟨hk_xe_n hf h, ?_⟩
    unfold hk_ie
    rw [hk_it_a hf (by omega)]
    dsimp only [Option.getD]
    generalize hT : ((T.1 + 1, hk_up T.2.1 T.1 a, hk_up T.2.2 T.1 0) : hk_T) = T1
    have e1 : T1.1 = T.1 + 1 := by rw [← hT]
    cases hg : hk_find T1 a T.1 with
    | some j => rw [hk_it_f hg]; exact ⟨j, rfl⟩
    | none => rw [hk_it_a hg (by omega)]; exact ⟨_, rfl⟩
  | some f =>
    refine ⟨hk_xe_s hf, ?_⟩
    unfold hk_ie
    rw [hk_it_f hf]
    dsimp only [Option.getD]
    cases hg : hk_find T a f with
    | some j => rw [hk_it_f hg]; exact ⟨j, rfl⟩
    | none =>
      have e : hk_nd T a = 1 := by unfold hk_nd; rw [hf]; dsimp only; rw [hg]
      rw [hk_it_a hg (by omega)]; exact ⟨_, rfl⟩
theorem hk_xe_nofit {T : hk_T} {a : Nat} (ht : hk_ti T) (h : ¬ T.1 + hk_nd T a ≤ 48) : hk_xe T a = (none, T) := by
  have hn := ht.2.1
  cases hf : hk_find T a 0 with
  | none =>
    have e : hk_nd T a = 2 := by unfold hk_nd; rw [hf]
    exact hk_xe_z hf (by omega)
  | some f =>
    rw [hk_xe_s hf]
    unfold hk_ie
    rw [hk_it_f hf]
    dsimp only [Option.getD]
    cases hg : hk_find T a f with
    | some j =>
      have e : hk_nd T a = 0 := by unfold hk_nd; rw [hf]; dsimp only; rw [hg]
      omega
    | none =>
      have e : hk_nd T a = 1 := by unfold hk_nd; rw [hf]; dsimp only; rw [hg]
      exact hk_it_z hg (by omega)
theorem hk_ie_ok {T : hk_T} {a : Nat} (ht : hk_ti T) (ha : a < T.1) : hk_ti (hk_ie T a).2 ∧ T.1 ≤ (hk_ie T a).2.1 ∧ ∀ j, (hk_ie T a).1 = some j → 3 ≤ j ∧ j < (hk_ie T a).2.1 := by
  have h0 : 0 < T.1 := by have := ht.1; omega
  obtain ⟨i1, i2, i3, i4⟩ := hk_it_ok (d := a) (c := 0) ht ha h0
  unfold hk_ie
  have hg : (hk_it T a 0).1.getD 0 < (hk_it T a 0).2.1 := by
    cases hr : (hk_it T a 0).1 with
    | none => show 0 < _; have := i1.1; omega
    | some f => exact (i4 f hr).2
  obtain ⟨j1, j2, j3, j4⟩ := hk_it_ok (d := a) (c := (hk_it T a 0).1.getD 0) i1 (by omega) hg
  exact ⟨j1, by omega, j4⟩
theorem hk_xe_ok {T : hk_T} {a : Nat} (ht : hk_ti T) (ha : a < T.1) : hk_ti (hk_xe T a).2 ∧ T.1 ≤ (hk_xe T a).2.1 := by
  rcases Nat.lt_or_ge 48 (T.1 + hk_nd T a) with z | z
  · rw [hk_xe_nofit ht (by omega)]; exact ⟨ht, Nat.le_refl _⟩
  · rw [(hk_xe_fit ht ha z).1]
    exact ⟨(hk_ie_ok ht ha).1, (hk_ie_ok ht ha).2.1⟩
theorem hk_xe_in {T : hk_T} {a j : Nat} (ht : hk_ti T) (ha : a < T.1) (h : (hk_xe T a).1 = some j) : 3 ≤ j ∧ j < 48 := by
  rcases Nat.lt_or_ge 48 (T.1 + hk_nd T a) with z | z
  · rw [hk_xe_nofit ht (by omega)] at h; cases h
  · rw [(hk_xe_fit ht ha z).1] at h
    have a1 := (hk_ie_ok ht ha).2.2 j h
    have a2 := (hk_ie_ok ht ha).1.2.1
    omega
/-- with a table that doesn't grow where it refuses -/
theorem hk_xe_none {T : hk_T} {a : Nat} (ht : hk_ti T) (ha : a < T.1) (h : (hk_xe T a).1 = none) : (hk_xe T a).2 = T := by
  rcases Nat.lt_or_ge 48 (T.1 + hk_nd T a) with z | z
  · rw [hk_xe_nofit ht (by omega)]
  · obtain ⟨e, j, hj⟩ := hk_xe_fit ht ha z
    rw [e, hj] at h; cases h
/-- interning fun(d,c) and EQTYPES of it -/
def hk_xb (T : hk_T) (t : Nat) : Option Nat × hk_T :=
  match (hk_xe T t).1 with
  | none => (none, (hk_xe T t).2)
  | some _ => (some t, (hk_xe T t).2)
def hk_xa (T : hk_T) (d c : Nat) : Option Nat × hk_T :=
  match hk_find T d c with
  | none => if T.1 + 3 ≤ 48 then hk_xb (hk_it T d c).2 T.1 else (none, T)
  | some t => hk_xb T t
/-! the leftmost redex -/
def hk_lr (l : List Nat) : Nat → Nat → Option Nat
  | 0, _ => none
  | k + 1, p => if p + 1 < l.length ∧ hk_c l p / 65536 = 3 ∧ hk_c l (p + 1) / 65536 = 4 then some p else hk_lr l k (p + 1)
theorem hk_lr_t {l : List Nat} {k p : Nat} (h : hk_rx l p) : hk_lr l (k + 1) p = some p := by rw [hk_lr]; exact if_pos h
theorem hk_lr_f {l : List Nat} {k p : Nat} (h : ¬ hk_rx l p) : hk_lr l (k + 1) p = hk_lr l k (p + 1) := by rw [hk_lr]; exact if_neg h
theorem hk_lr_in {l : List Nat} {j : Nat} : ∀ {k p : Nat}, hk_lr l k p = some j → hk_rx l j
  | 0, p, h => by cases h
  | k + 1, p, h => by
    by_cases z : hk_rx l p
    · rw [hk_lr_t z] at h; cases h; exact z
    · rw [hk_lr_f z] at h; exact hk_lr_in h
/-! handles -/
theorem hk_val (x : Int32) (n : Nat) : (∀ j, j < n → x ≠ nI j) ∨ ∃ j, j < n ∧ x = nI j := by
  by_cases h : ∃ j, j < n ∧ x = nI j
  · exact Or.inr h
  · exact Or.inl (fun j hj e => h ⟨j, hj, e⟩)
theorem hk_ok0 {A B : Prop} {x : Int32} {n : Nat} (h : ∀ j, j < n → x ≠ nI j) (a : A) : (x < 0 → A) ∧ (¬ x < 0 → ((nI n ≤ x → A) ∧ (¬ nI n ≤ x → B))) := by
  refine br_c (fun _ => a) (fun z => ?_)
  obtain ⟨j, hj, rfl⟩ := nI_of z
  refine br_t (nI_le ?_ hj) a
  rcases Nat.lt_or_ge j n with q | q
  · exact absurd rfl (h j q)
  · exact q
theorem hk_ok1 {A B : Prop} {j n : Nat} (hn : n < 2 ^ 31) (hj : j < n) (b : B) : (nI j < 0 → A) ∧ (¬ nI j < 0 → ((nI n ≤ nI j → A) ∧ (¬ nI n ≤ nI j → B))) :=
  br_f (nI_pos (by omega)) (br_f (nI_ge hj hn) b)
/-- where all of EQTYPES(a) fits, its first type does -/
theorem hk_fit1 {T : hk_T} {a : Nat} (h : T.1 + hk_nd T a ≤ 48) : (hk_it T a 0).1 ≠ none := by
  cases hf : hk_find T a 0 with
  | some j => rw [hk_it_f hf]; exact fun z => by cases z
  | none =>
    have e : hk_nd T a = 2 := by unfold hk_nd; rw [hf]
    rw [hk_it_a hf (by omega)]; exact fun z => by cases z
theorem hk_find_bool {T : hk_T} (ht : hk_ti T) : hk_find T 0 0 = some 3 ∧ hk_find T 0 3 = some 4 := by
  obtain ⟨a1, a2, a3, a4, a5, a6, a7⟩ := ht
  unfold hk_find
  obtain ⟨k, hk⟩ : ∃ k, T.1 - 3 = k + 1 + 1 := ⟨T.1 - 5, by omega⟩
  rw [hk]
  refine ⟨hk_fd_t ⟨a3, a4⟩, ?_⟩
  rw [hk_fd_f (fun z => by rw [a4] at z; exact absurd z.2 (by decide))]
  exact hk_fd_t ⟨a5, a6⟩
theorem hk_bool {T : hk_T} (ht : hk_ti T) : hk_nd T 0 = 0 ∧ hk_ie T 0 = (some 4, T) := by
  obtain ⟨h1, h2⟩ := hk_find_bool ht
  constructor
  · unfold hk_nd; rw [h1]; dsimp only; rw [h2]
  · unfold hk_ie
    rw [hk_it_f h1]
    exact hk_it_f h2
/-- how fun(d,c) with its EQTYPES comes out -/
theorem hk_xa_n {T : hk_T} {d c : Nat} (ht : hk_ti T) (hd : d < T.1) (hc : c < T.1) (hf : hk_find T d c = none) (h3 : T.1 + 3 ≤ 48) :
    (hk_it T d c).1 = some T.1 ∧ hk_xa T d c = (some T.1, (hk_ie (hk_it T d c).2 T.1).2) ∧ (hk_it (hk_it T d c).2 T.1 0).1 ≠ none := by
  obtain ⟨i1, i2, i3, i4⟩ := hk_it_ok (d := d) (c := c) ht hd hc
  have e := hk_it_a hf (by omega : ¬ 48 ≤ T.1)
  have e1 : (hk_it T d c).1 = some T.1 := by rw [e]
  have e2 : (hk_it T d c).2.1 = T.1 + 1 := by rw [e]
  have hn : hk_nd (hk_it T d c).2 T.1 ≤ 2 := by
    unfold hk_nd
    split
    · exact Nat.le_refl _
    · split <;> omega
  have fit : (hk_it T d c).2.1 + hk_nd (hk_it T d c).2 T.1 ≤ 48 := by omega
  obtain ⟨f1, j, hj⟩ := hk_xe_fit i1 (by omega : T.1 < (hk_it T d c).2.1) fit
  refine ⟨e1, ?_, hk_fit1 fit⟩
  unfold hk_xa
  rw [hf]
  dsimp only
  rw [if_pos h3]
  unfold hk_xb
  rw [f1, hj]
theorem hk_xa_s {T : hk_T} {d c t : Nat} (ht : hk_ti T) (hf : hk_find T d c = some t) (h3 : T.1 + hk_nd T t ≤ 48) :
    hk_it T d c = (some t, T) ∧ hk_xa T d c = (some t, (hk_ie T t).2) ∧ (hk_it T t 0).1 ≠ none := by
  have w := hk_find_in hf (by have := ht.1; omega)
  obtain ⟨f1, j, hj⟩ := hk_xe_fit ht w.2 h3
  refine ⟨hk_it_f hf, ?_, hk_fit1 h3⟩
  unfold hk_xa
  rw [hf]
  dsimp only
  unfold hk_xb
  rw [f1, hj]
theorem hk_xa_sz {T : hk_T} {d c t : Nat} (ht : hk_ti T) (hf : hk_find T d c = some t) (h3 : ¬ T.1 + hk_nd T t ≤ 48) : hk_xa T d c = (none, T) := by
  unfold hk_xa
  rw [hf]
  dsimp only
  unfold hk_xb
  rw [hk_xe_nofit ht h3]
theorem hk_xa_nz {T : hk_T} {d c : Nat} (hf : hk_find T d c = none) (h3 : ¬ T.1 + 3 ≤ 48) : hk_xa T d c = (none, T) := by
  unfold hk_xa
  rw [hf]
  exact if_neg h3
theorem hk_xa_none {T : hk_T} {d c : Nat} (ht : hk_ti T) (hd : d < T.1) (hc : c < T.1) (h : (hk_xa T d c).1 = none) : (hk_xa T d c).2 = T := by
  cases hf : hk_find T d c with
  | none =>
    by_cases z : T.1 + 3 ≤ 48
    · rw [(hk_xa_n ht hd hc hf z).2.1] at h; cases h
    · rw [hk_xa_nz hf z]
  | some t =>
    by_cases z : T.1 + hk_nd T t ≤ 48
    · rw [(hk_xa_s ht hf z).2.1] at h; cases h
    · rw [hk_xa_sz ht hf z]
theorem hk_xa_in {T : hk_T} {d c t : Nat} (ht : hk_ti T) (hd : d < T.1) (hc : c < T.1) (h : (hk_xa T d c).1 = some t) : t < 48 ∧ t < (hk_xa T d c).2.1 ∧ hk_ti (hk_xa T d c).2 ∧ T.1 ≤ (hk_xa T d c).2.1 := by
  cases hf : hk_find T d c with
  | none =>
    by_cases z : T.1 + 3 ≤ 48
    · obtain ⟨e1, e2, e3⟩ := hk_xa_n ht hd hc hf z
      obtain ⟨i1, i2, i3, i4⟩ := hk_it_ok (d := d) (c := c) ht hd hc
      have w := i4 _ e1
      obtain ⟨j1, j2, j3⟩ := hk_ie_ok (a := T.1) i1 w.2
      rw [e2] at h ⊢
      cases h
      exact ⟨by omega, by show T.1 < (hk_ie (hk_it T d c).2 T.1).2.1; omega, j1, by show T.1 ≤ (hk_ie (hk_it T d c).2 T.1).2.1; omega⟩
    · rw [hk_xa_nz hf z] at h; cases h
  | some q =>
    by_cases z : T.1 + hk_nd T q ≤ 48
    · obtain ⟨e1, e2, e3⟩ := hk_xa_s ht hf z
      have w := hk_find_in hf (by have := ht.1; omega)
      obtain ⟨j1, j2, j3⟩ := hk_ie_ok (a := q) ht w.2
      have hn := ht.2.1
      rw [e2] at h ⊢
      cases h
      exact ⟨by omega, by show t < (hk_ie T t).2.1; omega, j1, j2⟩
    · rw [hk_xa_sz ht hf z] at h; cases h
theorem hk_nd_le (T : hk_T) (a : Nat) : hk_nd T a ≤ 2 := by
  unfold hk_nd
  split
  · exact Nat.le_refl _
  · split <;> omega
theorem hk_it_none {T : hk_T} {d c : Nat} (h : (hk_it T d c).1 = none) : (hk_it T d c).2 = T := by
  cases hf : hk_find T d c with
  | some j => rw [hk_it_f hf]
  | none =>
    by_cases z : 48 ≤ T.1
    · rw [hk_it_z hf z]
    · rw [hk_it_a hf z] at h; cases h
