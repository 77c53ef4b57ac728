/-! the order of terms -/
def hk_lt : List Nat → List Nat → Bool
  | _, [] => false
  | [], _ :: _ => true
  | a :: s, b :: t => if a < b then true else if b < a then false else hk_lt s t
theorem hk_lt_n (a : List Nat) : hk_lt a [] = false := by cases a <;> rfl
theorem hk_lt_e (b : Nat) (t : List Nat) : hk_lt [] (b :: t) = true := rfl
theorem hk_lt_c (a b : Nat) (s t : List Nat) : hk_lt (a :: s) (b :: t) = if a < b then true else if b < a then false else hk_lt s t := rfl
theorem hk_lt_irr : ∀ a : List Nat, hk_lt a a = false
  | [] => rfl
  | a :: s => by rw [hk_lt_c, if_neg (Nat.lt_irrefl a), if_neg (Nat.lt_irrefl a)]; exact hk_lt_irr s
theorem hk_lt_trans : ∀ {a b c : List Nat}, hk_lt a b = true → hk_lt b c = true → hk_lt a c = true
  | a, b, [], _, h => by rw [hk_lt_n] at h; cases h
  | a, [], _ :: _, h, _ => by rw [hk_lt_n] at h; cases h
  | [], _ :: _, _ :: _, _, _ => rfl
  | a :: s, b :: t, c :: r, h, h' => by
    rw [hk_lt_c] at h h' ⊢
    by_cases x : a < c
    · rw [if_pos x]
    · rw [if_neg x]
      by_cases y : c < a
      · exfalso
        by_cases z : a < b
        · rw [if_neg (by omega : ¬ b < c), if_pos (by omega : c < b)] at h'; cases h'
        · rw [if_neg z] at h
          by_cases w : b < a
          · rw [if_pos w] at h; cases h
          · rw [if_neg (by omega : ¬ b < c), if_pos (by omega : c < b)] at h'; cases h'
      · rw [if_neg y]
        have e : a = c := by omega
        subst e
        by_cases z : a < b
        · rw [if_neg (by omega : ¬ b < a), if_pos z] at h'; cases h'
        · rw [if_neg z] at h
          by_cases w : b < a
          · rw [if_pos w] at h; cases h
          · rw [if_neg w] at h
            rw [if_neg w, if_neg z] at h'
            exact hk_lt_trans h h'
theorem hk_lt_tri : ∀ {a b : List Nat}, hk_lt a b = false → hk_lt b a = false → a = b
  | [], [], _, _ => rfl
  | [], _ :: _, h, _ => by rw [hk_lt_e] at h; cases h
  | _ :: _, [], _, h => by rw [hk_lt_e] at h; cases h
  | a :: s, b :: t, h, h' => by
    rw [hk_lt_c] at h h'
    by_cases x : a < b
    · rw [if_pos x] at h; cases h
    · by_cases y : b < a
      · rw [if_pos y] at h'; cases h'
      · rw [if_neg x, if_neg y] at h
        rw [if_neg y, if_neg x] at h'
        have e : a = b := by omega
        rw [e, hk_lt_tri h h']
/-! insertion, and the union it makes -/
def hk_ins (t : List Nat) : List (List Nat) → List (List Nat)
  | [] => [t]
  | h :: r => if hk_lt h t = true then h :: hk_ins t r else if h = t then h :: r else t :: h :: r
def hk_sd (S : List (List Nat)) : Prop := S.Pairwise (fun a b => hk_lt a b = true)
theorem hk_ins_mem {t x : List Nat} : ∀ {S : List (List Nat)}, x ∈ hk_ins t S ↔ x = t ∨ x ∈ S
  | [] => by simp [hk_ins]
  | h :: r => by
    unfold hk_ins
    split
    · rw [List.mem_cons, hk_ins_mem, List.mem_cons]
      constructor
      · rintro (e | e | e)
        · exact Or.inr (Or.inl e)
        · exact Or.inl e
        · exact Or.inr (Or.inr e)
      · rintro (e | e | e)
        · exact Or.inr (Or.inl e)
        · exact Or.inl e
        · exact Or.inr (Or.inr e)
    · split
      · rename_i e
        constructor
        · exact Or.inr
        · rintro (z | z)
          · rw [z, ← e]; exact List.mem_cons_self
          · exact z
      · exact List.mem_cons
theorem hk_ins_sd {t : List Nat} : ∀ {S : List (List Nat)}, hk_sd S → hk_sd (hk_ins t S)
  | [], _ => List.pairwise_singleton _ _
  | h :: r, hs => by
    obtain ⟨h1, h2⟩ := List.pairwise_cons.mp hs
    unfold hk_ins
    split
    · rename_i z
      refine List.pairwise_cons.mpr ⟨fun x hx => ?_, hk_ins_sd h2⟩
      rcases hk_ins_mem.mp hx with e | e
      · rw [e]; exact z
      · exact h1 x e
    · rename_i z
      split
      · exact hs
      · rename_i y
        have z : hk_lt h t = false := by cases q : hk_lt h t with
          | false => rfl
          | true => exact absurd q z
        have w : hk_lt t h = true := by cases q : hk_lt t h with
          | true => rfl
          | false => exact absurd (hk_lt_tri z q) y
        refine List.pairwise_cons.mpr ⟨fun x hx => ?_, hs⟩
        rcases List.mem_cons.mp hx with e | e
        · rw [e]; exact w
        · exact hk_lt_trans w (h1 x e)
theorem hk_ins_len {t : List Nat} : ∀ {S : List (List Nat)}, S.length ≤ (hk_ins t S).length ∧ (hk_ins t S).length ≤ S.length + 1
  | [] => by simp [hk_ins]
  | h :: r => by
    have := hk_ins_len (t := t) (S := r)
    unfold hk_ins
    split
    · rw [List.length_cons, List.length_cons]; omega
    · split
      · exact ⟨Nat.le_refl _, Nat.le_succ _⟩
      · rw [List.length_cons (a := t)]; exact ⟨Nat.le_succ _, Nat.le_refl _⟩
/-- the union of ts with S, one by one -/
def hk_un (S : List (List Nat)) : List (List Nat) → List (List Nat)
  | [] => S
  | t :: ts => hk_un (hk_ins t S) ts
theorem hk_un_sd : ∀ {ts S : List (List Nat)}, hk_sd S → hk_sd (hk_un S ts)
  | [], _, h => h
  | t :: ts, S, h => hk_un_sd (ts := ts) (S := hk_ins t S) (hk_ins_sd h)
theorem hk_un_mem {x : List Nat} : ∀ {ts S : List (List Nat)}, x ∈ hk_un S ts ↔ x ∈ ts ∨ x ∈ S
  | [], S => by simp [hk_un]
  | t :: ts, S => by
    show x ∈ hk_un (hk_ins t S) ts ↔ _
    rw [hk_un_mem, hk_ins_mem, List.mem_cons]
    constructor
    · rintro (e | e | e)
      · exact Or.inl (Or.inr e)
      · exact Or.inl (Or.inl e)
      · exact Or.inr e
    · rintro ((e | e) | e)
      · exact Or.inr (Or.inl e)
      · exact Or.inl e
      · exact Or.inr (Or.inr e)
theorem hk_un_len : ∀ {ts S : List (List Nat)}, S.length ≤ (hk_un S ts).length ∧ (hk_un S ts).length ≤ S.length + ts.length
  | [], S => ⟨Nat.le_refl _, Nat.le_refl _⟩
  | t :: ts, S => by
    have a := hk_ins_len (t := t) (S := S)
    have b := hk_un_len (ts := ts) (S := hk_ins t S)
    show S.length ≤ (hk_un (hk_ins t S) ts).length ∧ (hk_un (hk_ins t S) ts).length ≤ _
    rw [List.length_cons]; omega
theorem hk_un_app : ∀ {a b S : List (List Nat)}, hk_un S (a ++ b) = hk_un (hk_un S a) b
  | [], _, _ => rfl
  | _ :: a, b, S => hk_un_app (a := a)
/-! selection: the least element beyond the r first -/
def hk_byd (S : List (List Nat)) (r : Nat) (x : List Nat) : Prop := r = 0 ∨ hk_lt (S.getD (r - 1) []) x = true
theorem hk_gd {S : List (List Nat)} {i : Nat} (h : i < S.length) : S.getD i [] = S[i] := by
  simp [List.getD_eq_getElem?_getD, List.getElem?_eq_getElem h]
theorem hk_sd_lt {S : List (List Nat)} (hs : hk_sd S) {i j : Nat} (hij : i < j) (hj : j < S.length) : hk_lt (S.getD i []) (S.getD j []) = true := by
  rw [hk_gd (by omega), hk_gd hj]
  exact List.pairwise_iff_getElem.mp hs i j (by omega) hj hij
theorem hk_byd_ge {S : List (List Nat)} (hs : hk_sd S) {r i : Nat} (hr : r ≤ S.length) (hi : i < S.length) (h : hk_byd S r (S.getD i [])) : r ≤ i := by
  rcases h with h | h
  · omega
  · rcases Nat.lt_or_ge i r with z | z
    · exfalso
      rcases Nat.lt_or_ge i (r - 1) with y | y
      · have := hk_lt_trans h (hk_sd_lt hs y (by omega))
        rw [hk_lt_irr] at this; cases this
      · rw [show r - 1 = i by omega, hk_lt_irr] at h; cases h
    · exact z
theorem hk_byd_r {S : List (List Nat)} (hs : hk_sd S) {r : Nat} (hr : r < S.length) : hk_byd S r (S.getD r []) := by
  rcases Nat.eq_zero_or_pos r with z | z
  · exact Or.inl z
  · exact Or.inr (hk_sd_lt hs (by omega) hr)
theorem hk_mem_ix {S : List (List Nat)} {x : List Nat} (h : x ∈ S) : ∃ i, i < S.length ∧ S.getD i [] = x := by
  obtain ⟨i, hi, e⟩ := List.getElem_of_mem h
  exact ⟨i, hi, by rw [hk_gd hi]; exact e⟩
theorem hk_ix_mem {S : List (List Nat)} {i : Nat} (h : i < S.length) : S.getD i [] ∈ S := by
  rw [hk_gd h]; exact List.getElem_mem h
theorem hk_sel {S : List (List Nat)} (hs : hk_sd S) {r : Nat} (hr : r < S.length) {x : List Nat} (hx : x ∈ S) (hb : hk_byd S r x) (hm : ∀ y, y ∈ S → hk_byd S r y → hk_lt y x = false) : x = S.getD r [] := by
  obtain ⟨i, hi, rfl⟩ := hk_mem_ix hx
  have h1 := hk_byd_ge hs (by omega) hi hb
  rcases Nat.lt_or_ge r i with z | z
  · have := hm _ (hk_ix_mem hr) (hk_byd_r hs hr)
    rw [hk_sd_lt hs z hi] at this; cases this
  · rw [show i = r by omega]
/-! where a term is inserted -/
def hk_pos (t : List Nat) : List (List Nat) → Nat
  | [] => 0
  | h :: r => if hk_lt h t = true then hk_pos t r + 1 else 0
theorem hk_pos_t {t h : List Nat} {r : List (List Nat)} (z : hk_lt h t = true) : hk_pos t (h :: r) = hk_pos t r + 1 := by rw [hk_pos]; exact if_pos z
theorem hk_pos_f {t h : List Nat} {r : List (List Nat)} (z : ¬ hk_lt h t = true) : hk_pos t (h :: r) = 0 := by rw [hk_pos]; exact if_neg z
theorem hk_pos_le {t : List Nat} : ∀ {H : List (List Nat)}, hk_pos t H ≤ H.length
  | [] => Nat.le_refl _
  | h :: r => by
    have := hk_pos_le (t := t) (H := r)
    by_cases z : hk_lt h t = true
    · rw [hk_pos_t z, List.length_cons]; omega
    · rw [hk_pos_f z]; exact Nat.zero_le _
theorem hk_gd_drop {S : List (List Nat)} {i : Nat} (h : i < S.length) : S.drop i = S.getD i [] :: S.drop (i + 1) := by
  rw [List.drop_eq_getElem_cons h, hk_gd h]
theorem hk_ins_same {t : List Nat} : ∀ {H : List (List Nat)}, hk_pos t H < H.length → H.getD (hk_pos t H) [] = t → hk_ins t H = H
  | [], h, _ => absurd h (Nat.not_lt_zero _)
  | h :: r, hp, he => by
    by_cases z : hk_lt h t = true
    · rw [hk_pos_t z] at hp he
      rw [List.getD_cons_succ] at he
      rw [hk_ins, if_pos z, hk_ins_same (by rw [List.length_cons] at hp; omega) he]
    · rw [hk_pos_f z] at he
      have he : h = t := he
      rw [hk_ins, if_neg z, if_pos he]
theorem hk_ins_new {t : List Nat} : ∀ {H : List (List Nat)}, (hk_pos t H < H.length → H.getD (hk_pos t H) [] ≠ t) → hk_ins t H = H.take (hk_pos t H) ++ t :: H.drop (hk_pos t H)
  | [], _ => rfl
  | h :: r, hp => by
    by_cases z : hk_lt h t = true
    · rw [hk_pos_t z] at hp ⊢
      rw [hk_ins, if_pos z, List.take_succ_cons, List.drop_succ_cons, List.cons_append, ← hk_ins_new]
      intro w
      have := hp (by rw [List.length_cons]; omega)
      rw [List.getD_cons_succ] at this
      exact this
    · rw [hk_pos_f z] at hp ⊢
      have : h ≠ t := hp (by rw [List.length_cons]; omega)
      rw [hk_ins, if_neg z, if_neg this]; rfl
/-- the terms at i of a list with t put in at q -/
theorem hk_put_lo {H : List (List Nat)} {t : List Nat} {q i : Nat} (hq : q ≤ H.length) (hi : i < q) : (H.take q ++ t :: H.drop q).getD i [] = H.getD i [] := by
  have a : i < (H.take q).length := by rw [List.length_take]; omega
  simp [List.getD_eq_getElem?_getD, List.getElem?_append_left a, List.getElem?_take, hi]
theorem hk_put_at {H : List (List Nat)} {t : List Nat} {q : Nat} (hq : q ≤ H.length) : (H.take q ++ t :: H.drop q).getD q [] = t := by
  have a : (H.take q).length = q := by rw [List.length_take]; omega
  have b : (H.take q).length ≤ q := by omega
  rw [List.getD_eq_getElem?_getD, List.getElem?_append_right b, a, Nat.sub_self]; rfl
theorem hk_put_hi {H : List (List Nat)} {t : List Nat} {q i : Nat} (hq : q ≤ H.length) (hi : q ≤ i) : (H.take q ++ t :: H.drop q).getD (i + 1) [] = H.getD i [] := by
  have a : (H.take q).length = q := by rw [List.length_take]; omega
  have b : (H.take q).length ≤ i + 1 := by omega
  rw [List.getD_eq_getElem?_getD, List.getElem?_append_right b, a, show i + 1 - q = (i - q) + 1 by omega, List.getElem?_cons_succ, List.getElem?_drop, show q + (i - q) = i by omega, List.getD_eq_getElem?_getD]
theorem hk_put_len {H : List (List Nat)} {t : List Nat} {q : Nat} (hq : q ≤ H.length) : (H.take q ++ t :: H.drop q).length = H.length + 1 := by
  rw [List.length_append, List.length_cons, List.length_take, List.length_drop]; omega
/-- slots from f on hold the terms of H -/
def hk_hs (hd : Nat → List Nat → Prop) (f : Nat) (H : List (List Nat)) : Prop := ∀ i, i < H.length → hd (f + i) (H.getD i [])
theorem hk_gd_l {C : List (List Nat)} {t : List Nat} {i : Nat} (h : i < C.length) : (C ++ [t]).getD i [] = C.getD i [] := by
  simp [List.getD_eq_getElem?_getD, List.getElem?_append_left h]
theorem hk_gd_r (C : List (List Nat)) (t : List Nat) : (C ++ [t]).getD C.length [] = t := by
  rw [List.getD_eq_getElem?_getD, List.getElem?_append_right (Nat.le_refl _), Nat.sub_self]; rfl
theorem hk_hs_app {hd : Nat → List Nat → Prop} {f : Nat} {C : List (List Nat)} {t : List Nat} (h : hk_hs hd f C) (ht : hd (f + C.length) t) : hk_hs hd f (C ++ [t]) := by
  intro i hi
  rw [List.length_append] at hi
  have hi : i < C.length + 1 := hi
  rcases Nat.lt_or_ge i C.length with z | z
  · rw [hk_gd_l z]; exact h i z
  · have e : i = C.length := by omega
    subst e
    rw [hk_gd_r]; exact ht
/-- the least candidate so far among those beyond the r first of S -/
def hk_best (S C : List (List Nat)) (r c : Nat) (x : Int32) : Prop :=
  (x = -1 ∧ ∀ j, j < c → ¬ hk_byd S r (C.getD j [])) ∨
  ∃ b, b < c ∧ x = nI b ∧ hk_byd S r (C.getD b []) ∧ ∀ j, j < c → hk_byd S r (C.getD j []) → hk_lt (C.getD j []) (C.getD b []) = false
theorem hk_best_0 (S C : List (List Nat)) (r : Nat) : hk_best S C r 0 (-1) := Or.inl ⟨rfl, fun j hj => absurd hj (Nat.not_lt_zero j)⟩
theorem hk_best_no {S C : List (List Nat)} {r c : Nat} {x : Int32} (h : hk_best S C r c x) (hn : ¬ hk_byd S r (C.getD c [])) : hk_best S C r (c + 1) x := by
  rcases h with ⟨e, h⟩ | ⟨b, hb, e, h1, h2⟩
  · refine Or.inl ⟨e, fun j hj => ?_⟩
    by_cases w : j = c
    · subst w; exact hn
    · exact h j (by omega)
  · refine Or.inr ⟨b, by omega, e, h1, fun j hj hy => ?_⟩
    by_cases w : j = c
    · subst w; exact absurd hy hn
    · exact h2 j (by omega) hy
theorem hk_best_first {S C : List (List Nat)} {r c : Nat} (h : ∀ j, j < c → ¬ hk_byd S r (C.getD j [])) (hn : hk_byd S r (C.getD c [])) : hk_best S C r (c + 1) (nI c) := by
  refine Or.inr ⟨c, by omega, rfl, hn, fun j hj hy => ?_⟩
  by_cases w : j = c
  · subst w; exact hk_lt_irr _
  · exact absurd hy (h j (by omega))
theorem hk_best_keep {S C : List (List Nat)} {r c b : Nat} (hb : b < c) (h1 : hk_byd S r (C.getD b [])) (h2 : ∀ j, j < c → hk_byd S r (C.getD j []) → hk_lt (C.getD j []) (C.getD b []) = false) (hn : hk_lt (C.getD c []) (C.getD b []) = false) : hk_best S C r (c + 1) (nI b) := by
  refine Or.inr ⟨b, by omega, rfl, h1, fun j hj hy => ?_⟩
  by_cases w : j = c
  · subst w; exact hn
  · exact h2 j (by omega) hy
theorem hk_best_new {S C : List (List Nat)} {r c b : Nat} (h2 : ∀ j, j < c → hk_byd S r (C.getD j []) → hk_lt (C.getD j []) (C.getD b []) = false) (hc : hk_byd S r (C.getD c [])) (hn : hk_lt (C.getD c []) (C.getD b []) = true) : hk_best S C r (c + 1) (nI c) := by
  refine Or.inr ⟨c, by omega, rfl, hc, fun j hj hy => ?_⟩
  by_cases w : j = c
  · subst w; exact hk_lt_irr _
  · cases q : hk_lt (C.getD j []) (C.getD c []) with
    | false => rfl
    | true =>
      have a := hk_lt_trans q hn
      rw [h2 j (by omega) hy] at a; cases a
theorem hk_ft (A : List (List Nat)) : A.filter (fun _ => true) = A := by
  induction A with
  | nil => rfl
  | cons a t ih => rw [List.filter_cons_of_pos rfl, ih]
theorem hk_un_gt {n : Nat} {S ts : List (List Nat)} (hS : ∀ y, y ∈ S → hk_gt n y) (ht : ∀ y, y ∈ ts → hk_gt n y) : ∀ y, y ∈ hk_un S ts → hk_gt n y := by
  intro y hy
  rcases hk_un_mem.mp hy with e | e
  · exact ht y e
  · exact hS y e
theorem hk_nilm {n : Nat} : ∀ y, y ∈ ([] : List (List Nat)) → hk_gt n y := fun y hy => absurd hy List.not_mem_nil
