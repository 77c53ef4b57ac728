/-! codes of terms: arity, running need, ends of subterms -/
def hk_ar (c : Nat) : Nat := if c / 65536 = 3 then 2 else if c / 65536 = 4 then 1 else 0
def hk_run : Nat → List Nat → Option Nat
  | n, [] => some n
  | 0, _ :: _ => none
  | n + 1, c :: l => hk_run (n + hk_ar c) l
theorem hk_run_nil (n : Nat) : hk_run n [] = some n := by cases n <;> rfl
theorem hk_run_0 (c : Nat) (l : List Nat) : hk_run 0 (c :: l) = none := rfl
theorem hk_run_s (n c : Nat) (l : List Nat) : hk_run (n + 1) (c :: l) = hk_run (n + hk_ar c) l := rfl
theorem hk_run_app : ∀ (a b : List Nat) (n m : Nat), hk_run n a = some m → hk_run n (a ++ b) = hk_run m b
  | [], b, n, m, h => by rw [hk_run_nil] at h; cases h; rfl
  | c :: a, b, 0, m, h => by rw [hk_run_0] at h; cases h
  | c :: a, b, n + 1, m, h => by
    rw [hk_run_s] at h
    rw [List.cons_append, hk_run_s]
    exact hk_run_app a b _ _ h
theorem hk_run_add : ∀ (a : List Nat) (n m k : Nat), hk_run n a = some m → hk_run (n + k) a = some (m + k)
  | [], n, m, k, h => by rw [hk_run_nil] at h ⊢; cases h; rfl
  | c :: a, 0, m, k, h => by rw [hk_run_0] at h; cases h
  | c :: a, n + 1, m, k, h => by
    rw [hk_run_s] at h
    have q := hk_run_add a _ m k h
    rw [show n + 1 + k = (n + k) + 1 by omega, hk_run_s, show n + k + hk_ar c = n + hk_ar c + k by omega]
    exact q
theorem hk_run_spl : ∀ (a b : List Nat) (n m : Nat), hk_run n (a ++ b) = some m → ∃ j, hk_run n a = some j ∧ hk_run j b = some m
  | [], b, n, m, h => ⟨n, hk_run_nil n, h⟩
  | c :: a, b, 0, m, h => by rw [List.cons_append, hk_run_0] at h; cases h
  | c :: a, b, n + 1, m, h => by
    rw [List.cons_append, hk_run_s] at h
    obtain ⟨j, h1, h2⟩ := hk_run_spl a b _ _ h
    exact ⟨j, by rw [hk_run_s]; exact h1, h2⟩
theorem hk_run_one {j c m : Nat} (h : hk_run j [c] = some m) : ∃ i, j = i + 1 ∧ m = i + hk_ar c := by
  cases j with
  | zero => rw [hk_run_0] at h; cases h
  | succ i =>
    rw [hk_run_s, hk_run_nil] at h
    cases h
    exact ⟨i, rfl, rfl⟩
def hk_spn : Nat → List Nat → Nat
  | 0, _ => 0
  | _ + 1, [] => 0
  | n + 1, c :: l => hk_spn (n + hk_ar c) l + 1
theorem hk_spn_0 (l : List Nat) : hk_spn 0 l = 0 := by cases l <;> rfl
theorem hk_spn_nil (n : Nat) : hk_spn n [] = 0 := by cases n <;> rfl
theorem hk_spn_s (n c : Nat) (l : List Nat) : hk_spn (n + 1) (c :: l) = hk_spn (n + hk_ar c) l + 1 := rfl
theorem hk_spn_split : ∀ (l : List Nat) (a b : Nat), hk_run (a + b) l = some 0 →
    hk_spn a l ≤ l.length ∧ hk_run a (l.take (hk_spn a l)) = some 0 ∧ hk_run b (l.drop (hk_spn a l)) = some 0
  | [], a, b, h => by
    rw [hk_run_nil] at h
    have e : a + b = 0 := Option.some.inj h
    obtain ⟨rfl, rfl⟩ : a = 0 ∧ b = 0 := by omega
    exact ⟨Nat.le_refl _, rfl, rfl⟩
  | c :: l, 0, b, h => by
    rw [Nat.zero_add] at h
    rw [hk_spn_0]
    exact ⟨Nat.zero_le _, rfl, h⟩
  | c :: l, a + 1, b, h => by
    rw [show a + 1 + b = (a + b) + 1 by omega, hk_run_s, show a + b + hk_ar c = a + hk_ar c + b by omega] at h
    obtain ⟨h1, h2, h3⟩ := hk_spn_split l (a + hk_ar c) b h
    rw [hk_spn_s]
    refine ⟨by rw [List.length_cons]; omega, ?_, ?_⟩
    · rw [List.take_succ_cons, hk_run_s]; exact h2
    · rw [List.drop_succ_cons]; exact h3
theorem hk_spn_mono : ∀ (l : List Nat) (a b : Nat), a ≤ b → hk_spn a l ≤ hk_spn b l
  | [], a, b, _ => by rw [hk_spn_nil, hk_spn_nil]; exact Nat.le_refl _
  | c :: l, 0, b, _ => by rw [hk_spn_0]; exact Nat.zero_le _
  | c :: l, a + 1, 0, h => by omega
  | c :: l, a + 1, b + 1, h => by
    rw [hk_spn_s, hk_spn_s]
    have := hk_spn_mono l (a + hk_ar c) (b + hk_ar c) (by omega)
    omega
theorem hk_spn_adv : ∀ (k : Nat) (l : List Nat) (n : Nat), k < hk_spn n l → ∃ m, 1 ≤ m ∧ hk_spn n l = k + hk_spn m (l.drop k)
  | 0, l, 0, h => by rw [hk_spn_0] at h; omega
  | 0, l, n + 1, h => ⟨n + 1, by omega, by rw [List.drop_zero]; omega⟩
  | k + 1, l, 0, h => by rw [hk_spn_0] at h; omega
  | k + 1, [], n + 1, h => by rw [hk_spn_nil] at h; omega
  | k + 1, c :: l, n + 1, h => by
    rw [hk_spn_s] at h
    obtain ⟨m, h1, h2⟩ := hk_spn_adv k l (n + hk_ar c) (by omega)
    exact ⟨m, h1, by rw [hk_spn_s, List.drop_succ_cons]; omega⟩
def hk_c (l : List Nat) (p : Nat) : Nat := l.getD p 0
theorem hk_c_drop {l : List Nat} {p : Nat} (h : p < l.length) : l.drop p = hk_c l p :: l.drop (p + 1) := by
  rw [List.drop_eq_getElem_cons h]
  simp [hk_c, List.getD_eq_getElem?_getD, List.getElem?_eq_getElem h]
theorem hk_c_l {a b : List Nat} {p : Nat} (h : p < a.length) : hk_c (a ++ b) p = hk_c a p := by
  simp [hk_c, List.getD_eq_getElem?_getD, List.getElem?_append_left h]
theorem hk_c_r (a b : List Nat) (i : Nat) : hk_c (a ++ b) (a.length + i) = hk_c b i := by
  simp [hk_c, List.getD_eq_getElem?_getD, List.getElem?_append_right (Nat.le_add_right _ _)]
theorem hk_c_mem {l : List Nat} {p : Nat} (h : p < l.length) : hk_c l p ∈ l := by
  simp [hk_c, List.getD_eq_getElem?_getD, List.getElem?_eq_getElem h]
theorem hk_c_ex {l : List Nat} {x : Nat} (h : x ∈ l) : ∃ p, p < l.length ∧ hk_c l p = x := by
  obtain ⟨p, hp, e⟩ := List.getElem_of_mem h
  exact ⟨p, hp, by simp [hk_c, List.getD_eq_getElem?_getD, List.getElem?_eq_getElem hp, e]⟩
def hk_e (l : List Nat) (p : Nat) : Nat := p + hk_spn 1 (l.drop p)
def hk_at (l : List Nat) (p n : Nat) : Prop := p ≤ l.length ∧ hk_run n (l.drop p) = some 0
theorem hk_at0 {l : List Nat} (h : hk_run 1 l = some 0) : hk_at l 0 1 := ⟨Nat.zero_le _, by rw [List.drop_zero]; exact h⟩
theorem hk_at_lt {l : List Nat} {p n : Nat} (h : hk_at l p (n + 1)) : p < l.length := by
  rcases Nat.lt_or_ge p l.length with z | z
  · exact z
  · have := h.2
    rw [List.drop_of_length_le z, hk_run_nil] at this
    cases this
theorem hk_at_s {l : List Nat} {p n : Nat} (h : hk_at l p (n + 1)) : hk_at l (p + 1) (n + hk_ar (hk_c l p)) := by
  have hp := hk_at_lt h
  have q := h.2
  rw [hk_c_drop hp, hk_run_s] at q
  exact ⟨hp, q⟩
theorem hk_at_ex {l : List Nat} (h : hk_run 1 l = some 0) {p : Nat} (hp : p < l.length) : ∃ n, hk_run 1 (l.take p) = some (n + 1) ∧ hk_at l p (n + 1) := by
  rw [← List.take_append_drop p l] at h
  obtain ⟨j, h1, h2⟩ := hk_run_spl _ _ _ _ h
  cases j with
  | zero => rw [hk_c_drop hp, hk_run_0] at h2; cases h2
  | succ n => exact ⟨n, h1, Nat.le_of_lt hp, h2⟩
theorem hk_at_end {l : List Nat} {p n : Nat} (h : hk_at l p (n + 1)) :
    p < hk_e l p ∧ hk_at l (hk_e l p) n ∧ hk_run 1 ((l.drop p).take (hk_e l p - p)) = some 0 := by
  have hp := hk_at_lt h
  have q := h.2
  rw [Nat.add_comm n 1] at q
  obtain ⟨h1, h2, h3⟩ := hk_spn_split _ 1 n q
  rw [List.drop_drop] at h3
  rw [List.length_drop] at h1
  have e : hk_spn 1 (l.drop p) = hk_spn (0 + hk_ar (hk_c l p)) (l.drop (p + 1)) + 1 := by
    rw [hk_c_drop hp]; rfl
  unfold hk_e
  refine ⟨by omega, ⟨by omega, h3⟩, ?_⟩
  rw [Nat.add_sub_cancel_left]
  exact h2
theorem hk_nest {l : List Nat} {q s : Nat} (h : q ≤ s) (hs : s < hk_e l q) : hk_e l s ≤ hk_e l q := by
  unfold hk_e at hs ⊢
  obtain ⟨m, hm, e⟩ := hk_spn_adv (s - q) (l.drop q) 1 (by omega)
  rw [List.drop_drop, show q + (s - q) = s by omega] at e
  have := hk_spn_mono (l.drop s) 1 m hm
  omega
/-! the number of ABS nodes above p among the nodes s .. s+k-1 -/
def hk_dn (l : List Nat) (p s : Nat) : Nat → Nat
  | 0 => 0
  | k + 1 => hk_dn l p s k + (if hk_c l (s + k) / 65536 = 4 ∧ p < hk_e l (s + k) then 1 else 0)
def hk_dp (l : List Nat) (s p : Nat) : Nat := hk_dn l p s (p - s)
theorem hk_dn_le (l : List Nat) (p s : Nat) : ∀ k, hk_dn l p s k ≤ k
  | 0 => Nat.le_refl _
  | k + 1 => by
    have := hk_dn_le l p s k
    unfold hk_dn
    split <;> omega
theorem hk_dn_add (l : List Nat) (p s a : Nat) : ∀ b, hk_dn l p s (a + b) = hk_dn l p s a + hk_dn l p (s + a) b
  | 0 => rfl
  | b + 1 => by
    rw [show a + (b + 1) = (a + b) + 1 by omega]
    show hk_dn l p s (a + b) + _ = hk_dn l p s a + (hk_dn l p (s + a) b + _)
    rw [hk_dn_add l p s a b, show s + (a + b) = s + a + b by omega, Nat.add_assoc]
theorem hk_dn_congr {l : List Nat} {p p' s : Nat} : ∀ {k : Nat}, (∀ i, i < k → (p < hk_e l (s + i) ↔ p' < hk_e l (s + i))) → hk_dn l p s k = hk_dn l p' s k
  | 0, _ => rfl
  | k + 1, h => by
    have a := hk_dn_congr (l := l) (p := p) (p' := p') (s := s) (k := k) (fun i hi => h i (by omega))
    unfold hk_dn
    rw [a]
    simp only [h k (by omega)]
theorem hk_dn_zero {l : List Nat} {p s : Nat} : ∀ {k : Nat}, (∀ i, i < k → hk_c l (s + i) / 65536 = 4 → hk_e l (s + i) ≤ p) → hk_dn l p s k = 0
  | 0, _ => rfl
  | k + 1, h => by
    have a := hk_dn_zero (l := l) (p := p) (s := s) (k := k) (fun i hi => h i (by omega))
    unfold hk_dn
    rw [a, if_neg]
    intro z
    have := h k (by omega) z.1
    omega
theorem hk_dp_sub {l : List Nat} {s p : Nat} (h : s ≤ p) (hp : p < hk_e l s) : hk_dp l 0 p = hk_dp l 0 s + hk_dp l s p := by
  unfold hk_dp
  rw [show p - 0 = s + (p - s) by omega, hk_dn_add, Nat.zero_add, Nat.sub_zero]
  rw [hk_dn_congr (p := p) (p' := s) (s := 0) (k := s)]
  intro i hi
  rw [Nat.zero_add]
  constructor
  · intro z; omega
  · intro z
    have := hk_nest (l := l) (q := i) (s := s) (by omega) z
    omega
/-! lists built by a loop over positions -/
def hk_fm (f : Nat → List Nat) (a : Nat) : Nat → List Nat
  | 0 => []
  | k + 1 => hk_fm f a k ++ f (a + k)
theorem hk_fm_l (f : Nat → List Nat) : ∀ (k a : Nat), hk_fm f a (k + 1) = f a ++ hk_fm f (a + 1) k
  | 0, a => by simp [hk_fm]
  | k + 1, a => by
    show hk_fm f a (k + 1) ++ f (a + (k + 1)) = f a ++ (hk_fm f (a + 1) k ++ f (a + 1 + k))
    rw [hk_fm_l f k a, List.append_assoc, show a + (k + 1) = a + 1 + k by omega]
theorem hk_fm_len (f : Nat → Nat) (a : Nat) : ∀ k, (hk_fm (fun p => [f p]) a k).length = k
  | 0 => rfl
  | k + 1 => by
    show (hk_fm (fun p => [f p]) a k ++ [f (a + k)]).length = k + 1
    rw [List.length_append, hk_fm_len f a k]; rfl
theorem hk_fm_sub {l : List Nat} : ∀ (k a : Nat), a + k ≤ l.length → hk_fm (fun p => [hk_c l p]) a k = (l.drop a).take k
  | 0, a, _ => by rw [List.take_zero]; rfl
  | k + 1, a, h => by
    rw [hk_fm_l, hk_fm_sub k (a + 1) (by omega), hk_c_drop (l := l) (p := a) (by omega), List.take_succ_cons]; rfl
theorem hk_fm_all (l : List Nat) : hk_fm (fun p => [hk_c l p]) 0 l.length = l := by
  rw [hk_fm_sub l.length 0 (by omega), List.drop_zero, List.take_length]
theorem hk_fm_mem {f : Nat → List Nat} {a x : Nat} : ∀ {k : Nat}, x ∈ hk_fm f a k → ∃ i, i < k ∧ x ∈ f (a + i)
  | 0, h => by cases h
  | k + 1, h => by
    rcases List.mem_append.mp h with z | z
    · obtain ⟨i, hi, e⟩ := hk_fm_mem z
      exact ⟨i, by omega, e⟩
    · exact ⟨k, by omega, z⟩
theorem hk_fm_congr {f g : Nat → List Nat} {a : Nat} : ∀ {k : Nat}, (∀ i, i < k → f (a + i) = g (a + i)) → hk_fm f a k = hk_fm g a k
  | 0, _ => rfl
  | k + 1, h => by
    show hk_fm f a k ++ f (a + k) = hk_fm g a k ++ g (a + k)
    rw [hk_fm_congr (fun i hi => h i (by omega)), h k (by omega)]
theorem hk_fm_run {f : Nat → List Nat} {g : Nat → Nat} {a n : Nat} : ∀ {k m : Nat},
    (∀ i, i < k → ∀ j, hk_run (j + 1) (f (a + i)) = some (j + hk_ar (g (a + i)))) →
    hk_run n (hk_fm (fun p => [g p]) a k) = some m → hk_run n (hk_fm f a k) = some m
  | 0, m, _, h => h
  | k + 1, m, hf, h => by
    obtain ⟨j, h1, h2⟩ := hk_run_spl _ _ _ _ h
    obtain ⟨i, rfl, rfl⟩ := hk_run_one h2
    have q := hk_fm_run (fun i hi => hf i (by omega)) h1
    show hk_run n (hk_fm f a k ++ f (a + k)) = _
    rw [hk_run_app _ _ _ _ q]
    exact hf k (by omega) i
theorem hk_run1 {l : List Nat} (h : hk_run 1 l = some 0) (j : Nat) : hk_run (j + 1) l = some j := by
  have := hk_run_add l 1 0 j h
  rw [Nat.add_comm 1 j, Nat.zero_add] at this
  exact this
theorem hk_run_c (j c : Nat) : hk_run (j + 1) [c] = some (j + hk_ar c) := by rw [hk_run_s, hk_run_nil]
theorem hk_run_len : ∀ {l : List Nat} {n : Nat}, hk_run n l = some 0 → n ≤ l.length
  | [], n, h => by
    rw [hk_run_nil] at h
    have e : n = 0 := Option.some.inj h
    omega
  | c :: l, 0, h => Nat.zero_le _
  | c :: l, n + 1, h => by
    rw [hk_run_s] at h
    have := hk_run_len h
    rw [List.length_cons]; omega
theorem hk_c_sub {l : List Nat} {a n i : Nat} (hi : i < n) : hk_c ((l.drop a).take n) i = hk_c l (a + i) := by
  unfold hk_c
  rw [List.getD_eq_getElem?_getD, List.getD_eq_getElem?_getD, List.getElem?_take, if_pos hi, List.getElem?_drop]
