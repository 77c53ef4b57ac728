section
/-! rows of kit/rows, as pasted -/
theorem pk_us {f : Nat → Int32} {k : Nat} {x : Int32} : upd f k x k = x := if_pos rfl
theorem pk_un {f : Nat → Int32} {k j : Nat} {x : Int32} (h : j ≠ k) : upd f k x j = f j := if_neg h
theorem pk_sub {a b : Nat} (h : b ≤ a) : nI a - nI b = nI (a - b) := by
  obtain ⟨c, rfl⟩ : ∃ c, a = c + b := ⟨a - b, by omega⟩
  rw [← nI_add, Int32.add_sub_cancel, Nat.add_sub_cancel]
theorem pk_m1 (n : Nat) : nI (n + 1) + (-1) = nI n := by
  rw [← nI_1, Int32.add_assoc, show (1 : Int32) + (-1) = 0 from rfl, Int32.add_zero]
theorem pk_mul (a b : Nat) : nI a * nI b = nI (a * b) := (Int32.ofNat_mul a b).symm
theorem pk_div {a d : Nat} (ha : a < 2 ^ 31) (h0 : 0 < d) (hd : d < 2 ^ 31) : nI a / nI d = nI (a / d) := by
  apply Int32.toInt_inj.mp
  rw [lg_idiv_nonneg (by rw [nI_toInt ha]; omega) (by rw [nI_toInt hd]; omega), nI_toInt ha, nI_toInt hd, nI_toInt (Nat.lt_of_le_of_lt (Nat.div_le_self a d) ha)]
  first | rfl | exact (Int.natCast_ediv _ _).symm
theorem pk_rem {a d : Nat} (ha : a < 2 ^ 31) (h0 : 0 < d) (hd : d < 2 ^ 31) : nI a - nI a / nI d * nI d = nI (a % d) := by
  rw [pk_div ha h0 hd, pk_mul, pk_sub (Nat.div_mul_le_self a d)]
  exact congrArg nI (by have := Nat.div_add_mod' a d; omega)
theorem pk_sub_toInt {a b : Nat} (ha : a < 2 ^ 30) (hb : b < 2 ^ 30) : (nI a - nI b).toInt = (a : Int) - b := by
  rw [Int32.toInt_sub, nI_toInt (by omega), nI_toInt (by omega)]
  exact Int.bmod_eq_of_le (by omega) (by omega)
theorem pk_sneg {a b : Nat} (hb : b < 2 ^ 30) (h : a < b) : nI a - nI b < 0 := by
  rw [Int32.lt_iff_toInt_lt, pk_sub_toInt (by omega) hb, show (0 : Int32).toInt = 0 from by decide]
  omega
theorem pk_ix (x : Int32) {n : Nat} (hn : n < 2 ^ 31) : x < 0 ∨ nI n ≤ x ∨ ∃ j : Nat, j < n ∧ x = nI j := by
  by_cases h : x < 0
  · exact Or.inl h
  · obtain ⟨j, hj, rfl⟩ := nI_of h
    by_cases h2 : j < n
    · exact Or.inr (Or.inr ⟨j, h2, rfl⟩)
    · exact Or.inr (Or.inl (nI_le (by omega) hj))
theorem pk_le {x y : Int32} {A B : Prop} (a b : Nat) (f : a ≤ b → A) (g : b < a → B) (hx : x = nI a := by rfl) (hy : y = nI b := by rfl) (ha : a < 2 ^ 31 := by omega) (hb : b < 2 ^ 31 := by omega) : (x ≤ y → A) ∧ (¬ x ≤ y → B) := by
  subst hx hy
  rw [nI_leI ha hb]
  exact ⟨f, fun z => g (by omega)⟩
theorem pk_lt {x y : Int32} {A B : Prop} (a b : Nat) (f : a < b → A) (g : b ≤ a → B) (hx : x = nI a := by rfl) (hy : y = nI b := by rfl) (ha : a < 2 ^ 31 := by omega) (hb : b < 2 ^ 31 := by omega) : (x < y → A) ∧ (¬ x < y → B) := by
  subst hx hy
  rw [nI_ltI ha hb]
  exact ⟨f, fun z => g (by omega)⟩
theorem pk_eq {x y : Int32} {A B : Prop} (a b : Nat) (f : a = b → A) (g : a ≠ b → B) (hx : x = nI a := by rfl) (hy : y = nI b := by rfl) (ha : a < 2 ^ 31 := by omega) (hb : b < 2 ^ 31 := by omega) : (x = y → A) ∧ (¬ x = y → B) := by
  subst hx hy
  rw [nI_eq ha hb]
  exact ⟨f, g⟩
theorem pk_in {x : Int32} (n N : Nat) (h : n < N) (hx : x = nI n := by rfl) (hN : N < 2 ^ 31 := by omega) : vp_in x N := by
  subst hx
  exact vp_in_nI h hN
theorem pk_cl {x : Int32} (n : Nat) (hx : x = nI n := by rfl) (h : n < 2 ^ 31 := by omega) : x.toNatClampNeg = n := by
  subst hx
  exact nI_clamp h
end
section
/-! codes of terms: arity, running need, ends of subterms -/
def hk_ar (c : Nat) : Nat := if c / 65536 = 3 then 2 else if c / 65536 = 4 then 1 else 0
def hk_run : Nat → List Nat → Option Nat
  | n, [] => some n
  | 0, _ :: _ => none
  | n + 1, c :: l => hk_run (n + hk_ar c) l
theorem hk_run_nil (n : Nat) : hk_run n [] = some n := by cases n <;> rfl
theorem hk_run_0 (c : Nat) (l : List Nat) : hk_run 0 (c :: l) = none := rfl
theorem hk_run_s (n c : Nat) (l : List Nat) : hk_run (n + 1) (c :: l) = hk_run (n + hk_ar c) l := rfl
theorem hk_run_app : ∀ (a b : List Nat) (n m : Nat), hk_run n a = some m → hk_run n (a ++ b) = hk_run m b
  | [], b, n, m, h => by rw [hk_run_nil] at h; cases h; rfl
  | c :: a, b, 0, m, h => by rw [hk_run_0] at h; cases h
  | c :: a, b, n + 1, m, h => by
    rw [hk_run_s] at h
    rw [List.cons_append, hk_run_s]
    exact hk_run_app a b _ _ h
theorem hk_run_add : ∀ (a : List Nat) (n m k : Nat), hk_run n a = some m → hk_run (n + k) a = some (m + k)
  | [], n, m, k, h => by rw [hk_run_nil] at h ⊢; cases h; rfl
  | c :: a, 0, m, k, h => by rw [hk_run_0] at h; cases h
  | c :: a, n + 1, m, k, h => by
    rw [hk_run_s] at h
    have q := hk_run_add a _ m k h
    rw [show n + 1 + k = (n + k) + 1 by omega, hk_run_s, show n + k + hk_ar c = n + hk_ar c + k by omega]
    exact q
theorem hk_run_spl : ∀ (a b : List Nat) (n m : Nat), hk_run n (a ++ b) = some m → ∃ j, hk_run n a = some j ∧ hk_run j b = some m
  | [], b, n, m, h => ⟨n, hk_run_nil n, h⟩
  | c :: a, b, 0, m, h => by rw [List.cons_append, hk_run_0] at h; cases h
  | c :: a, b, n + 1, m, h => by
    rw [List.cons_append, hk_run_s] at h
    obtain ⟨j, h1, h2⟩ := hk_run_spl a b _ _ h
    exact ⟨j, by rw [hk_run_s]; exact h1, h2⟩
theorem hk_run_one {j c m : Nat} (h : hk_run j [c] = some m) : ∃ i, j = i + 1 ∧ m = i + hk_ar c := by
  cases j with
  | zero => rw [hk_run_0] at h; cases h
  | succ i =>
    rw [hk_run_s, hk_run_nil] at h
    cases h
    exact ⟨i, rfl, rfl⟩
def hk_spn : Nat → List Nat → Nat
  | 0, _ => 0
  | _ + 1, [] => 0
  | n + 1, c :: l => hk_spn (n + hk_ar c) l + 1
theorem hk_spn_0 (l : List Nat) : hk_spn 0 l = 0 := by cases l <;> rfl
theorem hk_spn_nil (n : Nat) : hk_spn n [] = 0 := by cases n <;> rfl
theorem hk_spn_s (n c : Nat) (l : List Nat) : hk_spn (n + 1) (c :: l) = hk_spn (n + hk_ar c) l + 1 := rfl
theorem hk_spn_split : ∀ (l : List Nat) (a b : Nat), hk_run (a + b) l = some 0 →
    hk_spn a l ≤ l.length ∧ hk_run a (l.take (hk_spn a l)) = some 0 ∧ hk_run b (l.drop (hk_spn a l)) = some 0
  | [], a, b, h => by
    rw [hk_run_nil] at h
    have e : a + b = 0 := Option.some.inj h
    obtain ⟨rfl, rfl⟩ : a = 0 ∧ b = 0 := by omega
    exact ⟨Nat.le_refl _, rfl, rfl⟩
  | c :: l, 0, b, h => by
    rw [Nat.zero_add] at h
    rw [hk_spn_0]
    exact ⟨Nat.zero_le _, rfl, h⟩
  | c :: l, a + 1, b, h => by
    rw [show a + 1 + b = (a + b) + 1 by omega, hk_run_s, show a + b + hk_ar c = a + hk_ar c + b by omega] at h
    obtain ⟨h1, h2, h3⟩ := hk_spn_split l (a + hk_ar c) b h
    rw [hk_spn_s]
    refine ⟨by rw [List.length_cons]; omega, ?_, ?_⟩
    · rw [List.take_succ_cons, hk_run_s]; exact h2
    · rw [List.drop_succ_cons]; exact h3
theorem hk_spn_mono : ∀ (l : List Nat) (a b : Nat), a ≤ b → hk_spn a l ≤ hk_spn b l
  | [], a, b, _ => by rw [hk_spn_nil, hk_spn_nil]; exact Nat.le_refl _
  | c :: l, 0, b, _ => by rw [hk_spn_0]; exact Nat.zero_le _
  | c :: l, a + 1, 0, h => by omega
  | c :: l, a + 1, b + 1, h => by
    rw [hk_spn_s, hk_spn_s]
    have := hk_spn_mono l (a + hk_ar c) (b + hk_ar c) (by omega)
    omega
theorem hk_spn_adv : ∀ (k : Nat) (l : List Nat) (n : Nat), k < hk_spn n l → ∃ m, 1 ≤ m ∧ hk_spn n l = k + hk_spn m (l.drop k)
  | 0, l, 0, h => by rw [hk_spn_0] at h; omega
  | 0, l, n + 1, h => ⟨n + 1, by omega, by rw [List.drop_zero]; omega⟩
  | k + 1, l, 0, h => by rw [hk_spn_0] at h; omega
  | k + 1, [], n + 1, h => by rw [hk_spn_nil] at h; omega
  | k + 1, c :: l, n + 1, h => by
    rw [hk_spn_s] at h
    obtain ⟨m, h1, h2⟩ := hk_spn_adv k l (n + hk_ar c) (by omega)
    exact ⟨m, h1, by rw [hk_spn_s, List.drop_succ_cons]; omega⟩
def hk_c (l : List Nat) (p : Nat) : Nat := l.getD p 0
theorem hk_c_drop {l : List Nat} {p : Nat} (h : p < l.length) : l.drop p = hk_c l p :: l.drop (p + 1) := by
  rw [List.drop_eq_getElem_cons h]
  simp [hk_c, List.getD_eq_getElem?_getD, List.getElem?_eq_getElem h]
theorem hk_c_l {a b : List Nat} {p : Nat} (h : p < a.length) : hk_c (a ++ b) p = hk_c a p := by
  simp [hk_c, List.getD_eq_getElem?_getD, List.getElem?_append_left h]
theorem hk_c_r (a b : List Nat) (i : Nat) : hk_c (a ++ b) (a.length + i) = hk_c b i := by
  simp [hk_c, List.getD_eq_getElem?_getD, List.getElem?_append_right (Nat.le_add_right _ _)]
theorem hk_c_mem {l : List Nat} {p : Nat} (h : p < l.length) : hk_c l p ∈ l := by
  simp [hk_c, List.getD_eq_getElem?_getD, List.getElem?_eq_getElem h]
theorem hk_c_ex {l : List Nat} {x : Nat} (h : x ∈ l) : ∃ p, p < l.length ∧ hk_c l p = x := by
  obtain ⟨p, hp, e⟩ := List.getElem_of_mem h
  exact ⟨p, hp, by simp [hk_c, List.getD_eq_getElem?_getD, List.getElem?_eq_getElem hp, e]⟩
def hk_e (l : List Nat) (p : Nat) : Nat := p + hk_spn 1 (l.drop p)
def hk_at (l : List Nat) (p n : Nat) : Prop := p ≤ l.length ∧ hk_run n (l.drop p) = some 0
theorem hk_at0 {l : List Nat} (h : hk_run 1 l = some 0) : hk_at l 0 1 := ⟨Nat.zero_le _, by rw [List.drop_zero]; exact h⟩
theorem hk_at_lt {l : List Nat} {p n : Nat} (h : hk_at l p (n + 1)) : p < l.length := by
  rcases Nat.lt_or_ge p l.length with z | z
  · exact z
  · have := h.2
    rw [List.drop_of_length_le z, hk_run_nil] at this
    cases this
theorem hk_at_s {l : List Nat} {p n : Nat} (h : hk_at l p (n + 1)) : hk_at l (p + 1) (n + hk_ar (hk_c l p)) := by
  have hp := hk_at_lt h
  have q := h.2
  rw [hk_c_drop hp, hk_run_s] at q
  exact ⟨hp, q⟩
theorem hk_at_ex {l : List Nat} (h : hk_run 1 l = some 0) {p : Nat} (hp : p < l.length) : ∃ n, hk_run 1 (l.take p) = some (n + 1) ∧ hk_at l p (n + 1) := by
  rw [← List.take_append_drop p l] at h
  obtain ⟨j, h1, h2⟩ := hk_run_spl _ _ _ _ h
  cases j with
  | zero => rw [hk_c_drop hp, hk_run_0] at h2; cases h2
  | succ n => exact ⟨n, h1, Nat.le_of_lt hp, h2⟩
theorem hk_at_end {l : List Nat} {p n : Nat} (h : hk_at l p (n + 1)) :
    p < hk_e l p ∧ hk_at l (hk_e l p) n ∧ hk_run 1 ((l.drop p).take (hk_e l p - p)) = some 0 := by
  have hp := hk_at_lt h
  have q := h.2
  rw [Nat.add_comm n 1] at q
  obtain ⟨h1, h2, h3⟩ := hk_spn_split _ 1 n q
  rw [List.drop_drop] at h3
  rw [List.length_drop] at h1
  have e : hk_spn 1 (l.drop p) = hk_spn (0 + hk_ar (hk_c l p)) (l.drop (p + 1)) + 1 := by
    rw [hk_c_drop hp]; rfl
  unfold hk_e
  refine ⟨by omega, ⟨by omega, h3⟩, ?_⟩
  rw [Nat.add_sub_cancel_left]
  exact h2
theorem hk_nest {l : List Nat} {q s : Nat} (h : q ≤ s) (hs : s < hk_e l q) : hk_e l s ≤ hk_e l q := by
  unfold hk_e at hs ⊢
  obtain ⟨m, hm, e⟩ := hk_spn_adv (s - q) (l.drop q) 1 (by omega)
  rw [List.drop_drop, show q + (s - q) = s by omega] at e
  have := hk_spn_mono (l.drop s) 1 m hm
  omega
/-! the number of ABS nodes above p among the nodes s .. s+k-1 -/
def hk_dn (l : List Nat) (p s : Nat) : Nat → Nat
  | 0 => 0
  | k + 1 => hk_dn l p s k + (if hk_c l (s + k) / 65536 = 4 ∧ p < hk_e l (s + k) then 1 else 0)
def hk_dp (l : List Nat) (s p : Nat) : Nat := hk_dn l p s (p - s)
theorem hk_dn_le (l : List Nat) (p s : Nat) : ∀ k, hk_dn l p s k ≤ k
  | 0 => Nat.le_refl _
  | k + 1 => by
    have := hk_dn_le l p s k
    unfold hk_dn
    split <;> omega
theorem hk_dn_add (l : List Nat) (p s a : Nat) : ∀ b, hk_dn l p s (a + b) = hk_dn l p s a + hk_dn l p (s + a) b
  | 0 => rfl
  | b + 1 => by
    rw [show a + (b + 1) = (a + b) + 1 by omega]
    show hk_dn l p s (a + b) + _ = hk_dn l p s a + (hk_dn l p (s + a) b + _)
    rw [hk_dn_add l p s a b, show s + (a + b) = s + a + b by omega, Nat.add_assoc]
theorem hk_dn_congr {l : List Nat} {p p' s : Nat} : ∀ {k : Nat}, (∀ i, i < k → (p < hk_e l (s + i) ↔ p' < hk_e l (s + i))) → hk_dn l p s k = hk_dn l p' s k
  | 0, _ => rfl
  | k + 1, h => by
    have a := hk_dn_congr (l := l) (p := p) (p' := p') (s := s) (k := k) (fun i hi => h i (by omega))
    unfold hk_dn
    rw [a]
    simp only [h k (by omega)]
theorem hk_dn_zero {l : List Nat} {p s : Nat} : ∀ {k : Nat}, (∀ i, i < k → hk_c l (s + i) / 65536 = 4 → hk_e l (s + i) ≤ p) → hk_dn l p s k = 0
  | 0, _ => rfl
  | k + 1, h => by
    have a := hk_dn_zero (l := l) (p := p) (s := s) (k := k) (fun i hi => h i (by omega))
    unfold hk_dn
    rw [a, if_neg]
    intro z
    have := h k (by omega) z.1
    omega
theorem hk_dp_sub {l : List Nat} {s p : Nat} (h : s ≤ p) (hp : p < hk_e l s) : hk_dp l 0 p = hk_dp l 0 s + hk_dp l s p := by
  unfold hk_dp
  rw [show p - 0 = s + (p - s) by omega, hk_dn_add, Nat.zero_add, Nat.sub_zero]
  rw [hk_dn_congr (p := p) (p' := s) (s := 0) (k := s)]
  intro i hi
  rw [Nat.zero_add]
  constructor
  · intro z; omega
  · intro z
    have := hk_nest (l := l) (q := i) (s := s) (by omega) z
    omega
/-! lists built by a loop over positions -/
def hk_fm (f : Nat → List Nat) (a : Nat) : Nat → List Nat
  | 0 => []
  | k + 1 => hk_fm f a k ++ f (a + k)
theorem hk_fm_l (f : Nat → List Nat) : ∀ (k a : Nat), hk_fm f a (k + 1) = f a ++ hk_fm f (a + 1) k
  | 0, a => by simp [hk_fm]
  | k + 1, a => by
    show hk_fm f a (k + 1) ++ f (a + (k + 1)) = f a ++ (hk_fm f (a + 1) k ++ f (a + 1 + k))
    rw [hk_fm_l f k a, List.append_assoc, show a + (k + 1) = a + 1 + k by omega]
theorem hk_fm_len (f : Nat → Nat) (a : Nat) : ∀ k, (hk_fm (fun p => [f p]) a k).length = k
  | 0 => rfl
  | k + 1 => by
    show (hk_fm (fun p => [f p]) a k ++ [f (a + k)]).length = k + 1
    rw [List.length_append, hk_fm_len f a k]; rfl
theorem hk_fm_sub {l : List Nat} : ∀ (k a : Nat), a + k ≤ l.length → hk_fm (fun p => [hk_c l p]) a k = (l.drop a).take k
  | 0, a, _ => by rw [List.take_zero]; rfl
  | k + 1, a, h => by
    rw [hk_fm_l, hk_fm_sub k (a + 1) (by omega), hk_c_drop (l := l) (p := a) (by omega), List.take_succ_cons]; rfl
theorem hk_fm_all (l : List Nat) : hk_fm (fun p => [hk_c l p]) 0 l.length = l := by
  rw [hk_fm_sub l.length 0 (by omega), List.drop_zero, List.take_length]
theorem hk_fm_mem {f : Nat → List Nat} {a x : Nat} : ∀ {k : Nat}, x ∈ hk_fm f a k → ∃ i, i < k ∧ x ∈ f (a + i)
  | 0, h => by cases h
  | k + 1, h => by
    rcases List.mem_append.mp h with z | z
    · obtain ⟨i, hi, e⟩ := hk_fm_mem z
      exact ⟨i, by omega, e⟩
    · exact ⟨k, by omega, z⟩
theorem hk_fm_congr {f g : Nat → List Nat} {a : Nat} : ∀ {k : Nat}, (∀ i, i < k → f (a + i) = g (a + i)) → hk_fm f a k = hk_fm g a k
  | 0, _ => rfl
  | k + 1, h => by
    show hk_fm f a k ++ f (a + k) = hk_fm g a k ++ g (a + k)
    rw [hk_fm_congr (fun i hi => h i (by omega)), h k (by omega)]
theorem hk_fm_run {f : Nat → List Nat} {g : Nat → Nat} {a n : Nat} : ∀ {k m : Nat},
    (∀ i, i < k → ∀ j, hk_run (j + 1) (f (a + i)) = some (j + hk_ar (g (a + i)))) →
    hk_run n (hk_fm (fun p => [g p]) a k) = some m → hk_run n (hk_fm f a k) = some m
  | 0, m, _, h => h
  | k + 1, m, hf, h => by
    obtain ⟨j, h1, h2⟩ := hk_run_spl _ _ _ _ h
    obtain ⟨i, rfl, rfl⟩ := hk_run_one h2
    have q := hk_fm_run (fun i hi => hf i (by omega)) h1
    show hk_run n (hk_fm f a k ++ f (a + k)) = _
    rw [hk_run_app _ _ _ _ q]
    exact hf k (by omega) i
theorem hk_run1 {l : List Nat} (h : hk_run 1 l = some 0) (j : Nat) : hk_run (j + 1) l = some j := by
  have := hk_run_add l 1 0 j h
  rw [Nat.add_comm 1 j, Nat.zero_add] at this
  exact this
theorem hk_run_c (j c : Nat) : hk_run (j + 1) [c] = some (j + hk_ar c) := by rw [hk_run_s, hk_run_nil]
theorem hk_run_len : ∀ {l : List Nat} {n : Nat}, hk_run n l = some 0 → n ≤ l.length
  | [], n, h => by
    rw [hk_run_nil] at h
    have e : n = 0 := Option.some.inj h
    omega
  | c :: l, 0, h => Nat.zero_le _
  | c :: l, n + 1, h => by
    rw [hk_run_s] at h
    have := hk_run_len h
    rw [List.length_cons]; omega
theorem hk_c_sub {l : List Nat} {a n i : Nat} (hi : i < n) : hk_c ((l.drop a).take n) i = hk_c l (a + i) := by
  unfold hk_c
  rw [List.getD_eq_getElem?_getD, List.getD_eq_getElem?_getD, List.getElem?_take, if_pos hi, List.getElem?_drop]
end
section
/-! good terms: complete, small, codes below the bound, EQ nodes at types below n -/
def hk_gc (n c : Nat) : Prop := c < 524288 ∧ (c / 65536 = 2 → c % 256 < n)
def hk_gt (n : Nat) (l : List Nat) : Prop := hk_run 1 l = some 0 ∧ l.length ≤ 32 ∧ ∀ c, c ∈ l → hk_gc n c
theorem hk_gt_mono {n m : Nat} {l : List Nat} (h : hk_gt n l) (hm : n ≤ m) : hk_gt m l :=
  ⟨h.1, h.2.1, fun c hc => ⟨(h.2.2 c hc).1, fun z => Nat.lt_of_lt_of_le ((h.2.2 c hc).2 z) hm⟩⟩
theorem hk_gt_pos {n : Nat} {l : List Nat} (h : hk_gt n l) : 0 < l.length := hk_at_lt (hk_at0 h.1)
theorem hk_gt_c {n : Nat} {l : List Nat} (h : hk_gt n l) {p : Nat} (hp : p < l.length) : hk_gc n (hk_c l p) := h.2.2 _ (hk_c_mem hp)
/-- a term whose first node is a leaf is that node -/
theorem hk_leaf {l : List Nat} (h : hk_run 1 l = some 0) (h0 : hk_ar (hk_c l 0) = 0) : l = [hk_c l 0] := by
  have hp := hk_at_lt (hk_at0 h)
  have q := hk_at_s (hk_at0 h)
  rw [h0] at q
  have e := hk_c_drop hp
  rw [List.drop_zero] at e
  cases hd : l.drop (0 + 1) with
  | nil => rw [hd] at e; exact e
  | cons c t =>
    have := q.2
    rw [hd] at this
    cases this
theorem hk_ar_k {c k : Nat} (h : c / 65536 = k) (h3 : k ≠ 3) (h4 : k ≠ 4) : hk_ar c = 0 := by
  unfold hk_ar; rw [h, if_neg h3, if_neg h4]
theorem hk_ar_3 {c : Nat} (h : c / 65536 = 3) : hk_ar c = 2 := by unfold hk_ar; rw [if_pos h]
theorem hk_ar_4 {c : Nat} (h : c / 65536 = 4) : hk_ar c = 1 := by unfold hk_ar; rw [h]; rfl
/-! abstraction -/
def hk_ab1 (l : List Nat) (s vc p : Nat) : Nat := if hk_c l p = vc then 327680 + hk_dp l s p * 256 + vc % 256 else hk_c l p
def hk_abl (l : List Nat) (s k vc : Nat) : List Nat := (262144 + vc % 256) :: hk_fm (fun p => [hk_ab1 l s vc p]) s k
theorem hk_dp_le (l : List Nat) (s p : Nat) : hk_dp l s p ≤ p := by
  have := hk_dn_le l p s (p - s)
  unfold hk_dp; omega
theorem hk_abl_len (l : List Nat) (s k vc : Nat) : (hk_abl l s k vc).length = k + 1 := by
  unfold hk_abl; rw [List.length_cons, hk_fm_len]
theorem hk_bound {d t : Nat} (hd : d ≤ 32) (ht : t < 256) : (327680 + d * 256 + t) / 65536 = 5 ∧ 327680 + d * 256 + t < 524288 := by omega
theorem hk_abl_run {l : List Nat} {s k vc : Nat} (hs : s + k ≤ 32) (hv : vc / 65536 = 1) (h : hk_run 1 (hk_fm (fun p => [hk_c l p]) s k) = some 0) : hk_run 1 (hk_abl l s k vc) = some 0 := by
  unfold hk_abl
  rw [hk_run_s, hk_ar_4 (by omega)]
  refine hk_fm_run (g := hk_c l) ?_ h
  intro i hi j
  rw [hk_run_c]
  apply congrArg some
  unfold hk_ab1
  split
  · rename_i e
    have := hk_dp_le l s (s + i)
    rw [e, hk_ar_k hv (by decide) (by decide), hk_ar_k (hk_bound (d := hk_dp l s (s + i)) (by omega) (Nat.mod_lt vc (by decide))).1 (by decide) (by decide)]
  · rfl
theorem hk_abl_gc {n : Nat} {l : List Nat} {s k vc : Nat} (hs : s + k ≤ l.length) (h32 : l.length ≤ 32) (h : ∀ c, c ∈ l → hk_gc n c) : ∀ c, c ∈ hk_abl l s k vc → hk_gc n c := by
  intro c hc
  rcases List.mem_cons.mp hc with z | z
  · have := Nat.mod_lt vc (show 0 < 256 by decide)
    exact ⟨by omega, fun y => by omega⟩
  · obtain ⟨i, hi, e⟩ := hk_fm_mem z
    have e := List.mem_singleton.mp e
    unfold hk_ab1 at e
    split at e
    · have h1 := hk_dp_le l s (s + i)
      obtain ⟨h2, h3⟩ := hk_bound (d := hk_dp l s (s + i)) (t := vc % 256) (by omega) (Nat.mod_lt vc (by decide))
      exact ⟨by omega, fun y => by omega⟩
    · rw [e]; exact h _ (hk_c_mem (by omega))
/-! substitution -/
def hk_sb (l : List Nat) (vc : Nat) (u : List Nat) : List Nat := hk_fm (fun p => if hk_c l p = vc then u else [hk_c l p]) 0 l.length
theorem hk_sb_run {l u : List Nat} {vc : Nat} (h : hk_run 1 l = some 0) (hv : vc / 65536 = 1) (hu : hk_run 1 u = some 0) : hk_run 1 (hk_sb l vc u) = some 0 := by
  unfold hk_sb
  refine hk_fm_run (g := hk_c l) ?_ (by rw [hk_fm_all]; exact h)
  intro i hi j
  split
  · rename_i e
    rw [hk_run1 hu j, e, hk_ar_k hv (by decide) (by decide)]; rfl
  · exact hk_run_c _ _
theorem hk_sb_gc {n : Nat} {l u : List Nat} {vc : Nat} (h : ∀ c, c ∈ l → hk_gc n c) (hu : ∀ c, c ∈ u → hk_gc n c) : ∀ c, c ∈ hk_sb l vc u → hk_gc n c := by
  intro c hc
  obtain ⟨i, hi, e⟩ := hk_fm_mem hc
  split at e
  · exact hu c e
  · rw [List.mem_singleton.mp e]; exact h _ (hk_c_mem (by omega))
/-! contraction -/
def hk_lf (l : List Nat) (a k q : Nat) : Nat := if hk_c l q / 65536 = 5 ∧ hk_dp l a q ≤ hk_c l q / 256 % 256 then hk_c l q + k * 256 else hk_c l q
def hk_cb (l : List Nat) (b a r p : Nat) : List Nat :=
  if hk_c l p / 65536 = 5 ∧ hk_c l p / 256 % 256 = hk_dp l b p then hk_fm (fun q => [hk_lf l a (hk_dp l b p) q]) a (r - a)
  else if hk_c l p / 65536 = 5 ∧ hk_dp l b p < hk_c l p / 256 % 256 then [hk_c l p - 256] else [hk_c l p]
/-- the contraction of the redex at r of l -/
def hk_con (l : List Nat) (r : Nat) : List Nat :=
  hk_fm (fun p => [hk_c l p]) 0 r ++ hk_fm (hk_cb l (r + 2) (hk_e l (r + 2)) (hk_e l (hk_e l (r + 2)))) (r + 2) (hk_e l (r + 2) - (r + 2)) ++
    hk_fm (fun p => [hk_c l p]) (hk_e l (hk_e l (r + 2))) (l.length - hk_e l (hk_e l (r + 2)))
def hk_rx (l : List Nat) (p : Nat) : Prop := p + 1 < l.length ∧ hk_c l p / 65536 = 3 ∧ hk_c l (p + 1) / 65536 = 4
/-- where the pieces of a redex lie -/
theorem hk_rx_at {l : List Nat} (h : hk_run 1 l = some 0) {r : Nat} (hr : hk_rx l r) :
    ∃ m, hk_run 1 (l.take r) = some (m + 1) ∧ hk_at l (r + 2) (m + 2) ∧ hk_at l (hk_e l (r + 2)) (m + 1) ∧ hk_at l (hk_e l (hk_e l (r + 2))) m ∧ r + 2 < hk_e l (r + 2) ∧ hk_e l (r + 2) < hk_e l (hk_e l (r + 2)) ∧
      hk_run 1 ((l.drop (r + 2)).take (hk_e l (r + 2) - (r + 2))) = some 0 ∧ hk_run 1 ((l.drop (hk_e l (r + 2))).take (hk_e l (hk_e l (r + 2)) - hk_e l (r + 2))) = some 0 := by
  obtain ⟨m, h1, h2⟩ := hk_at_ex h (show r < l.length by have := hr.1; omega)
  have h3 := hk_at_s h2
  rw [hk_ar_3 hr.2.1] at h3
  have h4 := hk_at_s h3
  rw [hk_ar_4 hr.2.2] at h4
  obtain ⟨a1, a2, a3⟩ := hk_at_end h4
  obtain ⟨b1, b2, b3⟩ := hk_at_end a2
  exact ⟨m, h1, h4, a2, b2, a1, b1, a3, b3⟩
theorem hk_lf_ar {l : List Nat} {a k q : Nat} (hk : k ≤ 32) : hk_ar (hk_lf l a k q) = hk_ar (hk_c l q) := by
  unfold hk_lf
  split
  · rename_i z
    rw [hk_ar_k z.1 (by decide) (by decide)]
    rcases Nat.lt_or_ge (hk_c l q + k * 256) 393216 with y | y
    · exact hk_ar_k (k := 5) (by omega) (by decide) (by decide)
    · exact hk_ar_k (k := 6) (by omega) (by decide) (by decide)
  · rfl
theorem hk_lf_gc {n : Nat} {l : List Nat} {a k q : Nat} (hk : k ≤ 32) (h : hk_gc n (hk_c l q)) : hk_gc n (hk_lf l a k q) := by
  unfold hk_lf
  split
  · rename_i z
    exact ⟨by omega, fun y => by omega⟩
  · exact h
theorem hk_con_run {l : List Nat} (h : hk_run 1 l = some 0) (h32 : l.length ≤ 32) {r : Nat} (hr : hk_rx l r) : hk_run 1 (hk_con l r) = some 0 := by
  obtain ⟨m, t1, t2, t3, t4, o1, o2, s1, s2⟩ := hk_rx_at h hr
  have w := t4.1
  unfold hk_con
  rw [hk_fm_sub r 0 (by have := hr.1; omega), List.drop_zero, List.append_assoc, hk_run_app _ _ _ _ t1]
  have B : hk_run 1 (hk_fm (hk_cb l (r + 2) (hk_e l (r + 2)) (hk_e l (hk_e l (r + 2)))) (r + 2) (hk_e l (r + 2) - (r + 2))) = some 0 := by
    refine hk_fm_run (g := hk_c l) ?_ (by rw [hk_fm_sub _ _ (by omega)]; exact s1)
    intro i hi j
    have hd := hk_dp_le l (r + 2) (r + 2 + i)
    unfold hk_cb
    split
    · rename_i z
      rw [hk_ar_k z.1 (by decide) (by decide)]
      refine hk_run1 ?_ j
      refine hk_fm_run (g := hk_c l) ?_ (by rw [hk_fm_sub _ _ (by omega)]; exact s2)
      intro i' hi' j'
      rw [hk_run_c, hk_lf_ar (by omega)]
    · split
      · rename_i z
        rw [hk_run_c, hk_ar_k z.1 (by decide) (by decide), hk_ar_k (k := 5) (by omega) (by decide) (by decide)]
      · exact hk_run_c _ _
  rw [hk_run_app _ _ _ _ (hk_run1 B m), hk_fm_sub _ _ (by omega), List.take_of_length_le (by rw [List.length_drop]; omega)]
  exact t4.2
theorem hk_con_gc {n : Nat} {l : List Nat} (h : hk_run 1 l = some 0) (h32 : l.length ≤ 32) {r : Nat} (hr : hk_rx l r) (hg : ∀ c, c ∈ l → hk_gc n c) : ∀ c, c ∈ hk_con l r → hk_gc n c := by
  obtain ⟨m, t1, t2, t3, t4, o1, o2, s1, s2⟩ := hk_rx_at h hr
  have w := t4.1
  have w1 := hr.1
  intro c hc
  unfold hk_con at hc
  rcases List.mem_append.mp hc with hc | hc
  · rcases List.mem_append.mp hc with hc | hc
    · obtain ⟨i, hi, e⟩ := hk_fm_mem hc
      rw [List.mem_singleton.mp e]; exact hg _ (hk_c_mem (by omega))
    · obtain ⟨i, hi, e⟩ := hk_fm_mem hc
      have hd := hk_dp_le l (r + 2) (r + 2 + i)
      have g := hg _ (hk_c_mem (l := l) (p := r + 2 + i) (by omega))
      unfold hk_cb at e
      split at e
      · obtain ⟨i', hi', e'⟩ := hk_fm_mem e
        rw [List.mem_singleton.mp e']
        exact hk_lf_gc (by omega) (hg _ (hk_c_mem (by omega)))
      · split at e
        · rename_i z
          rw [List.mem_singleton.mp e]
          exact ⟨by have := g.1; omega, fun y => by omega⟩
        · rw [List.mem_singleton.mp e]; exact g
  · obtain ⟨i, hi, e⟩ := hk_fm_mem hc
    rw [List.mem_singleton.mp e]; exact hg _ (hk_c_mem (by omega))
/-! equations -/
def hk_eq (a : Nat) (s t : List Nat) : List Nat := 196608 :: 196608 :: (131072 + a) :: (s ++ t)
theorem hk_eq_run {a : Nat} {s t : List Nat} (ha : a < 256) (hs : hk_run 1 s = some 0) (ht : hk_run 1 t = some 0) : hk_run 1 (hk_eq a s t) = some 0 := by
  unfold hk_eq
  rw [hk_run_s, hk_ar_3 (by decide), hk_run_s, hk_ar_3 (by decide), hk_run_s, hk_ar_k (k := 2) (by omega) (by decide) (by decide)]
  show hk_run 2 _ = _
  rw [hk_run_app _ _ _ _ (hk_run1 hs 1)]
  exact ht
theorem hk_eq_gc {n a : Nat} {s t : List Nat} (ha : a < n) (hn : n ≤ 48) (hs : ∀ c, c ∈ s → hk_gc n c) (ht : ∀ c, c ∈ t → hk_gc n c) : ∀ c, c ∈ hk_eq a s t → hk_gc n c := by
  intro c hc
  unfold hk_eq at hc
  rcases List.mem_cons.mp hc with e | hc
  · exact ⟨by omega, fun y => by omega⟩
  · rcases List.mem_cons.mp hc with e | hc
    · exact ⟨by omega, fun y => by omega⟩
    · rcases List.mem_cons.mp hc with e | hc
      · exact ⟨by omega, fun y => by omega⟩
      · rcases List.mem_append.mp hc with e | e
        · exact hs c e
        · exact ht c e
theorem hk_eq_len (a : Nat) (s t : List Nat) : (hk_eq a s t).length = 3 + s.length + t.length := by
  unfold hk_eq
  rw [List.length_cons, List.length_cons, List.length_cons, List.length_append]; omega
def hk_ise (l : List Nat) : Prop := hk_c l 0 / 65536 = 3 ∧ hk_c l 1 / 65536 = 3 ∧ hk_c l 2 / 65536 = 2
/-- an equation's sides: from 3 to hk_e l 3, and from there to the end -/
theorem hk_ise_at {l : List Nat} (h : hk_run 1 l = some 0) (he : hk_ise l) :
    hk_at l 3 2 ∧ hk_at l (hk_e l 3) 1 ∧ 3 < hk_e l 3 ∧ hk_e l 3 < l.length ∧ hk_e l (hk_e l 3) = l.length ∧
      hk_run 1 ((l.drop 3).take (hk_e l 3 - 3)) = some 0 ∧ hk_run 1 (l.drop (hk_e l 3)) = some 0 := by
  have h0 := hk_at_s (hk_at0 h)
  rw [hk_ar_3 he.1] at h0
  have h1 := hk_at_s h0
  rw [hk_ar_3 he.2.1] at h1
  have h2 := hk_at_s h1
  rw [hk_ar_k he.2.2 (by decide) (by decide)] at h2
  obtain ⟨a1, a2, a3⟩ := hk_at_end h2
  obtain ⟨b1, b2, b3⟩ := hk_at_end a2
  have e : hk_e l (hk_e l 3) = l.length := by
    rcases Nat.lt_or_ge (hk_e l (hk_e l 3)) l.length with z | z
    · have := b2.2
      rw [hk_c_drop z] at this
      cases this
    · exact Nat.le_antisymm b2.1 z
  exact ⟨h2, a2, a1, hk_at_lt a2, e, a3, a2.2⟩
/-- the nodes above a position in the left side, and in the right side -/
theorem hk_ise_dl {l : List Nat} (he : hk_ise l) {p : Nat} (h3 : 3 ≤ p) : hk_dp l 0 p = hk_dp l 3 p := by
  unfold hk_dp
  rw [show p - 0 = 3 + (p - 3) by omega, hk_dn_add, Nat.zero_add, hk_dn_zero, Nat.zero_add]
  intro i hi h4
  rw [Nat.zero_add] at h4
  obtain ⟨e0, e1, e2⟩ := he
  have : i = 0 ∨ i = 1 ∨ i = 2 := by omega
  rcases this with rfl | rfl | rfl <;> omega
theorem hk_ise_dr {l : List Nat} (he : hk_ise l) {p : Nat} (h3 : 3 < hk_e l 3) (hp : hk_e l 3 ≤ p) : hk_dp l 0 p = hk_dp l (hk_e l 3) p := by
  rw [hk_ise_dl he (by omega)]
  unfold hk_dp
  rw [show p - 3 = (hk_e l 3 - 3) + (p - hk_e l 3) by omega, hk_dn_add, hk_dn_zero, Nat.zero_add, show 3 + (hk_e l 3 - 3) = hk_e l 3 by omega]
  intro i hi _
  have := hk_nest (l := l) (q := 3) (s := 3 + i) (by omega) (by omega)
  omega
theorem hk_fm_le {f : Nat → List Nat} {a m : Nat} : ∀ {k : Nat}, (∀ i, i < k → (f (a + i)).length ≤ m) → (hk_fm f a k).length ≤ k * m
  | 0, _ => Nat.zero_le _
  | k + 1, h => by
    have q := hk_fm_le (f := f) (a := a) (m := m) (k := k) (fun i hi => h i (by omega))
    have w := h k (by omega)
    show (hk_fm f a k ++ f (a + k)).length ≤ _
    rw [List.length_append, Nat.add_mul, Nat.one_mul]
    omega
theorem hk_sb_len {l u : List Nat} {vc : Nat} (hl : l.length ≤ 32) (hu : u.length ≤ 32) : (hk_sb l vc u).length ≤ 2000 := by
  have q := hk_fm_le (f := fun p => if hk_c l p = vc then u else [hk_c l p]) (a := 0) (m := 32) (k := l.length) (fun i hi => by
    split
    · exact hu
    · show 1 ≤ 32; decide)
  unfold hk_sb
  omega
theorem hk_con_len {l : List Nat} (h : hk_run 1 l = some 0) (h32 : l.length ≤ 32) {r : Nat} (hr : hk_rx l r) : (hk_con l r).length ≤ 2000 := by
  obtain ⟨m, t1, t2, t3, t4, o1, o2, s1, s2⟩ := hk_rx_at h hr
  have w := t4.1
  have w1 := hr.1
  have q := hk_fm_le (f := hk_cb l (r + 2) (hk_e l (r + 2)) (hk_e l (hk_e l (r + 2)))) (a := r + 2) (m := 32) (k := hk_e l (r + 2) - (r + 2)) (fun i hi => by
    unfold hk_cb
    split
    · rw [hk_fm_len]; omega
    · split
      · show 1 ≤ 32; decide
      · show 1 ≤ 32; decide)
  unfold hk_con
  rw [List.length_append, List.length_append, hk_fm_len, hk_fm_len]
  omega
end
section
/-! the order of terms -/
def hk_lt : List Nat → List Nat → Bool
  | _, [] => false
  | [], _ :: _ => true
  | a :: s, b :: t => if a < b then true else if b < a then false else hk_lt s t
theorem hk_lt_n (a : List Nat) : hk_lt a [] = false := by cases a <;> rfl
theorem hk_lt_e (b : Nat) (t : List Nat) : hk_lt [] (b :: t) = true := rfl
theorem hk_lt_c (a b : Nat) (s t : List Nat) : hk_lt (a :: s) (b :: t) = if a < b then true else if b < a then false else hk_lt s t := rfl
theorem hk_lt_irr : ∀ a : List Nat, hk_lt a a = false
  | [] => rfl
  | a :: s => by rw [hk_lt_c, if_neg (Nat.lt_irrefl a), if_neg (Nat.lt_irrefl a)]; exact hk_lt_irr s
theorem hk_lt_trans : ∀ {a b c : List Nat}, hk_lt a b = true → hk_lt b c = true → hk_lt a c = true
  | a, b, [], _, h => by rw [hk_lt_n] at h; cases h
  | a, [], _ :: _, h, _ => by rw [hk_lt_n] at h; cases h
  | [], _ :: _, _ :: _, _, _ => rfl
  | a :: s, b :: t, c :: r, h, h' => by
    rw [hk_lt_c] at h h' ⊢
    by_cases x : a < c
    · rw [if_pos x]
    · rw [if_neg x]
      by_cases y : c < a
      · exfalso
        by_cases z : a < b
        · rw [if_neg (by omega : ¬ b < c), if_pos (by omega : c < b)] at h'; cases h'
        · rw [if_neg z] at h
          by_cases w : b < a
          · rw [if_pos w] at h; cases h
          · rw [if_neg (by omega : ¬ b < c), if_pos (by omega : c < b)] at h'; cases h'
      · rw [if_neg y]
        have e : a = c := by omega
        subst e
        by_cases z : a < b
        · rw [if_neg (by omega : ¬ b < a), if_pos z] at h'; cases h'
        · rw [if_neg z] at h
          by_cases w : b < a
          · rw [if_pos w] at h; cases h
          · rw [if_neg w] at h
            rw [if_neg w, if_neg z] at h'
            exact hk_lt_trans h h'
theorem hk_lt_tri : ∀ {a b : List Nat}, hk_lt a b = false → hk_lt b a = false → a = b
  | [], [], _, _ => rfl
  | [], _ :: _, h, _ => by rw [hk_lt_e] at h; cases h
  | _ :: _, [], _, h => by rw [hk_lt_e] at h; cases h
  | a :: s, b :: t, h, h' => by
    rw [hk_lt_c] at h h'
    by_cases x : a < b
    · rw [if_pos x] at h; cases h
    · by_cases y : b < a
      · rw [if_pos y] at h'; cases h'
      · rw [if_neg x, if_neg y] at h
        rw [if_neg y, if_neg x] at h'
        have e : a = b := by omega
        rw [e, hk_lt_tri h h']
/-! insertion, and the union it makes -/
def hk_ins (t : List Nat) : List (List Nat) → List (List Nat)
  | [] => [t]
  | h :: r => if hk_lt h t = true then h :: hk_ins t r else if h = t then h :: r else t :: h :: r
def hk_sd (S : List (List Nat)) : Prop := S.Pairwise (fun a b => hk_lt a b = true)
theorem hk_ins_mem {t x : List Nat} : ∀ {S : List (List Nat)}, x ∈ hk_ins t S ↔ x = t ∨ x ∈ S
  | [] => by simp [hk_ins]
  | h :: r => by
    unfold hk_ins
    split
    · rw [List.mem_cons, hk_ins_mem, List.mem_cons]
      constructor
      · rintro (e | e | e)
        · exact Or.inr (Or.inl e)
        · exact Or.inl e
        · exact Or.inr (Or.inr e)
      · rintro (e | e | e)
        · exact Or.inr (Or.inl e)
        · exact Or.inl e
        · exact Or.inr (Or.inr e)
    · split
      · rename_i e
        constructor
        · exact Or.inr
        · rintro (z | z)
          · rw [z, ← e]; exact List.mem_cons_self
          · exact z
      · exact List.mem_cons
theorem hk_ins_sd {t : List Nat} : ∀ {S : List (List Nat)}, hk_sd S → hk_sd (hk_ins t S)
  | [], _ => List.pairwise_singleton _ _
  | h :: r, hs => by
    obtain ⟨h1, h2⟩ := List.pairwise_cons.mp hs
    unfold hk_ins
    split
    · rename_i z
      refine List.pairwise_cons.mpr ⟨fun x hx => ?_, hk_ins_sd h2⟩
      rcases hk_ins_mem.mp hx with e | e
      · rw [e]; exact z
      · exact h1 x e
    · rename_i z
      split
      · exact hs
      · rename_i y
        have z : hk_lt h t = false := by cases q : hk_lt h t with
          | false => rfl
          | true => exact absurd q z
        have w : hk_lt t h = true := by cases q : hk_lt t h with
          | true => rfl
          | false => exact absurd (hk_lt_tri z q) y
        refine List.pairwise_cons.mpr ⟨fun x hx => ?_, hs⟩
        rcases List.mem_cons.mp hx with e | e
        · rw [e]; exact w
        · exact hk_lt_trans w (h1 x e)
theorem hk_ins_len {t : List Nat} : ∀ {S : List (List Nat)}, S.length ≤ (hk_ins t S).length ∧ (hk_ins t S).length ≤ S.length + 1
  | [] => by simp [hk_ins]
  | h :: r => by
    have := hk_ins_len (t := t) (S := r)
    unfold hk_ins
    split
    · rw [List.length_cons, List.length_cons]; omega
    · split
      · exact ⟨Nat.le_refl _, Nat.le_succ _⟩
      · rw [List.length_cons (a := t)]; exact ⟨Nat.le_succ _, Nat.le_refl _⟩
/-- the union of ts with S, one by one -/
def hk_un (S : List (List Nat)) : List (List Nat) → List (List Nat)
  | [] => S
  | t :: ts => hk_un (hk_ins t S) ts
theorem hk_un_sd : ∀ {ts S : List (List Nat)}, hk_sd S → hk_sd (hk_un S ts)
  | [], _, h => h
  | t :: ts, S, h => hk_un_sd (ts := ts) (S := hk_ins t S) (hk_ins_sd h)
theorem hk_un_mem {x : List Nat} : ∀ {ts S : List (List Nat)}, x ∈ hk_un S ts ↔ x ∈ ts ∨ x ∈ S
  | [], S => by simp [hk_un]
  | t :: ts, S => by
    show x ∈ hk_un (hk_ins t S) ts ↔ _
    rw [hk_un_mem, hk_ins_mem, List.mem_cons]
    constructor
    · rintro (e | e | e)
      · exact Or.inl (Or.inr e)
      · exact Or.inl (Or.inl e)
      · exact Or.inr e
    · rintro ((e | e) | e)
      · exact Or.inr (Or.inl e)
      · exact Or.inl e
      · exact Or.inr (Or.inr e)
theorem hk_un_len : ∀ {ts S : List (List Nat)}, S.length ≤ (hk_un S ts).length ∧ (hk_un S ts).length ≤ S.length + ts.length
  | [], S => ⟨Nat.le_refl _, Nat.le_refl _⟩
  | t :: ts, S => by
    have a := hk_ins_len (t := t) (S := S)
    have b := hk_un_len (ts := ts) (S := hk_ins t S)
    show S.length ≤ (hk_un (hk_ins t S) ts).length ∧ (hk_un (hk_ins t S) ts).length ≤ _
    rw [List.length_cons]; omega
theorem hk_un_app : ∀ {a b S : List (List Nat)}, hk_un S (a ++ b) = hk_un (hk_un S a) b
  | [], _, _ => rfl
  | _ :: a, b, S => hk_un_app (a := a)
/-! selection: the least element beyond the r first -/
def hk_byd (S : List (List Nat)) (r : Nat) (x : List Nat) : Prop := r = 0 ∨ hk_lt (S.getD (r - 1) []) x = true
theorem hk_gd {S : List (List Nat)} {i : Nat} (h : i < S.length) : S.getD i [] = S[i] := by
  simp [List.getD_eq_getElem?_getD, List.getElem?_eq_getElem h]
theorem hk_sd_lt {S : List (List Nat)} (hs : hk_sd S) {i j : Nat} (hij : i < j) (hj : j < S.length) : hk_lt (S.getD i []) (S.getD j []) = true := by
  rw [hk_gd (by omega), hk_gd hj]
  exact List.pairwise_iff_getElem.mp hs i j (by omega) hj hij
theorem hk_byd_ge {S : List (List Nat)} (hs : hk_sd S) {r i : Nat} (hr : r ≤ S.length) (hi : i < S.length) (h : hk_byd S r (S.getD i [])) : r ≤ i := by
  rcases h with h | h
  · omega
  · rcases Nat.lt_or_ge i r with z | z
    · exfalso
      rcases Nat.lt_or_ge i (r - 1) with y | y
      · have := hk_lt_trans h (hk_sd_lt hs y (by omega))
        rw [hk_lt_irr] at this; cases this
      · rw [show r - 1 = i by omega, hk_lt_irr] at h; cases h
    · exact z
theorem hk_byd_r {S : List (List Nat)} (hs : hk_sd S) {r : Nat} (hr : r < S.length) : hk_byd S r (S.getD r []) := by
  rcases Nat.eq_zero_or_pos r with z | z
  · exact Or.inl z
  · exact Or.inr (hk_sd_lt hs (by omega) hr)
theorem hk_mem_ix {S : List (List Nat)} {x : List Nat} (h : x ∈ S) : ∃ i, i < S.length ∧ S.getD i [] = x := by
  obtain ⟨i, hi, e⟩ := List.getElem_of_mem h
  exact ⟨i, hi, by rw [hk_gd hi]; exact e⟩
theorem hk_ix_mem {S : List (List Nat)} {i : Nat} (h : i < S.length) : S.getD i [] ∈ S := by
  rw [hk_gd h]; exact List.getElem_mem h
theorem hk_sel {S : List (List Nat)} (hs : hk_sd S) {r : Nat} (hr : r < S.length) {x : List Nat} (hx : x ∈ S) (hb : hk_byd S r x) (hm : ∀ y, y ∈ S → hk_byd S r y → hk_lt y x = false) : x = S.getD r [] := by
  obtain ⟨i, hi, rfl⟩ := hk_mem_ix hx
  have h1 := hk_byd_ge hs (by omega) hi hb
  rcases Nat.lt_or_ge r i with z | z
  · have := hm _ (hk_ix_mem hr) (hk_byd_r hs hr)
    rw [hk_sd_lt hs z hi] at this; cases this
  · rw [show i = r by omega]
/-! where a term is inserted -/
def hk_pos (t : List Nat) : List (List Nat) → Nat
  | [] => 0
  | h :: r => if hk_lt h t = true then hk_pos t r + 1 else 0
theorem hk_pos_t {t h : List Nat} {r : List (List Nat)} (z : hk_lt h t = true) : hk_pos t (h :: r) = hk_pos t r + 1 := by rw [hk_pos]; exact if_pos z
theorem hk_pos_f {t h : List Nat} {r : List (List Nat)} (z : ¬ hk_lt h t = true) : hk_pos t (h :: r) = 0 := by rw [hk_pos]; exact if_neg z
theorem hk_pos_le {t : List Nat} : ∀ {H : List (List Nat)}, hk_pos t H ≤ H.length
  | [] => Nat.le_refl _
  | h :: r => by
    have := hk_pos_le (t := t) (H := r)
    by_cases z : hk_lt h t = true
    · rw [hk_pos_t z, List.length_cons]; omega
    · rw [hk_pos_f z]; exact Nat.zero_le _
theorem hk_gd_drop {S : List (List Nat)} {i : Nat} (h : i < S.length) : S.drop i = S.getD i [] :: S.drop (i + 1) := by
  rw [List.drop_eq_getElem_cons h, hk_gd h]
theorem hk_ins_same {t : List Nat} : ∀ {H : List (List Nat)}, hk_pos t H < H.length → H.getD (hk_pos t H) [] = t → hk_ins t H = H
  | [], h, _ => absurd h (Nat.not_lt_zero _)
  | h :: r, hp, he => by
    by_cases z : hk_lt h t = true
    · rw [hk_pos_t z] at hp he
      rw [List.getD_cons_succ] at he
      rw [hk_ins, if_pos z, hk_ins_same (by rw [List.length_cons] at hp; omega) he]
    · rw [hk_pos_f z] at he
      have he : h = t := he
      rw [hk_ins, if_neg z, if_pos he]
theorem hk_ins_new {t : List Nat} : ∀ {H : List (List Nat)}, (hk_pos t H < H.length → H.getD (hk_pos t H) [] ≠ t) → hk_ins t H = H.take (hk_pos t H) ++ t :: H.drop (hk_pos t H)
  | [], _ => rfl
  | h :: r, hp => by
    by_cases z : hk_lt h t = true
    · rw [hk_pos_t z] at hp ⊢
      rw [hk_ins, if_pos z, List.take_succ_cons, List.drop_succ_cons, List.cons_append, ← hk_ins_new]
      intro w
      have := hp (by rw [List.length_cons]; omega)
      rw [List.getD_cons_succ] at this
      exact this
    · rw [hk_pos_f z] at hp ⊢
      have : h ≠ t := hp (by rw [List.length_cons]; omega)
      rw [hk_ins, if_neg z, if_neg this]; rfl
/-- the terms at i of a list with t put in at q -/
theorem hk_put_lo {H : List (List Nat)} {t : List Nat} {q i : Nat} (hq : q ≤ H.length) (hi : i < q) : (H.take q ++ t :: H.drop q).getD i [] = H.getD i [] := by
  have a : i < (H.take q).length := by rw [List.length_take]; omega
  simp [List.getD_eq_getElem?_getD, List.getElem?_append_left a, List.getElem?_take, hi]
theorem hk_put_at {H : List (List Nat)} {t : List Nat} {q : Nat} (hq : q ≤ H.length) : (H.take q ++ t :: H.drop q).getD q [] = t := by
  have a : (H.take q).length = q := by rw [List.length_take]; omega
  have b : (H.take q).length ≤ q := by omega
  rw [List.getD_eq_getElem?_getD, List.getElem?_append_right b, a, Nat.sub_self]; rfl
theorem hk_put_hi {H : List (List Nat)} {t : List Nat} {q i : Nat} (hq : q ≤ H.length) (hi : q ≤ i) : (H.take q ++ t :: H.drop q).getD (i + 1) [] = H.getD i [] := by
  have a : (H.take q).length = q := by rw [List.length_take]; omega
  have b : (H.take q).length ≤ i + 1 := by omega
  rw [List.getD_eq_getElem?_getD, List.getElem?_append_right b, a, show i + 1 - q = (i - q) + 1 by omega, List.getElem?_cons_succ, List.getElem?_drop, show q + (i - q) = i by omega, List.getD_eq_getElem?_getD]
theorem hk_put_len {H : List (List Nat)} {t : List Nat} {q : Nat} (hq : q ≤ H.length) : (H.take q ++ t :: H.drop q).length = H.length + 1 := by
  rw [List.length_append, List.length_cons, List.length_take, List.length_drop]; omega
/-- slots from f on hold the terms of H -/
def hk_hs (hd : Nat → List Nat → Prop) (f : Nat) (H : List (List Nat)) : Prop := ∀ i, i < H.length → hd (f + i) (H.getD i [])
theorem hk_gd_l {C : List (List Nat)} {t : List Nat} {i : Nat} (h : i < C.length) : (C ++ [t]).getD i [] = C.getD i [] := by
  simp [List.getD_eq_getElem?_getD, List.getElem?_append_left h]
theorem hk_gd_r (C : List (List Nat)) (t : List Nat) : (C ++ [t]).getD C.length [] = t := by
  rw [List.getD_eq_getElem?_getD, List.getElem?_append_right (Nat.le_refl _), Nat.sub_self]; rfl
theorem hk_hs_app {hd : Nat → List Nat → Prop} {f : Nat} {C : List (List Nat)} {t : List Nat} (h : hk_hs hd f C) (ht : hd (f + C.length) t) : hk_hs hd f (C ++ [t]) := by
  intro i hi
  rw [List.length_append] at hi
  have hi : i < C.length + 1 := hi
  rcases Nat.lt_or_ge i C.length with z | z
  · rw [hk_gd_l z]; exact h i z
  · have e : i = C.length := by omega
    subst e
    rw [hk_gd_r]; exact ht
/-- the least candidate so far among those beyond the r first of S -/
def hk_best (S C : List (List Nat)) (r c : Nat) (x : Int32) : Prop :=
  (x = -1 ∧ ∀ j, j < c → ¬ hk_byd S r (C.getD j [])) ∨
  ∃ b, b < c ∧ x = nI b ∧ hk_byd S r (C.getD b []) ∧ ∀ j, j < c → hk_byd S r (C.getD j []) → hk_lt (C.getD j []) (C.getD b []) = false
theorem hk_best_0 (S C : List (List Nat)) (r : Nat) : hk_best S C r 0 (-1) := Or.inl ⟨rfl, fun j hj => absurd hj (Nat.not_lt_zero j)⟩
theorem hk_best_no {S C : List (List Nat)} {r c : Nat} {x : Int32} (h : hk_best S C r c x) (hn : ¬ hk_byd S r (C.getD c [])) : hk_best S C r (c + 1) x := by
  rcases h with ⟨e, h⟩ | ⟨b, hb, e, h1, h2⟩
  · refine Or.inl ⟨e, fun j hj => ?_⟩
    by_cases w : j = c
    · subst w; exact hn
    · exact h j (by omega)
  · refine Or.inr ⟨b, by omega, e, h1, fun j hj hy => ?_⟩
    by_cases w : j = c
    · subst w; exact absurd hy hn
    · exact h2 j (by omega) hy
theorem hk_best_first {S C : List (List Nat)} {r c : Nat} (h : ∀ j, j < c → ¬ hk_byd S r (C.getD j [])) (hn : hk_byd S r (C.getD c [])) : hk_best S C r (c + 1) (nI c) := by
  refine Or.inr ⟨c, by omega, rfl, hn, fun j hj hy => ?_⟩
  by_cases w : j = c
  · subst w; exact hk_lt_irr _
  · exact absurd hy (h j (by omega))
theorem hk_best_keep {S C : List (List Nat)} {r c b : Nat} (hb : b < c) (h1 : hk_byd S r (C.getD b [])) (h2 : ∀ j, j < c → hk_byd S r (C.getD j []) → hk_lt (C.getD j []) (C.getD b []) = false) (hn : hk_lt (C.getD c []) (C.getD b []) = false) : hk_best S C r (c + 1) (nI b) := by
  refine Or.inr ⟨b, by omega, rfl, h1, fun j hj hy => ?_⟩
  by_cases w : j = c
  · subst w; exact hn
  · exact h2 j (by omega) hy
theorem hk_best_new {S C : List (List Nat)} {r c b : Nat} (h2 : ∀ j, j < c → hk_byd S r (C.getD j []) → hk_lt (C.getD j []) (C.getD b []) = false) (hc : hk_byd S r (C.getD c [])) (hn : hk_lt (C.getD c []) (C.getD b []) = true) : hk_best S C r (c + 1) (nI c) := by
  refine Or.inr ⟨c, by omega, rfl, hc, fun j hj hy => ?_⟩
  by_cases w : j = c
  · subst w; exact hk_lt_irr _
  · cases q : hk_lt (C.getD j []) (C.getD c []) with
    | false => rfl
    | true =>
      have a := hk_lt_trans q hn
      rw [h2 j (by omega) hy] at a; cases a
theorem hk_ft (A : List (List Nat)) : A.filter (fun _ => true) = A := by
  induction A with
  | nil => rfl
  | cons a t ih => rw [List.filter_cons_of_pos rfl, ih]
theorem hk_un_gt {n : Nat} {S ts : List (List Nat)} (hS : ∀ y, y ∈ S → hk_gt n y) (ht : ∀ y, y ∈ ts → hk_gt n y) : ∀ y, y ∈ hk_un S ts → hk_gt n y := by
  intro y hy
  rcases hk_un_mem.mp hy with e | e
  · exact ht y e
  · exact hS y e
theorem hk_nilm {n : Nat} : ∀ y, y ∈ ([] : List (List Nat)) → hk_gt n y := fun y hy => absurd hy List.not_mem_nil
end
section
/-! the table of types: n, the domains D, the results C -/
def hk_up (f : Nat → Nat) (k x : Nat) : Nat → Nat := fun j => if j = k then x else f j
theorem hk_up_s (f : Nat → Nat) (k x : Nat) : hk_up f k x k = x := if_pos rfl
theorem hk_up_n {f : Nat → Nat} {k x j : Nat} (h : j ≠ k) : hk_up f k x j = f j := if_neg h
abbrev hk_T : Type := Nat × (Nat → Nat) × (Nat → Nat)
def hk_fd (D C : Nat → Nat) (d c : Nat) : Nat → Nat → Option Nat
  | 0, _ => none
  | k + 1, i => if D i = d ∧ C i = c then some i else hk_fd D C d c k (i + 1)
def hk_find (T : hk_T) (d c : Nat) : Option Nat := hk_fd T.2.1 T.2.2 d c (T.1 - 3) 3
theorem hk_fd_in {D C : Nat → Nat} {d c j : Nat} : ∀ {k i : Nat}, hk_fd D C d c k i = some j → i ≤ j ∧ j < i + k
  | 0, i, h => by cases h
  | k + 1, i, h => by
    unfold hk_fd at h
    split at h
    · cases h; omega
    · have := hk_fd_in h; omega
theorem hk_find_in {T : hk_T} {d c j : Nat} (h : hk_find T d c = some j) (hn : 3 ≤ T.1) : 3 ≤ j ∧ j < T.1 := by
  have := hk_fd_in h; omega
/-- interning fun(d,c): the handle, or none where the table is full, and the table then -/
def hk_it (T : hk_T) (d c : Nat) : Option Nat × hk_T :=
  match hk_find T d c with
  | some j => (some j, T)
  | none => if 48 ≤ T.1 then (none, T) else (some T.1, (T.1 + 1, hk_up T.2.1 T.1 d, hk_up T.2.2 T.1 c))
def hk_ti (T : hk_T) : Prop := 5 ≤ T.1 ∧ T.1 ≤ 48 ∧ T.2.1 3 = 0 ∧ T.2.2 3 = 0 ∧ T.2.1 4 = 0 ∧ T.2.2 4 = 3 ∧ ∀ i, 3 ≤ i → i < T.1 → T.2.1 i < T.1 ∧ T.2.2 i < T.1
theorem hk_it_f {T : hk_T} {d c j : Nat} (h : hk_find T d c = some j) : hk_it T d c = (some j, T) := by unfold hk_it; rw [h]
theorem hk_it_z {T : hk_T} {d c : Nat} (h : hk_find T d c = none) (hn : 48 ≤ T.1) : hk_it T d c = (none, T) := by unfold hk_it; rw [h]; exact if_pos hn
theorem hk_it_a {T : hk_T} {d c : Nat} (h : hk_find T d c = none) (hn : ¬ 48 ≤ T.1) : hk_it T d c = (some T.1, (T.1 + 1, hk_up T.2.1 T.1 d, hk_up T.2.2 T.1 c)) := by unfold hk_it; rw [h]; exact if_neg hn
theorem hk_it_ok {T : hk_T} {d c : Nat} (h : hk_ti T) (hd : d < T.1) (hc : c < T.1) :
    hk_ti (hk_it T d c).2 ∧ T.1 ≤ (hk_it T d c).2.1 ∧ (hk_it T d c).2.1 ≤ T.1 + 1 ∧ ∀ j, (hk_it T d c).1 = some j → 3 ≤ j ∧ j < (hk_it T d c).2.1 := by
  cases hf : hk_find T d c with
  | some j =>
    rw [hk_it_f hf]
    exact ⟨h, Nat.le_refl _, Nat.le_succ _, fun i e => by cases e; exact hk_find_in (T := T) hf (by have := h.1; omega)⟩
  | none =>
    by_cases z : 48 ≤ T.1
    · rw [hk_it_z hf z]
      exact ⟨h, Nat.le_refl _, Nat.le_succ _, fun i e => by cases e⟩
    · rw [hk_it_a hf z]
      obtain ⟨a1, a2, a3, a4, a5, a6, a7⟩ := h
      refine ⟨⟨by show 5 ≤ T.1 + 1; omega, by show T.1 + 1 ≤ 48; omega, ?_, ?_, ?_, ?_, ?_⟩, by show T.1 ≤ T.1 + 1; omega, by show T.1 + 1 ≤ T.1 + 1; omega, fun i e => by cases e; exact ⟨by omega, by show T.1 < T.1 + 1; omega⟩⟩
      · show hk_up T.2.1 T.1 d 3 = 0
        rw [hk_up_n (by omega)]; exact a3
      · show hk_up T.2.2 T.1 c 3 = 0
        rw [hk_up_n (by omega)]; exact a4
      · show hk_up T.2.1 T.1 d 4 = 0
        rw [hk_up_n (by omega)]; exact a5
      · show hk_up T.2.2 T.1 c 4 = 3
        rw [hk_up_n (by omega)]; exact a6
      · intro i h3 hi
        show hk_up T.2.1 T.1 d i < T.1 + 1 ∧ hk_up T.2.2 T.1 c i < T.1 + 1
        have hi : i < T.1 + 1 := hi
        by_cases e : i = T.1
        · subst e
          rw [hk_up_s, hk_up_s]; omega
        · rw [hk_up_n e, hk_up_n e]
          have := a7 i h3 (by omega)
          omega
/-- what EQTYPES(a) needs, and interning it -/
def hk_nd (T : hk_T) (a : Nat) : Nat :=
  match hk_find T a 0 with
  | none => 2
  | some f => match hk_find T a f with
    | none => 1
    | some _ => 0
def hk_ie (T : hk_T) (a : Nat) : Option Nat × hk_T := hk_it (hk_it T a 0).2 a ((hk_it T a 0).1.getD 0)
theorem hk_fd_t {D C : Nat → Nat} {d c k i : Nat} (h : D i = d ∧ C i = c) : hk_fd D C d c (k + 1) i = some i := by unfold hk_fd; exact if_pos h
theorem hk_fd_f {D C : Nat → Nat} {d c k i : Nat} (h : ¬ (D i = d ∧ C i = c)) : hk_fd D C d c (k + 1) i = hk_fd D C d c k (i + 1) := by
  rw [hk_fd]; exact if_neg h
/-- an answer: a handle, or -1 -/
def hk_o : Option Nat → Int32
  | none => -1
  | some j => nI j
theorem hk_o_ne {j : Nat} (h : j < 48) : ¬ hk_o (some j) = -1 := by
  intro z
  have z : nI j = -1 := z
  have a : ¬ nI j < 0 := nI_pos (by omega)
  rw [z] at a
  exact a (by decide)
theorem hk_o_ge {j : Nat} (h : j < 2147483648) : 0 ≤ hk_o (some j) := nI_pos' h
/-- the arrays hold the table -/
def hk_tb (T : hk_T) (A R : Nat → Int32) : Prop := ∀ i, 3 ≤ i → i < T.1 → A i = nI (T.2.1 i) ∧ R i = nI (T.2.2 i)
theorem hk_tb_a {T : hk_T} {A R : Nat → Int32} {d c : Nat} (h : hk_tb T A R) : hk_tb (T.1 + 1, hk_up T.2.1 T.1 d, hk_up T.2.2 T.1 c) (upd A T.1 (nI d)) (upd R T.1 (nI c)) := by
  intro i h3 hi
  have hi : i < T.1 + 1 := hi
  show upd A T.1 (nI d) i = nI (hk_up T.2.1 T.1 d i) ∧ upd R T.1 (nI c) i = nI (hk_up T.2.2 T.1 c i)
  by_cases e : i = T.1
  · subst e
    rw [pk_us, pk_us, hk_up_s, hk_up_s]; exact ⟨rfl, rfl⟩
  · rw [pk_un e, pk_un e, hk_up_n e, hk_up_n e]; exact h i h3 (by omega)
/-- interning EQTYPES(a), all or none -/
def hk_xe (T : hk_T) (a : Nat) : Option Nat × hk_T :=
  match hk_find T a 0 with
  | none => if T.1 + 2 ≤ 48 then hk_ie T a else (none, T)
  | some _ => hk_ie T a
theorem hk_xe_s {T : hk_T} {a j : Nat} (h : hk_find T a 0 = some j) : hk_xe T a = hk_ie T a := by unfold hk_xe; rw [h]
theorem hk_xe_n {T : hk_T} {a : Nat} (h : hk_find T a 0 = none) (hn : T.1 + 2 ≤ 48) : hk_xe T a = hk_ie T a := by unfold hk_xe; rw [h]; exact if_pos hn
theorem hk_xe_z {T : hk_T} {a : Nat} (h : hk_find T a 0 = none) (hn : ¬ T.1 + 2 ≤ 48) : hk_xe T a = (none, T) := by unfold hk_xe; rw [h]; exact if_neg hn
/-- the other way to say whether they fit -/
theorem hk_xe_fit {T : hk_T} {a : Nat} (ht : hk_ti T) (ha : a < T.1) (h : T.1 + hk_nd T a ≤ 48) : hk_xe T a = hk_ie T a ∧ ∃ j, (hk_ie T a).1 = some j := by
  have h0 : 0 < T.1 := by have := ht.1; omega
  cases hf : hk_find T a 0 with
  | none =>
    have e : hk_nd T a = 2 := by unfold hk_nd; rw [hf]
    rw [e] at h
    refine ⟨hk_xe_n hf h, ?_⟩
    unfold hk_ie
    rw [hk_it_a hf (by omega)]
    dsimp only [Option.getD]
    generalize hT : ((T.1 + 1, hk_up T.2.1 T.1 a, hk_up T.2.2 T.1 0) : hk_T) = T1
    have e1 : T1.1 = T.1 + 1 := by rw [← hT]
    cases hg : hk_find T1 a T.1 with
    | some j => rw [hk_it_f hg]; exact ⟨j, rfl⟩
    | none => rw [hk_it_a hg (by omega)]; exact ⟨_, rfl⟩
  | some f =>
    refine ⟨hk_xe_s hf, ?_⟩
    unfold hk_ie
    rw [hk_it_f hf]
    dsimp only [Option.getD]
    cases hg : hk_find T a f with
    | some j => rw [hk_it_f hg]; exact ⟨j, rfl⟩
    | none =>
      have e : hk_nd T a = 1 := by unfold hk_nd; rw [hf]; dsimp only; rw [hg]
      rw [hk_it_a hg (by omega)]; exact ⟨_, rfl⟩
theorem hk_xe_nofit {T : hk_T} {a : Nat} (ht : hk_ti T) (h : ¬ T.1 + hk_nd T a ≤ 48) : hk_xe T a = (none, T) := by
  have hn := ht.2.1
  cases hf : hk_find T a 0 with
  | none =>
    have e : hk_nd T a = 2 := by unfold hk_nd; rw [hf]
    exact hk_xe_z hf (by omega)
  | some f =>
    rw [hk_xe_s hf]
    unfold hk_ie
    rw [hk_it_f hf]
    dsimp only [Option.getD]
    cases hg : hk_find T a f with
    | some j =>
      have e : hk_nd T a = 0 := by unfold hk_nd; rw [hf]; dsimp only; rw [hg]
      omega
    | none =>
      have e : hk_nd T a = 1 := by unfold hk_nd; rw [hf]; dsimp only; rw [hg]
      exact hk_it_z hg (by omega)
theorem hk_ie_ok {T : hk_T} {a : Nat} (ht : hk_ti T) (ha : a < T.1) : hk_ti (hk_ie T a).2 ∧ T.1 ≤ (hk_ie T a).2.1 ∧ ∀ j, (hk_ie T a).1 = some j → 3 ≤ j ∧ j < (hk_ie T a).2.1 := by
  have h0 : 0 < T.1 := by have := ht.1; omega
  obtain ⟨i1, i2, i3, i4⟩ := hk_it_ok (d := a) (c := 0) ht ha h0
  unfold hk_ie
  have hg : (hk_it T a 0).1.getD 0 < (hk_it T a 0).2.1 := by
    cases hr : (hk_it T a 0).1 with
    | none => show 0 < _; have := i1.1; omega
    | some f => exact (i4 f hr).2
  obtain ⟨j1, j2, j3, j4⟩ := hk_it_ok (d := a) (c := (hk_it T a 0).1.getD 0) i1 (by omega) hg
  exact ⟨j1, by omega, j4⟩
theorem hk_xe_ok {T : hk_T} {a : Nat} (ht : hk_ti T) (ha : a < T.1) : hk_ti (hk_xe T a).2 ∧ T.1 ≤ (hk_xe T a).2.1 := by
  rcases Nat.lt_or_ge 48 (T.1 + hk_nd T a) with z | z
  · rw [hk_xe_nofit ht (by omega)]; exact ⟨ht, Nat.le_refl _⟩
  · rw [(hk_xe_fit ht ha z).1]
    exact ⟨(hk_ie_ok ht ha).1, (hk_ie_ok ht ha).2.1⟩
theorem hk_xe_in {T : hk_T} {a j : Nat} (ht : hk_ti T) (ha : a < T.1) (h : (hk_xe T a).1 = some j) : 3 ≤ j ∧ j < 48 := by
  rcases Nat.lt_or_ge 48 (T.1 + hk_nd T a) with z | z
  · rw [hk_xe_nofit ht (by omega)] at h; cases h
  · rw [(hk_xe_fit ht ha z).1] at h
    have a1 := (hk_ie_ok ht ha).2.2 j h
    have a2 := (hk_ie_ok ht ha).1.2.1
    omega
/-- with a table that doesn't grow where it refuses -/
theorem hk_xe_none {T : hk_T} {a : Nat} (ht : hk_ti T) (ha : a < T.1) (h : (hk_xe T a).1 = none) : (hk_xe T a).2 = T := by
  rcases Nat.lt_or_ge 48 (T.1 + hk_nd T a) with z | z
  · rw [hk_xe_nofit ht (by omega)]
  · obtain ⟨e, j, hj⟩ := hk_xe_fit ht ha z
    rw [e, hj] at h; cases h
/-- interning fun(d,c) and EQTYPES of it -/
def hk_xb (T : hk_T) (t : Nat) : Option Nat × hk_T :=
  match (hk_xe T t).1 with
  | none => (none, (hk_xe T t).2)
  | some _ => (some t, (hk_xe T t).2)
def hk_xa (T : hk_T) (d c : Nat) : Option Nat × hk_T :=
  match hk_find T d c with
  | none => if T.1 + 3 ≤ 48 then hk_xb (hk_it T d c).2 T.1 else (none, T)
  | some t => hk_xb T t
/-! the leftmost redex -/
def hk_lr (l : List Nat) : Nat → Nat → Option Nat
  | 0, _ => none
  | k + 1, p => if p + 1 < l.length ∧ hk_c l p / 65536 = 3 ∧ hk_c l (p + 1) / 65536 = 4 then some p else hk_lr l k (p + 1)
theorem hk_lr_t {l : List Nat} {k p : Nat} (h : hk_rx l p) : hk_lr l (k + 1) p = some p := by rw [hk_lr]; exact if_pos h
theorem hk_lr_f {l : List Nat} {k p : Nat} (h : ¬ hk_rx l p) : hk_lr l (k + 1) p = hk_lr l k (p + 1) := by rw [hk_lr]; exact if_neg h
theorem hk_lr_in {l : List Nat} {j : Nat} : ∀ {k p : Nat}, hk_lr l k p = some j → hk_rx l j
  | 0, p, h => by cases h
  | k + 1, p, h => by
    by_cases z : hk_rx l p
    · rw [hk_lr_t z] at h; cases h; exact z
    · rw [hk_lr_f z] at h; exact hk_lr_in h
/-! handles -/
theorem hk_val (x : Int32) (n : Nat) : (∀ j, j < n → x ≠ nI j) ∨ ∃ j, j < n ∧ x = nI j := by
  by_cases h : ∃ j, j < n ∧ x = nI j
  · exact Or.inr h
  · exact Or.inl (fun j hj e => h ⟨j, hj, e⟩)
theorem hk_ok0 {A B : Prop} {x : Int32} {n : Nat} (h : ∀ j, j < n → x ≠ nI j) (a : A) : (x < 0 → A) ∧ (¬ x < 0 → ((nI n ≤ x → A) ∧ (¬ nI n ≤ x → B))) := by
  refine br_c (fun _ => a) (fun z => ?_)
  obtain ⟨j, hj, rfl⟩ := nI_of z
  refine br_t (nI_le ?_ hj) a
  rcases Nat.lt_or_ge j n with q | q
  · exact absurd rfl (h j q)
  · exact q
theorem hk_ok1 {A B : Prop} {j n : Nat} (hn : n < 2 ^ 31) (hj : j < n) (b : B) : (nI j < 0 → A) ∧ (¬ nI j < 0 → ((nI n ≤ nI j → A) ∧ (¬ nI n ≤ nI j → B))) :=
  br_f (nI_pos (by omega)) (br_f (nI_ge hj hn) b)
/-- where all of EQTYPES(a) fits, its first type does -/
theorem hk_fit1 {T : hk_T} {a : Nat} (h : T.1 + hk_nd T a ≤ 48) : (hk_it T a 0).1 ≠ none := by
  cases hf : hk_find T a 0 with
  | some j => rw [hk_it_f hf]; exact fun z => by cases z
  | none =>
    have e : hk_nd T a = 2 := by unfold hk_nd; rw [hf]
    rw [hk_it_a hf (by omega)]; exact fun z => by cases z
theorem hk_find_bool {T : hk_T} (ht : hk_ti T) : hk_find T 0 0 = some 3 ∧ hk_find T 0 3 = some 4 := by
  obtain ⟨a1, a2, a3, a4, a5, a6, a7⟩ := ht
  unfold hk_find
  obtain ⟨k, hk⟩ : ∃ k, T.1 - 3 = k + 1 + 1 := ⟨T.1 - 5, by omega⟩
  rw [hk]
  refine ⟨hk_fd_t ⟨a3, a4⟩, ?_⟩
  rw [hk_fd_f (fun z => by rw [a4] at z; exact absurd z.2 (by decide))]
  exact hk_fd_t ⟨a5, a6⟩
theorem hk_bool {T : hk_T} (ht : hk_ti T) : hk_nd T 0 = 0 ∧ hk_ie T 0 = (some 4, T) := by
  obtain ⟨h1, h2⟩ := hk_find_bool ht
  constructor
  · unfold hk_nd; rw [h1]; dsimp only; rw [h2]
  · unfold hk_ie
    rw [hk_it_f h1]
    exact hk_it_f h2
/-- how fun(d,c) with its EQTYPES comes out -/
theorem hk_xa_n {T : hk_T} {d c : Nat} (ht : hk_ti T) (hd : d < T.1) (hc : c < T.1) (hf : hk_find T d c = none) (h3 : T.1 + 3 ≤ 48) :
    (hk_it T d c).1 = some T.1 ∧ hk_xa T d c = (some T.1, (hk_ie (hk_it T d c).2 T.1).2) ∧ (hk_it (hk_it T d c).2 T.1 0).1 ≠ none := by
  obtain ⟨i1, i2, i3, i4⟩ := hk_it_ok (d := d) (c := c) ht hd hc
  have e := hk_it_a hf (by omega : ¬ 48 ≤ T.1)
  have e1 : (hk_it T d c).1 = some T.1 := by rw [e]
  have e2 : (hk_it T d c).2.1 = T.1 + 1 := by rw [e]
  have hn : hk_nd (hk_it T d c).2 T.1 ≤ 2 := by
    unfold hk_nd
    split
    · exact Nat.le_refl _
    · split <;> omega
  have fit : (hk_it T d c).2.1 + hk_nd (hk_it T d c).2 T.1 ≤ 48 := by omega
  obtain ⟨f1, j, hj⟩ := hk_xe_fit i1 (by omega : T.1 < (hk_it T d c).2.1) fit
  refine ⟨e1, ?_, hk_fit1 fit⟩
  unfold hk_xa
  rw [hf]
  dsimp only
  rw [if_pos h3]
  unfold hk_xb
  rw [f1, hj]
theorem hk_xa_s {T : hk_T} {d c t : Nat} (ht : hk_ti T) (hf : hk_find T d c = some t) (h3 : T.1 + hk_nd T t ≤ 48) :
    hk_it T d c = (some t, T) ∧ hk_xa T d c = (some t, (hk_ie T t).2) ∧ (hk_it T t 0).1 ≠ none := by
  have w := hk_find_in hf (by have := ht.1; omega)
  obtain ⟨f1, j, hj⟩ := hk_xe_fit ht w.2 h3
  refine ⟨hk_it_f hf, ?_, hk_fit1 h3⟩
  unfold hk_xa
  rw [hf]
  dsimp only
  unfold hk_xb
  rw [f1, hj]
theorem hk_xa_sz {T : hk_T} {d c t : Nat} (ht : hk_ti T) (hf : hk_find T d c = some t) (h3 : ¬ T.1 + hk_nd T t ≤ 48) : hk_xa T d c = (none, T) := by
  unfold hk_xa
  rw [hf]
  dsimp only
  unfold hk_xb
  rw [hk_xe_nofit ht h3]
theorem hk_xa_nz {T : hk_T} {d c : Nat} (hf : hk_find T d c = none) (h3 : ¬ T.1 + 3 ≤ 48) : hk_xa T d c = (none, T) := by
  unfold hk_xa
  rw [hf]
  exact if_neg h3
theorem hk_xa_none {T : hk_T} {d c : Nat} (ht : hk_ti T) (hd : d < T.1) (hc : c < T.1) (h : (hk_xa T d c).1 = none) : (hk_xa T d c).2 = T := by
  cases hf : hk_find T d c with
  | none =>
    by_cases z : T.1 + 3 ≤ 48
    · rw [(hk_xa_n ht hd hc hf z).2.1] at h; cases h
    · rw [hk_xa_nz hf z]
  | some t =>
    by_cases z : T.1 + hk_nd T t ≤ 48
    · rw [(hk_xa_s ht hf z).2.1] at h; cases h
    · rw [hk_xa_sz ht hf z]
theorem hk_xa_in {T : hk_T} {d c t : Nat} (ht : hk_ti T) (hd : d < T.1) (hc : c < T.1) (h : (hk_xa T d c).1 = some t) : t < 48 ∧ t < (hk_xa T d c).2.1 ∧ hk_ti (hk_xa T d c).2 ∧ T.1 ≤ (hk_xa T d c).2.1 := by
  cases hf : hk_find T d c with
  | none =>
    by_cases z : T.1 + 3 ≤ 48
    · obtain ⟨e1, e2, e3⟩ := hk_xa_n ht hd hc hf z
      obtain ⟨i1, i2, i3, i4⟩ := hk_it_ok (d := d) (c := c) ht hd hc
      have w := i4 _ e1
      obtain ⟨j1, j2, j3⟩ := hk_ie_ok (a := T.1) i1 w.2
      rw [e2] at h ⊢
      cases h
      exact ⟨by omega, by show T.1 < (hk_ie (hk_it T d c).2 T.1).2.1; omega, j1, by show T.1 ≤ (hk_ie (hk_it T d c).2 T.1).2.1; omega⟩
    · rw [hk_xa_nz hf z] at h; cases h
  | some q =>
    by_cases z : T.1 + hk_nd T q ≤ 48
    · obtain ⟨e1, e2, e3⟩ := hk_xa_s ht hf z
      have w := hk_find_in hf (by have := ht.1; omega)
      obtain ⟨j1, j2, j3⟩ := hk_ie_ok (a := q) ht w.2
      have hn := ht.2.1
      rw [e2] at h ⊢
      cases h
      exact ⟨by omega, by show t < (hk_ie T t).2.1; omega, j1, j2⟩
    · rw [hk_xa_sz ht hf z] at h; cases h
theorem hk_nd_le (T : hk_T) (a : Nat) : hk_nd T a ≤ 2 := by
  unfold hk_nd
  split
  · exact Nat.le_refl _
  · split <;> omega
theorem hk_it_none {T : hk_T} {d c : Nat} (h : (hk_it T d c).1 = none) : (hk_it T d c).2 = T := by
  cases hf : hk_find T d c with
  | some j => rw [hk_it_f hf]
  | none =>
    by_cases z : 48 ≤ T.1
    · rw [hk_it_z hf z]
    · rw [hk_it_a hf z] at h; cases h
end
section
/-! slots of 32 cells: what a slot holds, and what a writer leaves as it was -/
theorem hk_ad (s i : Nat) : nI s * 32 + nI i = nI (s * 32 + i) := by
  rw [show (32 : Int32) = nI 32 from rfl, pk_mul, nI_add]
theorem hk_ad0 (s : Nat) : nI s * 32 = nI (s * 32) := by rw [show (32 : Int32) = nI 32 from rfl, pk_mul]
theorem hk_ps (t p : Nat) : 32 + nI t * 4 + nI p = nI (32 + t * 4 + p) := by
  rw [show (32 : Int32) = nI 32 from rfl, show (4 : Int32) = nI 4 from rfl, pk_mul, nI_add, nI_add]
def hk_h (K S : Nat → Int32) (s : Nat) (l : List Nat) : Prop := S s = nI l.length ∧ ∀ i, i < l.length → i < 32 → K (s * 32 + i) = nI (hk_c l i)
def hk_hy (K S : Nat → Int32) (s : Nat) (l : List Nat) : Prop := S s = nI (min l.length 33) ∧ ∀ i, i < l.length → i < 32 → K (s * 32 + i) = nI (hk_c l i)
def hk_fr (W : Nat → Prop) (K S K' S' : Nat → Int32) : Prop := ∀ s, ¬ W s → S' s = S s ∧ ∀ i, i < 32 → K' (s * 32 + i) = K (s * 32 + i)
theorem hk_fr_r {W : Nat → Prop} {K S : Nat → Int32} : hk_fr W K S K S := fun _ _ => ⟨rfl, fun _ _ => rfl⟩
theorem hk_fr_t {W : Nat → Prop} {K S K1 S1 K2 S2 : Nat → Int32} (a : hk_fr W K S K1 S1) (b : hk_fr W K1 S1 K2 S2) : hk_fr W K S K2 S2 :=
  fun s h => ⟨(b s h).1.trans (a s h).1, fun i hi => ((b s h).2 i hi).trans ((a s h).2 i hi)⟩
theorem hk_fr_w {W V : Nat → Prop} {K S K' S' : Nat → Int32} (a : hk_fr W K S K' S') (h : ∀ s, W s → V s) : hk_fr V K S K' S' :=
  fun s hs => a s (fun z => hs (h s z))
theorem hk_fr_h {W : Nat → Prop} {K S K' S' : Nat → Int32} {s : Nat} {l : List Nat} (f : hk_fr W K S K' S') (hs : ¬ W s) (h : hk_h K S s l) : hk_h K' S' s l :=
  ⟨(f s hs).1.trans h.1, fun i hi h32 => ((f s hs).2 i h32).trans (h.2 i hi h32)⟩
theorem hk_fr_hy {W : Nat → Prop} {K S K' S' : Nat → Int32} {s : Nat} {l : List Nat} (f : hk_fr W K S K' S') (hs : ¬ W s) (h : hk_hy K S s l) : hk_hy K' S' s l :=
  ⟨(f s hs).1.trans h.1, fun i hi h32 => ((f s hs).2 i h32).trans (h.2 i hi h32)⟩
theorem hk_c_last (l : List Nat) (c : Nat) : hk_c (l ++ [c]) l.length = c := by
  have := hk_c_r l [c] 0
  rw [Nat.add_zero] at this
  rw [this]; rfl
theorem hk_len1 (l : List Nat) (c : Nat) : (l ++ [c]).length = l.length + 1 := by rw [List.length_append]; rfl
theorem hk_cells {K : Nat → Int32} {o c : Nat} {l : List Nat} (h : ∀ i, i < l.length → i < 32 → K (o * 32 + i) = nI (hk_c l i)) :
    ∀ i, i < (l ++ [c]).length → i < 32 → upd K (o * 32 + l.length) (nI c) (o * 32 + i) = nI (hk_c (l ++ [c]) i) := by
  intro i hi h32
  rw [hk_len1] at hi
  rcases Nat.lt_or_ge i l.length with z | z
  · rw [pk_un (by omega), hk_c_l z]; exact h i z h32
  · have e : i = l.length := by omega
    subst e
    rw [pk_us, hk_c_last]
theorem hk_cells' {K : Nat → Int32} {o c : Nat} {l : List Nat} (hl : 32 ≤ l.length) (h : ∀ i, i < l.length → i < 32 → K (o * 32 + i) = nI (hk_c l i)) :
    ∀ i, i < (l ++ [c]).length → i < 32 → K (o * 32 + i) = nI (hk_c (l ++ [c]) i) := by
  intro i hi h32
  rw [hk_c_l (by omega)]; exact h i (by omega) h32
theorem hk_put {K S : Nat → Int32} {o c : Nat} {l : List Nat} (h : hk_h K S o l) : hk_h (upd K (o * 32 + l.length) (nI c)) (upd S o (nI (l.length + 1))) o (l ++ [c]) :=
  ⟨by rw [pk_us, hk_len1], hk_cells h.2⟩
theorem hk_put' {K S : Nat → Int32} {o c : Nat} {l : List Nat} (h : hk_h K S o l) (hl : 32 ≤ l.length) : hk_h K (upd S o (nI (l.length + 1))) o (l ++ [c]) :=
  ⟨by rw [pk_us, hk_len1], hk_cells' hl h.2⟩
theorem hk_puty {K S : Nat → Int32} {o c : Nat} {l : List Nat} (h : hk_hy K S o l) : hk_hy (upd K (o * 32 + l.length) (nI c)) (upd S o (nI (min (l.length + 1) 33))) o (l ++ [c]) :=
  ⟨by rw [pk_us, hk_len1], hk_cells h.2⟩
theorem hk_puty' {K S : Nat → Int32} {o c : Nat} {l : List Nat} (h : hk_hy K S o l) (hl : 32 ≤ l.length) : hk_hy K (upd S o (nI (min (l.length + 1) 33))) o (l ++ [c]) :=
  ⟨by rw [pk_us, hk_len1], hk_cells' hl h.2⟩
theorem hk_fr_p {K S : Nat → Int32} {o j : Nat} {x y : Int32} (hj : j < 32) : hk_fr (fun s => s = o) K S (upd K (o * 32 + j) x) (upd S o y) :=
  fun s hs => ⟨pk_un hs, fun i hi => pk_un (by have : s ≠ o := hs; omega)⟩
theorem hk_fr_s {K S : Nat → Int32} {o : Nat} {y : Int32} : hk_fr (fun s => s = o) K S K (upd S o y) :=
  fun s hs => ⟨pk_un hs, fun i hi => rfl⟩
theorem hk_h0 {K S : Nat → Int32} {o : Nat} : hk_h K (upd S o 0) o [] := ⟨pk_us, fun i hi => absurd hi (Nat.not_lt_zero i)⟩
theorem hk_hy0 {K S : Nat → Int32} {o : Nat} : hk_hy K (upd S o 0) o [] := ⟨pk_us, fun i hi => absurd hi (Nat.not_lt_zero i)⟩
theorem hk_rd {K S : Nat → Int32} {s p : Nat} {l : List Nat} (h : hk_h K S s l) (hs : s < 110) (hp : p < l.length) (h32 : p < 32) : K (nI s * 32 + nI p).toNatClampNeg = nI (hk_c l p) := by
  rw [hk_ad, nI_clamp (by omega)]; exact h.2 p hp h32
theorem hk_rdy {K S : Nat → Int32} {s p : Nat} {l : List Nat} (h : hk_hy K S s l) (hs : s < 110) (hp : p < l.length) (h32 : p < 32) : K (nI s * 32 + nI p).toNatClampNeg = nI (hk_c l p) := by
  rw [hk_ad, nI_clamp (by omega)]; exact h.2 p hp h32
theorem hk_sz {K S : Nat → Int32} {s : Nat} {l : List Nat} (h : hk_h K S s l) (hs : s < 110) : S (nI s).toNatClampNeg = nI l.length := by
  rw [nI_clamp (by omega)]; exact h.1
theorem hk_szy {K S : Nat → Int32} {s : Nat} {l : List Nat} (h : hk_hy K S s l) (hs : s < 110) (hl : l.length ≤ 32) : S (nI s).toNatClampNeg = nI l.length := by
  rw [nI_clamp (by omega), h.1, show min l.length 33 = l.length by omega]
theorem hk_vx {s p : Nat} (hs : s < 98) (hp : p < 32) : vp_in (nI s * 32 + nI p) 3136 := by
  rw [hk_ad]; exact vp_in_nI (by omega) (by omega)
theorem hk_vy {s p : Nat} (hs : s < 110) (hp : p < 32) : vp_in (nI s * 32 + nI p) 3520 := by
  rw [hk_ad]; exact vp_in_nI (by omega) (by omega)
/-! numbers of a node -/
theorem hk_kd {c : Nat} (h : c < 524288) : nI c / 65536 = nI (c / 65536) := pk_div (d := 65536) (by omega) (by omega) (by omega)
theorem hk_tyn {c : Nat} (h : c < 524288) : nI c - nI c / 256 * 256 = nI (c % 256) := pk_rem (d := 256) (by omega) (by omega) (by omega)
theorem hk_dv {c : Nat} (h : c < 524288) : nI c / 256 = nI (c / 256) := pk_div (d := 256) (by omega) (by omega) (by omega)
theorem hk_ixn {c : Nat} (h : c < 524288) : nI c / 256 - nI c / 256 / 256 * 256 = nI (c / 256 % 256) := by
  rw [hk_dv h]; exact pk_rem (d := 256) (by omega) (by omega) (by omega)
theorem hk_szc {K S : Nat → Int32} {s : Nat} {l : List Nat} (h : hk_hy K S s l) (hl : l.length ≤ 32) : S s = nI l.length := by
  rw [h.1, show min l.length 33 = l.length by omega]
end
section
/-! the component: what only reads -/
section
variable {xn xc xm xd xh : Int32} {xA xR xK xS xY xP xE : Nat → Int32}
theorem xa_kind {post : Int32 → Prop} {s p : Nat} {l : List Nat} (h : hk_h xK xS s l) (hs : s < 98) (hp : p < l.length) (h32 : p < 32) (hc : hk_c l p < 524288) (k : post (nI (hk_c l p / 65536))) : wpX_kindAt post (xn, xc, xm, xd, xh, xA, xR, xK, xS, xY, xP, xE) (nI s) (nI p) := by
  refine ⟨hk_vx hs h32, by decide, ?_⟩
  rw [hk_rd h (by omega) hp h32, hk_kd hc]; exact k
theorem xa_index {post : Int32 → Prop} {s p : Nat} {l : List Nat} (h : hk_h xK xS s l) (hs : s < 98) (hp : p < l.length) (h32 : p < 32) (hc : hk_c l p < 524288) (k : post (nI (hk_c l p / 256 % 256))) : wpX_indexAt post (xn, xc, xm, xd, xh, xA, xR, xK, xS, xY, xP, xE) (nI s) (nI p) := by
  refine ⟨hk_vx hs h32, by decide, by decide, ?_⟩
  rw [hk_rd h (by omega) hp h32, hk_ixn hc]; exact k
theorem xa_type {post : Int32 → Prop} {s p : Nat} {l : List Nat} (h : hk_h xK xS s l) (hs : s < 98) (hp : p < l.length) (h32 : p < 32) (hc : hk_c l p < 524288) (k : post (nI (hk_c l p % 256))) : wpX_typeAt post (xn, xc, xm, xd, xh, xA, xR, xK, xS, xY, xP, xE) (nI s) (nI p) := by
  refine ⟨hk_vx hs h32, by decide, ?_⟩
  rw [hk_rd h (by omega) hp h32, hk_tyn hc]; exact k
theorem xa_part {post : Int32 → Prop} (t p : Nat) (k : post (nI (32 + t * 4 + p))) : wpX_partSlot post (nI t) (nI p) := by
  unfold wpX_partSlot
  rw [hk_ps]; exact k
theorem xa_end_l {post : Int32 → Prop} {s : Nat} {l : List Nat} (h : hk_h xK xS s l) (hs : s < 98) (hl : l.length ≤ 32) (hc : ∀ c, c ∈ l → c < 524288) :
    ∀ (d p m b : Nat), p + d = l.length → hk_run (m + b) (l.drop p) = some 0 → post (nI (p + hk_spn m (l.drop p))) → wX_endOf_13 post (nI s) (nI l.length) xn xc xm xd xh xA xR xK xS xY xP xE (d + 1) (nI m) (nI p) := by
  intro d
  induction d with
  | zero =>
    intro p m b hp hr k
    refine br_t (nI_le (by omega) (by omega)) ?_
    rw [List.drop_of_length_le (by omega), hk_spn_nil] at k
    exact k
  | succ d ih =>
    intro p m b hp hr k
    refine br_f (nI_ge (by omega) (by omega)) ?_
    cases m with
    | zero =>
      rw [hk_spn_0] at k
      exact br_t (nI_le (b := 0) (by omega) (by omega)) k
    | succ m =>
      have hpl : p < l.length := by omega
      have hcp := hc _ (hk_c_mem hpl)
      rw [hk_c_drop hpl, show m + 1 + b = (m + b) + 1 by omega, hk_run_s] at hr
      rw [hk_c_drop hpl, hk_spn_s] at k
      refine br_f (nI_ge (b := m + 1) (a := 0) (by omega) (by have := hk_run_len hr; have := List.length_drop (i := p + 1) (l := l); omega)) ?_
      refine xa_kind h hs hpl (by omega) hcp ?_
      refine pk_eq (hk_c l p / 65536) 3 (fun e => ?_) (fun e => ?_)
      · rw [hk_ar_3 e] at hr k
        refine nm_r (nI_1 _) (nm_r (nI_1 _) ?_)
        exact ih (p + 1) (m + 2) b (by omega) (by rw [show m + 2 + b = m + b + 2 by omega]; exact hr) (by rw [show p + 1 + hk_spn (m + 2) (l.drop (p + 1)) = p + (hk_spn (m + 2) (l.drop (p + 1)) + 1) by omega]; exact k)
      · refine pk_eq (hk_c l p / 65536) 4 (fun e4 => ?_) (fun e4 => ?_)
        · rw [hk_ar_4 e4] at hr k
          refine nm_r (nI_1 _) ?_
          exact ih (p + 1) (m + 1) b (by omega) (by rw [show m + 1 + b = m + b + 1 by omega]; exact hr) (by rw [show p + 1 + hk_spn (m + 1) (l.drop (p + 1)) = p + (hk_spn (m + 1) (l.drop (p + 1)) + 1) by omega]; exact k)
        · rw [hk_ar_k rfl e e4, Nat.add_zero] at hr k
          refine nm_r (pk_m1 _) (nm_r (nI_1 _) ?_)
          exact ih (p + 1) m b (by omega) hr (by rw [show p + 1 + hk_spn m (l.drop (p + 1)) = p + (hk_spn m (l.drop (p + 1)) + 1) by omega]; exact k)
theorem xa_end {post : Int32 → Prop} {s p n : Nat} {l : List Nat} (h : hk_h xK xS s l) (hs : s < 98) (hl : l.length ≤ 32) (hc : ∀ c, c ∈ l → c < 524288) (ha : hk_at l p (n + 1)) (k : post (nI (hk_e l p))) : wpX_endOf post (xn, xc, xm, xd, xh, xA, xR, xK, xS, xY, xP, xE) (nI s) (nI p) := by
  refine ⟨vp_in_nI hs (by omega), nm_r (hk_sz h (by omega)) ⟨_, xa_end_l h hs hl hc (l.length - p) p 1 n (by have := ha.1; omega) (by rw [Nat.add_comm]; exact ha.2) k⟩⟩
/-- comparing two complete terms: the sign says their order -/
theorem xa_cmp_l {post : Int32 → Prop} {s o : Nat} {a b : List Nat} (ha : hk_h xK xS s a) (hb : hk_h xK xS o b) (hs : s < 98) (ho : o < 98) (la : a.length ≤ 32) (lb : b.length ≤ 32) (ca : ∀ c, c ∈ a → c < 524288) (cb : ∀ c, c ∈ b → c < 524288) {m : Nat} (hm : m ≤ a.length) (hm' : m ≤ b.length) (hmm : m = a.length ∨ m = b.length) :
    ∀ (d p n : Nat), p + d = m → hk_run n (a.drop p) = some 0 → hk_run n (b.drop p) = some 0 →
      (∀ r : Int32, (r < 0 ↔ hk_lt (a.drop p) (b.drop p) = true) → (r = 0 ↔ a.drop p = b.drop p) → post r) → wX_compareTerms_34 post (nI s) (nI o) (nI m) xn xc xm xd xh xA xR xK xS xY xP xE (d + 1) (nI p) := by
  intro d
  induction d with
  | zero =>
    intro p n hp ra rb k
    refine br_t (nI_le (by omega) (by omega)) ?_
    have e : a.drop p = [] ∧ b.drop p = [] := by
      rcases hmm with z | z
      · have e := List.drop_of_length_le (l := a) (i := p) (by omega)
        rw [e, hk_run_nil] at ra
        have n0 : n = 0 := Option.some.inj ra
        subst n0
        refine ⟨e, ?_⟩
        cases q : b.drop p with
        | nil => rfl
        | cons x t => rw [q, hk_run_0] at rb; cases rb
      · have e := List.drop_of_length_le (l := b) (i := p) (by omega)
        rw [e, hk_run_nil] at rb
        have n0 : n = 0 := Option.some.inj rb
        subst n0
        refine ⟨?_, e⟩
        cases q : a.drop p with
        | nil => rfl
        | cons x t => rw [q, hk_run_0] at ra; cases ra
    refine k 0 ?_ ?_
    · rw [e.1, e.2]
      exact ⟨fun z => absurd z (by decide), fun z => absurd z (by decide)⟩
    · rw [e.1, e.2]
      exact ⟨fun _ => rfl, fun _ => rfl⟩
  | succ d ih =>
    intro p n hp ra rb k
    have pa : p < a.length := by omega
    have pb : p < b.length := by omega
    have xa := ca _ (hk_c_mem pa)
    have xb := cb _ (hk_c_mem pb)
    refine br_f (nI_ge (by omega) (by omega)) ⟨hk_vx hs (by omega), hk_vx ho (by omega), ?_⟩
    rw [hk_rd ha (by omega) pa (by omega), hk_rd hb (by omega) pb (by omega)]
    rw [hk_c_drop pa] at ra k
    rw [hk_c_drop pb] at rb k
    refine nm_e ?_
    generalize hk_c a p = x at ra k xa
    generalize hk_c b p = y at rb k xb
    cases n with
    | zero => rw [hk_run_0] at ra; cases ra
    | succ n =>
      rw [hk_run_s] at ra rb
      rcases Nat.lt_trichotomy x y with z | z | z
      · have e := pk_sneg (a := x) (b := y) (by omega) z
        refine br_f (fun q => ?_) (k _ ?_ ?_)
        · rw [q] at e; exact absurd e (by decide)
        · rw [hk_lt_c, if_pos z]; exact ⟨fun _ => rfl, fun _ => e⟩
        · refine ⟨fun q => ?_, fun q => ?_⟩
          · rw [q] at e; exact absurd e (by decide)
          · have := (List.cons.inj q).1; omega
      · subst z
        refine br_t (Int32.sub_self _) (nm_r (nI_1 _) ?_)
        refine ih (p + 1) _ (by omega) ra rb (fun r h1 h2 => k r ?_ ?_)
        · rw [hk_lt_c, if_neg (Nat.lt_irrefl x), if_neg (Nat.lt_irrefl x)]; exact h1
        · rw [h2]
          exact ⟨fun q => by rw [q], fun q => (List.cons.inj q).2⟩
      · have e : nI x - nI y = nI (x - y) := pk_sub (by omega)
        have e0 : ¬ nI (x - y) = 0 := nI_ne0 (by omega) (by omega)
        rw [e]
        refine br_f e0 (k _ ?_ ?_)
        · rw [hk_lt_c, if_neg (by omega), if_pos z]
          exact ⟨fun q => absurd q (nI_pos (by omega)), fun q => by cases q⟩
        · exact ⟨fun q => absurd q e0, fun q => by have := (List.cons.inj q).1; omega⟩
theorem xa_cmp {post : Int32 → Prop} {n s o : Nat} {a b : List Nat} (ha : hk_h xK xS s a) (hb : hk_h xK xS o b) (hs : s < 98) (ho : o < 98) (ga : hk_gt n a) (gb : hk_gt n b)
    (k : ∀ r : Int32, (r < 0 ↔ hk_lt a b = true) → (r = 0 ↔ a = b) → post r) : wpX_compareTerms post (xn, xc, xm, xd, xh, xA, xR, xK, xS, xY, xP, xE) (nI s) (nI o) := by
  have la := ga.2.1
  have lb := gb.2.1
  have V : vp_in (nI s) 98 := vp_in_nI hs (by omega)
  have V' : vp_in (nI o) 98 := vp_in_nI ho (by omega)
  have ea := hk_sz ha (by omega)
  have eb := hk_sz hb (by omega)
  refine ⟨V, V', ?_⟩
  rw [ea, eb]
  refine pk_le b.length a.length (fun z => ⟨V', nm_e ⟨b.length + 1, ?_⟩⟩) (fun z => ⟨V, nm_e ⟨a.length + 1, ?_⟩⟩)
  · exact xa_cmp_l ha hb hs ho la lb (fun c hc => (ga.2.2 c hc).1) (fun c hc => (gb.2.2 c hc).1) (m := b.length) (by omega) (by omega) (Or.inr rfl) b.length 0 1 (by omega) ga.1 gb.1 k
  · exact xa_cmp_l ha hb hs ho la lb (fun c hc => (ga.2.2 c hc).1) (fun c hc => (gb.2.2 c hc).1) (m := a.length) (by omega) (by omega) (Or.inl rfl) a.length 0 1 (by omega) ga.1 gb.1 k
theorem xa_same_l {post : Int32 → Prop} {s o f g m : Nat} {a b : List Nat} (ha : hk_h xK xS s a) (hb : hk_h xK xS o b) (hs : s < 98) (ho : o < 98) (la : a.length ≤ 32) (lb : b.length ≤ 32) (ca : ∀ c, c ∈ a → c < 524288) (cb : ∀ c, c ∈ b → c < 524288) (fa : f + m ≤ a.length) (gb : g + m ≤ b.length) :
    ∀ (d i : Nat), i + d = m → ((a.drop (f + i)).take d = (b.drop (g + i)).take d → post 1) → (¬ (a.drop (f + i)).take d = (b.drop (g + i)).take d → post 0) → wX_sameRun_3 post (nI s) (nI f) (nI o) (nI g) (nI m) xn xc xm xd xh xA xR xK xS xY xP xE (d + 1) (nI i) := by
  intro d
  induction d with
  | zero =>
    intro i hi k1 k0
    exact br_t (nI_le (by omega) (by omega)) (k1 (by rw [List.take_zero, List.take_zero]))
  | succ d ih =>
    intro i hi k1 k0
    have pa : f + i < a.length := by omega
    have pb : g + i < b.length := by omega
    have xa := ca _ (hk_c_mem pa)
    have xb := cb _ (hk_c_mem pb)
    have ea : nI s * 32 + nI f + nI i = nI s * 32 + nI (f + i) := by rw [Int32.add_assoc, nI_add]
    have eb : nI o * 32 + nI g + nI i = nI o * 32 + nI (g + i) := by rw [Int32.add_assoc, nI_add]
    rw [hk_c_drop pa, hk_c_drop pb, List.take_succ_cons, List.take_succ_cons] at k1 k0
    refine br_f (nI_ge (by omega) (by omega)) ?_
    rw [ea, eb]
    refine ⟨hk_vx hs (by omega), hk_vx ho (by omega), ?_⟩
    rw [hk_rd ha (by omega) pa (by omega), hk_rd hb (by omega) pb (by omega)]
    refine pk_eq (hk_c a (f + i)) (hk_c b (g + i)) (fun e => nm_r (nI_1 _) ?_) (fun e => k0 (fun z => e (List.cons.inj z).1))
    refine ih (i + 1) (by omega) (fun z => k1 ?_) (fun z => k0 (fun q => z ?_))
    · rw [e]; exact congrArg _ z
    · exact (List.cons.inj q).2
theorem xa_same {post : Int32 → Prop} {s o f g m n : Nat} {a b : List Nat} (ha : hk_h xK xS s a) (hb : hk_h xK xS o b) (hs : s < 98) (ho : o < 98) (ga : hk_gt n a) (gb : hk_gt n b) (fa : f + m ≤ a.length) (hgb : g + m ≤ b.length)
    (k1 : (a.drop f).take m = (b.drop g).take m → post 1) (k0 : ¬ (a.drop f).take m = (b.drop g).take m → post 0) : wpX_sameRun post (xn, xc, xm, xd, xh, xA, xR, xK, xS, xY, xP, xE) (nI s) (nI f) (nI o) (nI g) (nI m) :=
  ⟨_, xa_same_l ha hb hs ho ga.2.1 gb.2.1 (fun c hc => (ga.2.2 c hc).1) (fun c hc => (gb.2.2 c hc).1) fa hgb m 0 (by omega) k1 k0⟩
theorem xa_occ_l {post : Int32 → Prop} {v s vc : Nat} {l : List Nat} (hv : xK (nI v * 32).toNatClampNeg = nI vc) (hvc : vc < 524288) (h : hk_h xK xS s l) (hs : s < 98) (hv98 : v < 98) (hl : l.length ≤ 32) (hc : ∀ c, c ∈ l → c < 524288) :
    ∀ (d p : Nat), p + d = l.length → (vc ∈ l.drop p → post 1) → (¬ vc ∈ l.drop p → post 0) → wX_occursIn_10 post (nI v) (nI s) (nI l.length) xn xc xm xd xh xA xR xK xS xY xP xE (d + 1) (nI p) := by
  intro d
  induction d with
  | zero =>
    intro p hp k1 k0
    refine br_t (nI_le (by omega) (by omega)) (k0 ?_)
    rw [List.drop_of_length_le (by omega)]
    exact List.not_mem_nil
  | succ d ih =>
    intro p hp k1 k0
    have pp : p < l.length := by omega
    have xc := hc _ (hk_c_mem pp)
    rw [hk_c_drop pp] at k1 k0
    refine br_f (nI_ge (by omega) (by omega)) ⟨hk_vx hs (by omega), by rw [hk_ad0]; exact vp_in_nI (by omega) (by omega), ?_⟩
    rw [hv, hk_rd h (by omega) pp (by omega)]
    refine pk_eq (hk_c l p) vc (fun e => k1 (by rw [e]; exact List.mem_cons_self)) (fun e => nm_r (nI_1 _) ?_)
    refine ih (p + 1) (by omega) (fun z => k1 (List.mem_cons_of_mem _ z)) (fun z => k0 (fun q => ?_))
    rcases List.mem_cons.mp q with q | q
    · exact e q.symm
    · exact z q
theorem xa_occ {post : Int32 → Prop} {v s vc n : Nat} {l : List Nat} (hv : xK (nI v * 32).toNatClampNeg = nI vc) (hvc : vc < 524288) (h : hk_h xK xS s l) (hs : s < 98) (hv98 : v < 98) (g : hk_gt n l)
    (k1 : vc ∈ l → post 1) (k0 : ¬ vc ∈ l → post 0) : wpX_occursIn post (xn, xc, xm, xd, xh, xA, xR, xK, xS, xY, xP, xE) (nI v) (nI s) :=
  ⟨vp_in_nI hs (by omega), nm_r (hk_sz h (by omega)) ⟨_, xa_occ_l hv hvc h hs hv98 g.2.1 (fun c hc => (g.2.2 c hc).1) l.length 0 (by omega) k1 k0⟩⟩
theorem xa_redex {post : Int32 → Prop} {s p n : Nat} {l : List Nat} (h : hk_h xK xS s l) (hs : s < 98) (g : hk_gt n l) (hp : p < l.length) (k1 : hk_rx l p → post 1) (k0 : ¬ hk_rx l p → post 0) : wpX_isRedex post (xn, xc, xm, xd, xh, xA, xR, xK, xS, xY, xP, xE) (nI s) (nI p) := by
  have hl := g.2.1
  refine ⟨vp_in_nI hs (by omega), ?_⟩
  rw [hk_sz h (by omega), nI_1]
  refine pk_le l.length (p + 1) (fun z => k0 (fun q => by have := q.1; omega)) (fun z => ?_)
  refine xa_kind h hs hp (by omega) (hk_gt_c g hp).1 ?_
  have hc := (hk_gt_c g hp).1
  refine pk_eq (hk_c l p / 65536) 3 (fun e => ?_) (fun e => k0 (fun q => e q.2.1))
  have hc' := (hk_gt_c g z).1
  refine xa_kind h hs z (by omega) hc' ?_
  exact pk_eq (hk_c l (p + 1) / 65536) 4 (fun e' => k1 ⟨z, e, e'⟩) (fun e' => k0 (fun q => e' q.2.2))
theorem xa_lr_l {post : Int32 → Prop} {s n : Nat} {l : List Nat} (h : hk_h xK xS s l) (hs : s < 98) (g : hk_gt n l) :
    ∀ (d p : Nat), p + d = l.length → post (hk_o (hk_lr l d p)) → wX_leftmostRedex_9 post (nI s) (nI l.length) xn xc xm xd xh xA xR xK xS xY xP xE (d + 1) (nI p) := by
  have hl := g.2.1
  intro d
  induction d with
  | zero =>
    intro p hp k
    exact br_t (nI_le (by omega) (by omega)) k
  | succ d ih =>
    intro p hp k
    refine br_f (nI_ge (by omega) (by omega)) ?_
    refine xa_redex h hs g (by omega) (fun z => ?_) (fun z => ?_)
    · rw [hk_lr_t z] at k
      exact br_f (by decide) k
    · rw [hk_lr_f z] at k
      exact br_t rfl (nm_r (nI_1 _) (ih (p + 1) (by omega) k))
theorem xa_lr {post : Int32 → Prop} {s n : Nat} {l : List Nat} (h : hk_h xK xS s l) (hs : s < 98) (g : hk_gt n l) (k : post (hk_o (hk_lr l l.length 0))) : wpX_leftmostRedex post (xn, xc, xm, xd, xh, xA, xR, xK, xS, xY, xP, xE) (nI s) :=
  ⟨vp_in_nI hs (by omega), nm_r (hk_sz h (by omega)) ⟨_, xa_lr_l h hs g l.length 0 (by omega) k⟩⟩
theorem xa_con {post : Int32 → Prop} {s n : Nat} {l : List Nat} {x : Int32} (h : hk_h xK xS s l) (hs : s < 98) (g : hk_gt n l) (k0 : (∀ j, j < l.length → x ≠ nI j) → post (-1)) (k1 : ∀ j, j < l.length → x = nI j → post (nI (hk_c l j))) : wpX_codeOrNone post (xn, xc, xm, xd, xh, xA, xR, xK, xS, xY, xP, xE) (nI s) x := by
  have hl := g.2.1
  rcases hk_val x l.length with z | ⟨j, hj, rfl⟩
  · refine br_c (fun _ => k0 z) (fun q => ⟨vp_in_nI hs (by omega), ?_⟩)
    rw [hk_sz h (by omega)]
    obtain ⟨j, hj, rfl⟩ := nI_of q
    refine br_t (nI_le ?_ hj) (k0 z)
    rcases Nat.lt_or_ge j l.length with w | w
    · exact absurd rfl (z j w)
    · exact w
  · refine br_f (nI_pos (by omega)) ⟨vp_in_nI hs (by omega), ?_⟩
    rw [hk_sz h (by omega)]
    refine br_f (nI_ge hj (by omega)) ⟨hk_vx hs (by omega), ?_⟩
    rw [hk_rd h (by omega) hj (by omega)]
    exact k1 j hj rfl
theorem xa_takes {post : Int32 → Prop} {T : hk_T} {f a : Nat} (hb : hk_tb T xA xR) (ht : hk_ti T) (hf : f < T.1) (ha : a < 48) (k1 : 3 ≤ f → T.2.1 f = a → post 1) (k0 : ¬ (3 ≤ f ∧ T.2.1 f = a) → post 0) : wpX_takes post (xn, xc, xm, xd, xh, xA, xR, xK, xS, xY, xP, xE) (nI f) (nI a) := by
  have hn := ht.2.1
  refine pk_lt f 3 (fun z => k0 (fun q => by omega)) (fun z => ⟨vp_in_nI (by omega) (by omega), ?_⟩)
  have w := ht.2.2.2.2.2.2 f z hf
  rw [nI_clamp (by omega), (hb f z hf).1]
  exact pk_eq (T.2.1 f) a (fun e => k1 z e) (fun e => k0 (fun q => e q.2))
/-! the table of types -/
theorem xa_find_l {post : Int32 → Prop} {T : hk_T} {d c : Nat} (hb : hk_tb T xA xR) (ht : hk_ti T) (hd : d < 48) (hc : c < 48) :
    ∀ (k i : Nat), 3 ≤ i → i + k = T.1 → post (hk_o (hk_fd T.2.1 T.2.2 d c k i)) → wX_findFun_8 post (nI d) (nI c) (nI T.1) xn xc xm xd xh xA xR xK xS xY xP xE (k + 1) (nI i) := by
  have hn := ht.2.1
  intro k
  induction k with
  | zero =>
    intro i h3 hi q
    exact br_t (nI_le (by omega) (by omega)) q
  | succ k ih =>
    intro i h3 hi q
    have w := ht.2.2.2.2.2.2 i h3 (by omega)
    have V : vp_in (nI i) 48 := vp_in_nI (by omega) (by omega)
    refine br_f (nI_ge (by omega) (by omega)) ⟨V, ?_⟩
    rw [nI_clamp (n := i) (by omega), (hb i h3 (by omega)).1, (hb i h3 (by omega)).2]
    refine pk_eq (T.2.1 i) d (fun e => ⟨V, pk_eq (T.2.2 i) c (fun e' => ?_) (fun e' => nm_r (nI_1 _) ?_)⟩) (fun e => nm_r (nI_1 _) ?_)
    · rw [hk_fd_t ⟨e, e'⟩] at q; exact q
    · rw [hk_fd_f (fun z => e' z.2)] at q
      exact ih (i + 1) (by omega) (by omega) q
    · rw [hk_fd_f (fun z => e z.1)] at q
      exact ih (i + 1) (by omega) (by omega) q
theorem xa_find {post : Int32 → Prop} {T : hk_T} {d c : Nat} (hb : hk_tb T xA xR) (ht : hk_ti T) (hd : d < 48) (hc : c < 48) (k : post (hk_o (hk_find T d c))) : wpX_findFun post (nI T.1, xc, xm, xd, xh, xA, xR, xK, xS, xY, xP, xE) (nI d) (nI c) :=
  ⟨_, xa_find_l hb ht hd hc (T.1 - 3) 3 (by omega) (by have := ht.1; omega) k⟩
theorem xa_intern {post : Int32 → SX → Prop} {T : hk_T} {d c : Nat} (hb : hk_tb T xA xR) (ht : hk_ti T) (hd : d < T.1) (hc : c < T.1)
    (k : ∀ A' R' : Nat → Int32, hk_tb (hk_it T d c).2 A' R' → post (hk_o (hk_it T d c).1) (nI (hk_it T d c).2.1, xc, xm, xd, xh, A', R', xK, xS, xY, xP, xE)) : wpX_internFun post (nI T.1, xc, xm, xd, xh, xA, xR, xK, xS, xY, xP, xE) (nI d) (nI c) := by
  have hn := ht.2.1
  refine xa_find hb ht (by omega) (by omega) ?_
  cases hf : hk_find T d c with
  | some j =>
    rw [hk_it_f hf] at k
    exact br_f (hk_o_ne (by have := hk_find_in hf (by have := ht.1; omega); omega)) (k xA xR hb)
  | none =>
    refine br_t rfl ?_
    refine pk_lt T.1 48 (fun z => ?_) (fun z => ?_)
    · rw [hk_it_a hf (by omega)] at k
      have V : vp_in (nI T.1) 48 := vp_in_nI z (by omega)
      refine ⟨V, nm_r (e' := upd xA T.1 (nI d)) (by rw [nI_clamp (by omega)]) ⟨V, nm_r (e' := upd xR T.1 (nI c)) (by rw [nI_clamp (by omega)]) (nm_r (nI_1 _) ?_)⟩⟩
      rw [nI_pred]
      exact k (upd xA T.1 (nI d)) (upd xR T.1 (nI c)) (hk_tb_a hb)
    · rw [hk_it_z hf z] at k
      exact k xA xR hb
theorem xa_internEq {post : Int32 → SX → Prop} {T : hk_T} {a : Nat} (hb : hk_tb T xA xR) (ht : hk_ti T) (ha : a < T.1)
    (k : ∀ A' R' : Nat → Int32, hk_tb (hk_xe T a).2 A' R' → post (hk_o (hk_xe T a).1) (nI (hk_xe T a).2.1, xc, xm, xd, xh, A', R', xK, xS, xY, xP, xE)) : wpX_internEqTypes post (nI T.1, xc, xm, xd, xh, xA, xR, xK, xS, xY, xP, xE) (nI a) := by
  have hn := ht.2.1
  have h0 : 0 < T.1 := by have := ht.1; omega
  have go : hk_xe T a = hk_ie T a → (hk_it T a 0).1 ≠ none → wX_internEqTypes_25 post (nI a) (nI T.1) xc xm xd xh xA xR xK xS xY xP xE := by
    intro e hne
    obtain ⟨i1, i2, i3, i4⟩ := hk_it_ok (d := a) (c := 0) ht ha h0
    refine xa_intern (c := 0) hb ht ha h0 (fun A' R' hb' => ?_)
    cases hr : (hk_it T a 0).1 with
    | none => exact absurd hr hne
    | some f =>
      have hf := i4 f hr
      refine xa_intern (c := f) hb' i1 (by omega) hf.2 (fun A2 R2 hb2 => ?_)
      have e2 : hk_xe T a = hk_it (hk_it T a 0).2 a f := by rw [e, hk_ie, hr]; rfl
      rw [e2] at k
      exact k A2 R2 hb2
  refine xa_find (c := 0) hb ht (by omega) (by omega) ?_
  cases hf : hk_find T a 0 with
  | some j =>
    refine br_f (hk_o_ne (by have := hk_find_in hf (by have := ht.1; omega); omega)) (go (hk_xe_s hf) ?_)
    rw [hk_it_f hf]; exact fun z => by cases z
  | none =>
    refine br_t rfl ?_
    have e2 : nI T.1 + 2 = nI (T.1 + 2) := nI_add T.1 2
    rw [e2]
    refine pk_le (T.1 + 2) 48 (fun z => go (hk_xe_n hf z) ?_) (fun z => ?_)
    · rw [hk_it_a hf (by omega)]; exact fun z => by cases z
    · rw [hk_xe_z hf (by omega)] at k
      exact k xA xR hb
theorem xa_internAbs {post : Int32 → SX → Prop} {T : hk_T} {d c : Nat} (hb : hk_tb T xA xR) (ht : hk_ti T) (hd : d < T.1) (hc : c < T.1)
    (k : ∀ A' R' : Nat → Int32, hk_tb (hk_xa T d c).2 A' R' → post (hk_o (hk_xa T d c).1) (nI (hk_xa T d c).2.1, xc, xm, xd, xh, A', R', xK, xS, xY, xP, xE)) : wpX_internAbsTypes post (nI T.1, xc, xm, xd, xh, xA, xR, xK, xS, xY, xP, xE) (nI d) (nI c) := by
  have hn := ht.2.1
  obtain ⟨i1, i2, i3, i4⟩ := hk_it_ok (d := d) (c := c) ht hd hc
  have go : ∀ t, (hk_it T d c).1 = some t → hk_xa T d c = hk_xb (hk_it T d c).2 t → wX_internAbsTypes_25 post (nI d) (nI c) (nI T.1) xc xm xd xh xA xR xK xS xY xP xE := by
    intro t hr e
    refine xa_intern hb ht hd hc (fun A' R' hb' => ?_)
    rw [hr]
    have hf := i4 t hr
    refine xa_internEq (a := t) hb' i1 hf.2 (fun A2 R2 hb2 => ?_)
    rw [e] at k
    cases hq : (hk_xe (hk_it T d c).2 t).1 with
    | none =>
      have w : hk_xb (hk_it T d c).2 t = (none, (hk_xe (hk_it T d c).2 t).2) := by unfold hk_xb; rw [hq]
      rw [w] at k
      exact br_t rfl (k A2 R2 hb2)
    | some j =>
      have w : hk_xb (hk_it T d c).2 t = (some t, (hk_xe (hk_it T d c).2 t).2) := by unfold hk_xb; rw [hq]
      rw [w] at k
      refine br_f (hk_o_ne ?_) (k A2 R2 hb2)
      have := hk_xe_in i1 hf.2 hq
      omega
  refine xa_find hb ht (by omega) (by omega) ?_
  cases hf : hk_find T d c with
  | some j =>
    refine br_f (hk_o_ne (by have := hk_find_in hf (by have := ht.1; omega); omega)) (go j (by rw [hk_it_f hf]) ?_)
    unfold hk_xa
    rw [hf, hk_it_f hf]
  | none =>
    refine br_t rfl ?_
    have e2 : nI T.1 + 3 = nI (T.1 + 3) := nI_add T.1 3
    rw [e2]
    refine pk_le (T.1 + 3) 48 (fun z => go T.1 (by rw [hk_it_a hf (by omega)]) ?_) (fun z => ?_)
    · unfold hk_xa
      rw [hf, if_pos z]
    · have w : hk_xa T d c = (none, T) := by unfold hk_xa; rw [hf, if_neg (by omega)]
      rw [w] at k
      exact k xA xR hb
end
end
section
/-! the component: what builds terms -/
section
variable {xn xc xm xd xh : Int32} {xA xR xK xS xY xP xE : Nat → Int32}
theorem xa_append {post : SX → Prop} {o c : Nat} {l : List Nat} {y : Int32} (ho : o < 98) (h : hk_h xK xS o l) (hl : l.length < 100000) (hy : y = nI c)
    (k : ∀ K S : Nat → Int32, hk_h K S o (l ++ [c]) → hk_fr (fun s => s = o) xK xS K S → post (xn, xc, xm, xd, xh, xA, xR, K, S, xY, xP, xE)) : wpX_append post (xn, xc, xm, xd, xh, xA, xR, xK, xS, xY, xP, xE) (nI o) y := by
  subst hy
  have V : vp_in (nI o) 98 := vp_in_nI ho (by omega)
  have e := hk_sz h (by omega)
  have ec : (nI o).toNatClampNeg = o := nI_clamp (by omega)
  refine ⟨V, ?_⟩
  refine pk_le 32 l.length (fun z => ⟨V, V, ?_⟩) (fun z => ⟨V, ?_, ?_⟩) rfl e
  · refine nm_r (e' := upd xS o (nI (l.length + 1))) (by rw [e, ec, nI_1]) ?_
    exact k _ _ (hk_put' h z) hk_fr_s
  · rw [e]; exact hk_vx ho z
  · refine nm_r (e' := upd xK (o * 32 + l.length) (nI c)) (by rw [e, hk_ad, nI_clamp (by omega)]) ⟨V, V, ?_⟩
    refine nm_r (e' := upd xS o (nI (l.length + 1))) (by rw [e, ec, nI_1]) ?_
    exact k _ _ (hk_put h) (hk_fr_p z)
theorem xa_run_l {post : SX → Prop} {o s to : Nat} {src : List Nat} (ho : o < 98) (hs : s < 98) (hso : s ≠ o) (ht : to ≤ src.length) (hl : src.length ≤ 32) :
    ∀ (d p : Nat) (K S : Nat → Int32) (l : List Nat), p + d = to → hk_h K S o l → hk_h K S s src → l.length + d < 100000 →
      (∀ K' S' : Nat → Int32, hk_h K' S' o (l ++ hk_fm (fun q => [hk_c src q]) p d) → hk_fr (fun s => s = o) K S K' S' → post (xn, xc, xm, xd, xh, xA, xR, K', S', xY, xP, xE)) → wX_appendRun_3 post (nI o) (nI s) (nI to) (d + 1) (nI p) xn xc xm xd xh xA xR K S xY xP xE := by
  intro d
  induction d with
  | zero =>
    intro p K S l hp h hsrc hlen k
    refine br_t (nI_le (by omega) (by omega)) (k K S ?_ hk_fr_r)
    show hk_h K S o (l ++ [])
    rw [List.append_nil]; exact h
  | succ d ih =>
    intro p K S l hp h hsrc hlen k
    refine br_f (nI_ge (by omega) (by omega)) ⟨hk_vx hs (by omega), ?_⟩
    refine xa_append (c := hk_c src p) ho h (by omega) (hk_rd hsrc (by omega) (by omega) (by omega)) (fun K1 S1 h1 f1 => ?_)
    refine nm_r (nI_1 _) ?_
    refine ih (p + 1) K1 S1 (l ++ [hk_c src p]) (by omega) h1 (hk_fr_h f1 hso hsrc) (by rw [hk_len1]; omega) (fun K2 S2 h2 f2 => k K2 S2 ?_ (hk_fr_t f1 f2))
    rw [hk_fm_l, ← List.append_assoc]; exact h2
theorem xa_run {post : SX → Prop} {o s p to : Nat} {src l : List Nat} (ho : o < 98) (hs : s < 98) (hso : s ≠ o) (hp : p ≤ to) (ht : to ≤ src.length) (hl : src.length ≤ 32) (h : hk_h xK xS o l) (hsrc : hk_h xK xS s src) (hlen : l.length < 90000)
    (k : ∀ K S : Nat → Int32, hk_h K S o (l ++ hk_fm (fun q => [hk_c src q]) p (to - p)) → hk_fr (fun s => s = o) xK xS K S → post (xn, xc, xm, xd, xh, xA, xR, K, S, xY, xP, xE)) : wpX_appendRun post (xn, xc, xm, xd, xh, xA, xR, xK, xS, xY, xP, xE) (nI o) (nI s) (nI p) (nI to) :=
  ⟨_, xa_run_l ho hs hso ht hl (to - p) p xK xS l (by omega) h hsrc (by omega) k⟩
/-- a whole term -/
theorem xa_all {post : SX → Prop} {o s : Nat} {src l : List Nat} {y : Int32} (ho : o < 98) (hs : s < 98) (hso : s ≠ o) (hl : src.length ≤ 32) (h : hk_h xK xS o l) (hsrc : hk_h xK xS s src) (hlen : l.length < 90000) (hy : y = nI src.length)
    (k : ∀ K S : Nat → Int32, hk_h K S o (l ++ src) → hk_fr (fun s => s = o) xK xS K S → post (xn, xc, xm, xd, xh, xA, xR, K, S, xY, xP, xE)) : wpX_appendRun post (xn, xc, xm, xd, xh, xA, xR, xK, xS, xY, xP, xE) (nI o) (nI s) 0 y := by
  subst hy
  refine xa_run (p := 0) ho hs hso (by omega) (Nat.le_refl _) hl h hsrc hlen (fun K S h1 f1 => k K S ?_ f1)
  rw [Nat.sub_zero, hk_fm_all] at h1; exact h1
/-! depths -/
theorem xa_mk2 {post : SX → Prop} {J : Int32 → (Nat → Int32) → (Nat → Int32) → (Nat → Int32) → (Nat → Int32) → (Nat → Int32) → (Nat → Int32) → (Nat → Int32) → Prop} {s n p e : Nat} (he : e ≤ 32) (hp : p < 32) :
    ∀ (d q : Nat) (E : Nat → Int32), e ≤ q + d → q < 1000 → (∀ E' : Nat → Int32, (∀ i, E' i = if q ≤ i ∧ i < e then E i + 1 else E i) → J (nI (p + 1)) xA xR xK xS xY xP E') →
      wX_markDepths_61 post J (nI s) (nI n) (nI p) (nI e) xn xc xm xd xh (d + 1) (nI q) xA xR xK xS xY xP E := by
  intro d
  induction d with
  | zero =>
    intro q E hq hq' k
    refine br_t (nI_le (by omega) (by omega)) (nm_r (nI_1 _) (k E (fun i => ?_)))
    rw [if_neg (by omega)]
  | succ d ih =>
    intro q E hq hq' k
    refine pk_le e q (fun z => nm_r (nI_1 _) (k E (fun i => ?_))) (fun z => ?_)
    · rw [if_neg (by omega)]
    · have V : vp_in (nI q) 32 := vp_in_nI (by omega) (by omega)
      refine ⟨V, V, nm_r (e' := upd E q (E q + 1)) (by rw [nI_clamp (by omega)]) (nm_r (nI_1 _) ?_)⟩
      refine ih (q + 1) (upd E q (E q + 1)) (by omega) (by omega) (fun E' hE => k E' (fun i => ?_))
      rw [hE i]
      by_cases w : i = q
      · subst w
        rw [if_neg (by omega), if_pos ⟨Nat.le_refl _, z⟩, pk_us]
      · rw [pk_un w]
        by_cases w2 : q + 1 ≤ i ∧ i < e
        · rw [if_pos w2, if_pos ⟨by omega, w2.2⟩]
        · rw [if_neg w2, if_neg (fun y => w2 ⟨by omega, y.2⟩)]
theorem xa_mk1 {post : SX → Prop} {s n : Nat} {l : List Nat} (h : hk_h xK xS s l) (hs : s < 98) (g : hk_gt n l)
    (k : ∀ E' : Nat → Int32, (∀ i, i < l.length → E' i = nI (hk_dp l 0 i)) → post (xn, xc, xm, xd, xh, xA, xR, xK, xS, xY, xP, E')) :
    ∀ (d p : Nat) (E : Nat → Int32), p + d = l.length → (∀ i, i < l.length → E i = nI (hk_dn l i 0 (min p i))) → wX_markDepths_29 post (nI s) (nI l.length) xn xc xm xd xh (d + 1) (nI p) xA xR xK xS xY xP E := by
  have hl := g.2.1
  intro d
  induction d with
  | zero =>
    intro p E hp hE
    refine br_t (nI_le (by omega) (by omega)) (k E (fun i hi => ?_))
    rw [hE i hi, show min p i = i - 0 by omega]; rfl
  | succ d ih =>
    intro p E hp hE
    have pl : p < l.length := by omega
    refine br_f (nI_ge (by omega) (by omega)) ?_
    refine xa_kind h hs pl (by omega) (hk_gt_c g pl).1 ?_
    have hc := (hk_gt_c g pl).1
    have step : ∀ i, hk_dn l i 0 (p + 1) = hk_dn l i 0 p + (if hk_c l p / 65536 = 4 ∧ i < hk_e l p then 1 else 0) := by
      intro i
      show hk_dn l i 0 p + (if hk_c l (0 + p) / 65536 = 4 ∧ i < hk_e l (0 + p) then 1 else 0) = _
      rw [Nat.zero_add]
    refine pk_eq (hk_c l p / 65536) 4 (fun e4 => ?_) (fun e4 => ?_)
    · obtain ⟨m, -, ha⟩ := hk_at_ex g.1 pl
      have he := (hk_at_end ha).2.1.1
      refine xa_end h hs hl (fun c hc => (g.2.2 c hc).1) ha ?_
      refine nm_r (nI_1 _) ⟨_, xa_mk2 (by omega) (by omega) (hk_e l p) (p + 1) E (by omega) (by omega) (fun E' hE' => ih (p + 1) E' (by omega) (fun i hi => ?_))⟩
      rw [hE' i]
      by_cases w : p + 1 ≤ i
      · rw [show min (p + 1) i = p + 1 by omega, step i]
        by_cases w2 : i < hk_e l p
        · rw [if_pos ⟨w, w2⟩, if_pos ⟨e4, w2⟩, hE i hi, nI_1, show min p i = p by omega]
        · rw [if_neg (fun y => w2 y.2), if_neg (fun y => w2 y.2), hE i hi, show min p i = p by omega]; rfl
      · rw [if_neg (fun y => w y.1), hE i hi, show min p i = min (p + 1) i by omega]
    · refine nm_r (nI_1 _) ⟨_, xa_mk2 (e := p) (by omega) (by omega) 0 (p + 1) E (by omega) (by omega) (fun E' hE' => ih (p + 1) E' (by omega) (fun i hi => ?_))⟩
      rw [hE' i, if_neg (by omega), hE i hi]
      by_cases w : p + 1 ≤ i
      · rw [show min (p + 1) i = p + 1 by omega, step i, if_neg (fun y => e4 y.1), show min p i = p by omega]; rfl
      · rw [show min p i = min (p + 1) i by omega]
theorem xa_mk0 {post : SX → Prop} {s n : Nat} {l : List Nat} (h : hk_h xK xS s l) (hs : s < 98) (g : hk_gt n l)
    (k : ∀ E' : Nat → Int32, (∀ i, i < l.length → E' i = nI (hk_dp l 0 i)) → post (xn, xc, xm, xd, xh, xA, xR, xK, xS, xY, xP, E')) :
    ∀ (d p : Nat) (E : Nat → Int32), p + d = l.length → (∀ i, i < p → E i = 0) → wX_markDepths_9 post (nI s) (nI l.length) xn xc xm xd xh (d + 1) (nI p) xA xR xK xS xY xP E := by
  have hl := g.2.1
  intro d
  induction d with
  | zero =>
    intro p E hp hE
    refine br_t (nI_le (by omega) (by omega)) ⟨_, xa_mk1 h hs g k l.length 0 E (by omega) (fun i hi => ?_)⟩
    rw [hE i (by omega), show min 0 i = 0 by omega]; rfl
  | succ d ih =>
    intro p E hp hE
    refine br_f (nI_ge (by omega) (by omega)) ⟨vp_in_nI (by omega) (by omega), nm_r (e' := upd E p 0) (by rw [nI_clamp (by omega)]) (nm_r (nI_1 _) ?_)⟩
    refine ih (p + 1) (upd E p 0) (by omega) (fun i hi => ?_)
    by_cases w : i = p
    · subst w; exact pk_us
    · rw [pk_un w]; exact hE i (by omega)
theorem xa_mark {post : SX → Prop} {s n : Nat} {l : List Nat} (h : hk_h xK xS s l) (hs : s < 98) (g : hk_gt n l)
    (k : ∀ E' : Nat → Int32, (∀ i, i < l.length → E' i = nI (hk_dp l 0 i)) → post (xn, xc, xm, xd, xh, xA, xR, xK, xS, xY, xP, E')) : wpX_markDepths post (xn, xc, xm, xd, xh, xA, xR, xK, xS, xY, xP, xE) (nI s) :=
  ⟨vp_in_nI hs (by omega), nm_r (hk_sz h (by omega)) ⟨_, xa_mk0 h hs g k l.length 0 xE (by omega) (fun i hi => absurd hi (Nat.not_lt_zero i))⟩⟩
/-! abstraction -/
theorem xa_abs_l {post : SX → Prop} {o v s f to vc : Nat} {l : List Nat} (ho : o < 98) (hs : s < 98) (hv32 : v < 32) (hso : s ≠ o) (hvo : v ≠ o) (hl : l.length ≤ 32) (hto : to ≤ l.length) (hc : ∀ c, c ∈ l → c < 524288) (hvc : vc < 524288)
    (hY : xY v = nI (vc % 256)) (hE : ∀ q, f ≤ q → q < to → xE q = nI (hk_dp l f q)) :
    ∀ (d p : Nat) (K S : Nat → Int32) (l0 : List Nat), p + d = to → f ≤ p → hk_h K S o l0 → hk_h K S s l → hk_h K S v [vc] → l0.length + d < 100000 →
      (∀ K' S' : Nat → Int32, hk_h K' S' o (l0 ++ hk_fm (fun q => [hk_ab1 l f vc q]) p d) → hk_fr (fun s => s = o) K S K' S' → post (xn, xc, xm, xd, xh, xA, xR, K', S', xY, xP, xE)) →
      wX_appendAbstraction_18 post (nI o) (nI v) (nI s) (nI to) (d + 1) (nI p) xn xc xm xd xh xA xR K S xY xP xE := by
  intro d
  induction d with
  | zero =>
    intro p K S l0 hp hf h hsrc hv hlen k
    refine br_t (nI_le (by omega) (by omega)) (k K S ?_ hk_fr_r)
    show hk_h K S o (l0 ++ [])
    rw [List.append_nil]; exact h
  | succ d ih =>
    intro p K S l0 hp hf h hsrc hv hlen k
    have pl : p < l.length := by omega
    have hxc := hc _ (hk_c_mem pl)
    have ev : K (nI v * 32).toNatClampNeg = nI vc := by
      rw [hk_ad0, nI_clamp (by omega)]
      exact hv.2 0 (Nat.zero_lt_one) (by decide)
    have go : ∀ y : Int32, y = nI (hk_ab1 l f vc p) → wX_appendAbstraction_76 post (wX_appendAbstraction_18 post (nI o) (nI v) (nI s) (nI to) (d + 1)) (nI o) (nI v) (nI s) (nI to) (nI p) y xn xc xm xd xh xA xR K S xY xP xE := by
      intro y hy
      refine xa_append (c := hk_ab1 l f vc p) ho h (by omega) hy (fun K1 S1 h1 f1 => ?_)
      refine nm_r (nI_1 _) ?_
      refine ih (p + 1) K1 S1 (l0 ++ [hk_ab1 l f vc p]) (by omega) (by omega) h1 (hk_fr_h f1 hso hsrc) (hk_fr_h f1 hvo hv) (by rw [hk_len1]; omega) (fun K2 S2 h2 f2 => k K2 S2 ?_ (hk_fr_t f1 f2))
      rw [hk_fm_l, ← List.append_assoc]; exact h2
    refine br_f (nI_ge (by omega) (by omega)) ⟨hk_vx hs (by omega), nm_r (hk_rd hsrc (by omega) pl (by omega)) ⟨by rw [hk_ad0]; exact vp_in_nI (by omega) (by omega), ?_⟩⟩
    rw [ev]
    refine pk_eq (hk_c l p) vc (fun e => ⟨vp_in_nI (by omega) (by omega), vp_in_nI (by omega) (by omega), nm_e (go _ ?_)⟩) (fun e => go _ ?_)
    · have hd := hk_dp_le l f p
      rw [nI_clamp (n := p) (by omega), nI_clamp (n := v) (by omega), hE p hf (by omega), hY]
      unfold hk_ab1
      rw [if_pos e, show (256 : Int32) = nI 256 from rfl, show (327680 : Int32) = nI 327680 from rfl, pk_mul, nI_add, nI_add]
    · unfold hk_ab1
      rw [if_neg e]
theorem xa_abs {post : SX → Prop} {o v s f to vc n : Nat} {l l0 : List Nat} (ho : o < 98) (hs : s < 98) (hv32 : v < 32) (hso : s ≠ o) (hvo : v ≠ o) (g : hk_gt n l) (hf : f ≤ to) (hto : to ≤ l.length) (hvc : vc < 524288)
    (hY : xY v = nI (vc % 256)) (hE : ∀ q, f ≤ q → q < to → xE q = nI (hk_dp l f q)) (h : hk_h xK xS o l0) (hsrc : hk_h xK xS s l) (hv : hk_h xK xS v [vc]) (hlen : l0.length < 90000)
    (k : ∀ K S : Nat → Int32, hk_h K S o (l0 ++ hk_abl l f (to - f) vc) → hk_fr (fun s => s = o) xK xS K S → post (xn, xc, xm, xd, xh, xA, xR, K, S, xY, xP, xE)) : wpX_appendAbstraction post (xn, xc, xm, xd, xh, xA, xR, xK, xS, xY, xP, xE) (nI o) (nI v) (nI s) (nI f) (nI to) := by
  have hl := g.2.1
  refine ⟨vp_in_nI hv32 (by omega), ?_⟩
  refine xa_append (c := 262144 + vc % 256) ho h (by omega) ?_ (fun K1 S1 h1 f1 => ⟨to - f + 1, ?_⟩)
  · rw [nI_clamp (by omega), hY, show (262144 : Int32) = nI 262144 from rfl, nI_add]
  · refine xa_abs_l ho hs hv32 hso hvo hl hto (fun c hc => (g.2.2 c hc).1) hvc hY hE (to - f) f K1 S1 (l0 ++ [262144 + vc % 256]) (by omega) (Nat.le_refl _) h1 (hk_fr_h f1 hso hsrc) (hk_fr_h f1 hvo hv) (by rw [hk_len1]; omega) (fun K2 S2 h2 f2 => k K2 S2 ?_ (hk_fr_t f1 f2))
    rw [List.append_assoc] at h2; exact h2
/-! substitution -/
theorem xa_sub_l {post : SX → Prop} {o v s t vc : Nat} {l u : List Nat} (ho : o < 98) (hs : s < 98) (hv98 : v < 98) (ht : t < 98) (hso : s ≠ o) (hvo : v ≠ o) (hto : t ≠ o) (hl : l.length ≤ 32) (hul : u.length ≤ 32) (hc : ∀ c, c ∈ l → c < 524288) (hvc : vc < 524288) :
    ∀ (d p : Nat) (K S : Nat → Int32) (l0 : List Nat), p + d = l.length → hk_h K S o l0 → hk_h K S s l → hk_h K S v [vc] → hk_h K S t u → l0.length + d * 32 < 80000 →
      (∀ K' S' : Nat → Int32, hk_h K' S' o (l0 ++ hk_fm (fun q => if hk_c l q = vc then u else [hk_c l q]) p d) → hk_fr (fun s => s = o) K S K' S' → post (xn, xc, xm, xd, xh, xA, xR, K', S', xY, xP, xE)) →
      wX_substitute_19 post (nI s) (nI v) (nI t) (nI o) (nI l.length) (d + 1) (nI p) xn xc xm xd xh xA xR K S xY xP xE := by
  intro d
  induction d with
  | zero =>
    intro p K S l0 hp h hsrc hv hu hlen k
    refine br_t (nI_le (by omega) (by omega)) (k K S ?_ hk_fr_r)
    show hk_h K S o (l0 ++ [])
    rw [List.append_nil]; exact h
  | succ d ih =>
    intro p K S l0 hp h hsrc hv hu hlen k
    have pl : p < l.length := by omega
    have hxc := hc _ (hk_c_mem pl)
    have ev : K (nI v * 32).toNatClampNeg = nI vc := by
      rw [hk_ad0, nI_clamp (by omega)]
      exact hv.2 0 (Nat.zero_lt_one) (by decide)
    refine br_f (nI_ge (by omega) (by omega)) ⟨hk_vx hs (by omega), nm_r (hk_rd hsrc (by omega) pl (by omega)) ⟨by rw [hk_ad0]; exact vp_in_nI (by omega) (by omega), ?_⟩⟩
    rw [ev]
    refine pk_eq (hk_c l p) vc (fun e => ⟨vp_in_nI ht (by omega), ?_⟩) (fun e => ?_)
    · refine xa_all ho ht hto hul h hu (by omega) (hk_sz hu (by omega)) (fun K1 S1 h1 f1 => ?_)
      refine nm_r (nI_1 _) ?_
      refine ih (p + 1) K1 S1 (l0 ++ u) (by omega) h1 (hk_fr_h f1 hso hsrc) (hk_fr_h f1 hvo hv) (hk_fr_h f1 hto hu) (by rw [List.length_append]; omega) (fun K2 S2 h2 f2 => k K2 S2 ?_ (hk_fr_t f1 f2))
      rw [hk_fm_l, ← List.append_assoc, if_pos e]; exact h2
    · refine xa_append (c := hk_c l p) ho h (by omega) rfl (fun K1 S1 h1 f1 => ?_)
      refine nm_r (nI_1 _) ?_
      refine ih (p + 1) K1 S1 (l0 ++ [hk_c l p]) (by omega) h1 (hk_fr_h f1 hso hsrc) (hk_fr_h f1 hvo hv) (hk_fr_h f1 hto hu) (by rw [hk_len1]; omega) (fun K2 S2 h2 f2 => k K2 S2 ?_ (hk_fr_t f1 f2))
      rw [hk_fm_l, ← List.append_assoc, if_neg e]; exact h2
theorem xa_sub {post : SX → Prop} {o v s t vc n : Nat} {l u : List Nat} (ho : o < 98) (hs : s < 98) (hv98 : v < 98) (ht : t < 98) (hso : s ≠ o) (hvo : v ≠ o) (hto : t ≠ o) (g : hk_gt n l) (gu : hk_gt n u) (hvc : vc < 524288)
    (hsrc : hk_h xK xS s l) (hv : hk_h xK xS v [vc]) (hu : hk_h xK xS t u)
    (k : ∀ K S : Nat → Int32, hk_h K S o (hk_sb l vc u) → hk_fr (fun s => s = o) xK xS K S → post (xn, xc, xm, xd, xh, xA, xR, K, S, xY, xP, xE)) : wpX_substitute post (xn, xc, xm, xd, xh, xA, xR, xK, xS, xY, xP, xE) (nI s) (nI v) (nI t) (nI o) := by
  have hl := g.2.1
  have f0 : hk_fr (fun s => s = o) xK xS xK (upd xS o 0) := hk_fr_s
  refine ⟨vp_in_nI hs (by omega), nm_r (hk_sz hsrc (by omega)) ⟨vp_in_nI ho (by omega), nm_r (e' := upd xS o 0) (by rw [nI_clamp (by omega)]) ⟨l.length + 1, ?_⟩⟩⟩
  exact xa_sub_l ho hs hv98 ht hso hvo hto hl gu.2.1 (fun c hc => (g.2.2 c hc).1) hvc l.length 0 xK (upd xS o 0) [] (by omega) hk_h0 (hk_fr_h f0 hso hsrc) (hk_fr_h f0 hvo hv) (hk_fr_h f0 hto hu) (by show 0 + l.length * 32 < 80000; omega)
    (fun K2 S2 h2 f2 => k K2 S2 (by rw [List.nil_append] at h2; exact h2) (hk_fr_t f0 f2))
/-! contraction -/
theorem xa_lift_l {post : SX → Prop} {o s f to lf : Nat} {l : List Nat} (ho : o < 98) (hs : s < 98) (hso : s ≠ o) (hl : l.length ≤ 32) (hto : to ≤ l.length) (hfe : to ≤ hk_e l f) (hc : ∀ c, c ∈ l → c < 524288) (hlf : lf ≤ 32)
    (hE : ∀ q, q < l.length → xE q = nI (hk_dp l 0 q)) (hff : f < l.length) :
    ∀ (d p : Nat) (K S : Nat → Int32) (l0 : List Nat), p + d = to → f ≤ p → hk_h K S o l0 → hk_h K S s l → l0.length + d < 100000 →
      (∀ K' S' : Nat → Int32, hk_h K' S' o (l0 ++ hk_fm (fun q => [hk_lf l f lf q]) p d) → hk_fr (fun s => s = o) K S K' S' → post (xn, xc, xm, xd, xh, xA, xR, K', S', xY, xP, xE)) →
      wX_appendLifted_3 post (nI o) (nI s) (nI f) (nI to) (nI lf) (d + 1) (nI p) xn xc xm xd xh xA xR K S xY xP xE := by
  intro d
  induction d with
  | zero =>
    intro p K S l0 hp hf h hsrc hlen k
    refine br_t (nI_le (by omega) (by omega)) (k K S ?_ hk_fr_r)
    show hk_h K S o (l0 ++ [])
    rw [List.append_nil]; exact h
  | succ d ih =>
    intro p K S l0 hp hf h hsrc hlen k
    have pl : p < l.length := by omega
    have hxc := hc _ (hk_c_mem pl)
    have hd := hk_dp_le l f p
    have ein : xE (nI p).toNatClampNeg - xE (nI f).toNatClampNeg = nI (hk_dp l f p) := by
      rw [nI_clamp (by omega), nI_clamp (by omega), hE p pl, hE f hff, hk_dp_sub hf (by omega), pk_sub (by omega), Nat.add_sub_cancel_left]
    have go : ∀ y : Int32, y = nI (hk_lf l f lf p) → wX_appendLifted_74 post (wX_appendLifted_3 post (nI o) (nI s) (nI f) (nI to) (nI lf) (d + 1)) (nI o) (nI s) (nI f) (nI to) (nI lf) (nI p) y xn xc xm xd xh xA xR K S xY xP xE := by
      intro y hy
      refine xa_append (c := hk_lf l f lf p) ho h (by omega) hy (fun K1 S1 h1 f1 => ?_)
      refine nm_r (nI_1 _) ?_
      refine ih (p + 1) K1 S1 (l0 ++ [hk_lf l f lf p]) (by omega) (by omega) h1 (hk_fr_h f1 hso hsrc) (by rw [hk_len1]; omega) (fun K2 S2 h2 f2 => k K2 S2 ?_ (hk_fr_t f1 f2))
      rw [hk_fm_l, ← List.append_assoc]; exact h2
    refine br_f (nI_ge (by omega) (by omega)) ⟨hk_vx hs (by omega), nm_r (hk_rd hsrc (by omega) pl (by omega)) ⟨vp_in_nI (by omega) (by omega), vp_in_nI (by omega) (by omega), nm_r ein ?_⟩⟩
    refine xa_kind hsrc hs pl (by omega) hxc ?_
    refine pk_eq (hk_c l p / 65536) 5 (fun e => ?_) (fun e => go _ ?_)
    · refine xa_index hsrc hs pl (by omega) hxc ?_
      refine pk_lt (hk_c l p / 256 % 256) (hk_dp l f p) (fun z => go _ ?_) (fun z => nm_e (go _ ?_))
      · unfold hk_lf
        rw [if_neg (fun y => by omega)]
      · unfold hk_lf
        rw [if_pos ⟨e, z⟩, show (256 : Int32) = nI 256 from rfl, pk_mul, nI_add]
    · unfold hk_lf
      rw [if_neg (fun y => e y.1)]
theorem xa_con_l {post : SX → Prop} {o s b a r n : Nat} {l : List Nat} (ho : o < 98) (hs : s < 98) (hso : s ≠ o) (g : hk_gt n l) (hb : b < l.length) (hae : a = hk_e l b) (ha : a < l.length) (har : a ≤ r) (hre : r = hk_e l a) (hr : r ≤ l.length)
    (hE : ∀ q, q < l.length → xE q = nI (hk_dp l 0 q)) :
    ∀ (d p : Nat) (K S : Nat → Int32) (l0 : List Nat), p + d = a → b ≤ p → hk_h K S o l0 → hk_h K S s l → l0.length + d * 32 < 80000 →
      (∀ K' S' : Nat → Int32, hk_h K' S' o (l0 ++ hk_fm (hk_cb l b a r) p d ++ hk_fm (fun q => [hk_c l q]) r (l.length - r)) → hk_fr (fun s => s = o) K S K' S' → post (xn, xc, xm, xd, xh, xA, xR, K', S', xY, xP, xE)) →
      wX_contract_47 post (nI s) (nI o) (nI b) (nI a) (nI r) (d + 1) (nI p) xn xc xm xd xh xA xR K S xY xP xE := by
  have hl := g.2.1
  have hc : ∀ c, c ∈ l → c < 524288 := fun c hc => (g.2.2 c hc).1
  intro d
  induction d with
  | zero =>
    intro p K S l0 hp hf h hsrc hlen k
    refine br_t (nI_le (by omega) (by omega)) ⟨vp_in_nI hs (by omega), ?_⟩
    rw [hk_sz hsrc (by omega)]
    refine xa_run ho hs hso hr (Nat.le_refl _) hl h hsrc (by omega) (fun K1 S1 h1 f1 => k K1 S1 ?_ f1)
    show hk_h K1 S1 o (l0 ++ [] ++ _)
    rw [List.append_nil]; exact h1
  | succ d ih =>
    intro p K S l0 hp hf h hsrc hlen k
    have pl : p < l.length := by omega
    have hxc := hc _ (hk_c_mem pl)
    have hd := hk_dp_le l b p
    have ein : xE (nI p).toNatClampNeg - xE (nI b).toNatClampNeg = nI (hk_dp l b p) := by
      rw [nI_clamp (by omega), nI_clamp (by omega), hE p pl, hE b hb, hk_dp_sub hf (by omega), pk_sub (by omega), Nat.add_sub_cancel_left]
    have next : ∀ (K1 S1 : Nat → Int32) (w : List Nat), hk_cb l b a r p = w → w.length ≤ 32 → hk_h K1 S1 o (l0 ++ w) → hk_fr (fun s => s = o) K S K1 S1 → wX_contract_47 post (nI s) (nI o) (nI b) (nI a) (nI r) (d + 1) (nI (p + 1)) xn xc xm xd xh xA xR K1 S1 xY xP xE := by
      intro K1 S1 w ew hw h1 f1
      refine ih (p + 1) K1 S1 (l0 ++ w) (by omega) (by omega) h1 (hk_fr_h f1 hso hsrc) (by rw [List.length_append]; omega) (fun K2 S2 h2 f2 => k K2 S2 ?_ (hk_fr_t f1 f2))
      rw [hk_fm_l, ew, ← List.append_assoc]; exact h2
    have one : ∀ (P : SX → Prop) (y : Int32) (c : Nat), (∀ K1 S1 : Nat → Int32, wX_contract_47 post (nI s) (nI o) (nI b) (nI a) (nI r) (d + 1) (nI (p + 1)) xn xc xm xd xh xA xR K1 S1 xY xP xE → P (xn, xc, xm, xd, xh, xA, xR, K1, S1, xY, xP, xE)) → y = nI c → hk_cb l b a r p = [c] → wpX_append P (xn, xc, xm, xd, xh, xA, xR, K, S, xY, xP, xE) (nI o) y := by
      intro P y c hP hy ew
      exact xa_append (c := c) ho h (by omega) hy (fun K1 S1 h1 f1 => hP K1 S1 (next K1 S1 [c] ew (by show 1 ≤ 32; decide) h1 f1))
    refine br_f (nI_ge (by omega) (by omega)) ⟨hk_vx hs (by omega), nm_r (hk_rd hsrc (by omega) pl (by omega)) ⟨vp_in_nI (by omega) (by omega), vp_in_nI (by omega) (by omega), nm_r ein ?_⟩⟩
    refine xa_kind hsrc hs pl (by omega) hxc ?_
    refine pk_eq (hk_c l p / 65536) 5 (fun e => ?_) (fun e => ?_)
    · refine xa_index hsrc hs pl (by omega) hxc ?_
      refine br_f (by decide) ?_
      refine pk_eq (hk_c l p / 256 % 256) (hk_dp l b p) (fun e2 => ⟨r - a + 1, ?_⟩) (fun e2 => ?_)
      · refine xa_lift_l ho hs hso hl hr (Nat.le_of_eq hre) hc (by omega) hE ha (r - a) a K S l0 (by omega) (Nat.le_refl _) h hsrc (by omega) (fun K1 S1 h1 f1 => ?_)
        refine nm_r (nI_1 _) (next K1 S1 _ ?_ ?_ h1 f1)
        · unfold hk_cb; rw [if_pos ⟨e, e2⟩]
        · rw [hk_fm_len]; omega
      · refine br_f (by decide) ?_
        refine pk_le (hk_c l p / 256 % 256) (hk_dp l b p) (fun z => ?_) (fun z => ?_)
        · exact one _ _ _ (fun K1 S1 q => nm_r (nI_1 _) q) rfl (by unfold hk_cb; rw [if_neg (fun y => e2 y.2), if_neg (fun y => by omega)])
        · exact one _ _ (hk_c l p - 256) (fun K1 S1 q => nm_r (nI_1 _) q) (pk_sub (b := 256) (by omega)) (by unfold hk_cb; rw [if_neg (fun y => e2 y.2), if_pos ⟨e, z⟩])
    · refine xa_index hsrc hs pl (by omega) hxc ?_
      refine br_t rfl (br_t rfl ?_)
      exact one _ _ _ (fun K1 S1 q => nm_r (nI_1 _) q) rfl (by unfold hk_cb; rw [if_neg (fun y => e y.1), if_neg (fun y => e y.1)])
theorem xa_contract {post : SX → Prop} {o s r n : Nat} {l : List Nat} (ho : o < 98) (hs : s < 98) (hso : s ≠ o) (g : hk_gt n l) (hr : hk_rx l r) (hsrc : hk_h xK xS s l)
    (k : ∀ K S E : Nat → Int32, hk_h K S o (hk_con l r) → hk_fr (fun s => s = o) xK xS K S → post (xn, xc, xm, xd, xh, xA, xR, K, S, xY, xP, E)) : wpX_contract post (xn, xc, xm, xd, xh, xA, xR, xK, xS, xY, xP, xE) (nI s) (nI r) (nI o) := by
  have hl := g.2.1
  have hc : ∀ c, c ∈ l → c < 524288 := fun c hc => (g.2.2 c hc).1
  obtain ⟨m, t1, t2, t3, t4, o1, o2, s1, s2⟩ := hk_rx_at g.1 hr
  have w2 := hk_at_lt t2
  have w3 := hk_at_lt t3
  have w4 := t4.1
  have e2 : nI r + 2 = nI (r + 2) := nI_add r 2
  refine nm_r e2 ?_
  refine xa_end hsrc hs hl hc t2 ?_
  refine xa_end hsrc hs hl hc t3 ?_
  refine xa_mark hsrc hs g (fun E hE => ?_)
  refine ⟨vp_in_nI ho (by omega), nm_r (e' := upd xS o 0) (by rw [nI_clamp (by omega)]) ?_⟩
  have f0 : hk_fr (fun s => s = o) xK xS xK (upd xS o 0) := hk_fr_s
  refine xa_run (p := 0) ho hs hso (Nat.zero_le r) (by omega) hl hk_h0 (hk_fr_h f0 hso hsrc) (by decide) (fun K1 S1 h1 f1 => ⟨hk_e l (r + 2) - (r + 2) + 1, ?_⟩)
  rw [List.nil_append, Nat.sub_zero] at h1
  have f01 := hk_fr_t f0 f1
  refine xa_con_l ho hs hso g w2 rfl w3 (by omega) rfl w4 hE (hk_e l (r + 2) - (r + 2)) (r + 2) K1 S1 _ (by omega) (Nat.le_refl _) h1 (hk_fr_h f01 hso hsrc) (by rw [hk_fm_len]; omega) (fun K2 S2 h2 f2 => ?_)
  exact k K2 S2 E h2 (hk_fr_t f01 f2)
/-! copies and equations -/
theorem xa_copy_l {post : SX → Prop} {s o : Nat} {l : List Nat} {S : Nat → Int32} (ho : o < 98) (hs : s < 98) (hso : s ≠ o) (hl : l.length ≤ 32) (hS : S o = nI l.length) (K0 S0 : Nat → Int32)
    (k : ∀ K' : Nat → Int32, hk_h K' S o l → hk_fr (fun s => s = o) K0 S0 K' S → post (xn, xc, xm, xd, xh, xA, xR, K', S, xY, xP, xE)) :
    ∀ (d p : Nat) (K : Nat → Int32), p + d = l.length → hk_h K S s l → (∀ i, i < p → K (o * 32 + i) = nI (hk_c l i)) → hk_fr (fun s => s = o) K0 S0 K S → wX_copyTerm_17 post (nI s) (nI o) (nI l.length) xn xc xm xd xh (d + 1) (nI p) xA xR K S xY xP xE := by
  intro d
  induction d with
  | zero =>
    intro p K hp h hd f
    exact br_t (nI_le (by omega) (by omega)) (k K ⟨hS, fun i hi _ => hd i (by omega)⟩ f)
  | succ d ih =>
    intro p K hp h hd f
    refine br_f (nI_ge (by omega) (by omega)) ⟨hk_vx hs (by omega), hk_vx ho (by omega), nm_r (e' := upd K (o * 32 + p) (nI (hk_c l p))) (by rw [hk_rd h (by omega) (by omega) (by omega), hk_ad, nI_clamp (by omega)]) (nm_r (nI_1 _) ?_)⟩
    refine ih (p + 1) _ (by omega) ⟨h.1, fun i hi h32 => ?_⟩ (fun i hi => ?_) (fun t ht => ⟨(f t ht).1, fun i hi => ?_⟩)
    · rw [pk_un (by omega)]; exact h.2 i hi h32
    · by_cases w : i = p
      · subst w; exact pk_us
      · rw [pk_un (by omega)]; exact hd i (by omega)
    · rw [pk_un (by have : t ≠ o := ht; omega)]; exact (f t ht).2 i hi
theorem xa_copy {post : SX → Prop} {s o : Nat} {l : List Nat} (ho : o < 98) (hs : s < 98) (hso : s ≠ o) (hl : l.length ≤ 32) (h : hk_h xK xS s l)
    (k : ∀ K S : Nat → Int32, hk_h K S o l → hk_fr (fun s => s = o) xK xS K S → post (xn, xc, xm, xd, xh, xA, xR, K, S, xY, xP, xE)) : wpX_copyTerm post (xn, xc, xm, xd, xh, xA, xR, xK, xS, xY, xP, xE) (nI s) (nI o) := by
  refine ⟨vp_in_nI hs (by omega), nm_r (hk_sz h (by omega)) ⟨vp_in_nI ho (by omega), nm_r (e' := upd xS o (nI l.length)) (by rw [nI_clamp (by omega)]) ⟨l.length + 1, ?_⟩⟩⟩
  have f0 : hk_fr (fun s => s = o) xK xS xK (upd xS o (nI l.length)) := hk_fr_s
  exact xa_copy_l ho hs hso hl pk_us xK xS (fun K' => k K' _) l.length 0 xK (by omega) (hk_fr_h f0 hso h) (fun i hi => absurd hi (Nat.not_lt_zero i)) f0
theorem xa_start {post : SX → Prop} {o a : Nat} (ho : o < 98)
    (k : ∀ K S : Nat → Int32, hk_h K S o [196608, 196608, 131072 + a] → hk_fr (fun s => s = o) xK xS K S → post (xn, xc, xm, xd, xh, xA, xR, K, S, xY, xP, xE)) : wpX_startEquation post (xn, xc, xm, xd, xh, xA, xR, xK, xS, xY, xP, xE) (nI o) (nI a) := by
  refine ⟨vp_in_nI ho (by omega), nm_r (e' := upd xS o 0) (by rw [nI_clamp (by omega)]) ?_⟩
  have f0 : hk_fr (fun s => s = o) xK xS xK (upd xS o 0) := hk_fr_s
  refine xa_append (c := 196608) (l := []) ho hk_h0 (by decide) rfl (fun K1 S1 h1 f1 => ?_)
  refine xa_append (c := 196608) (l := [196608]) ho h1 (by decide) rfl (fun K2 S2 h2 f2 => ?_)
  refine xa_append (c := 131072 + a) (l := [196608, 196608]) ho h2 (by decide) (nI_add 131072 a) (fun K3 S3 h3 f3 => ?_)
  exact k K3 S3 h3 (hk_fr_t (hk_fr_t (hk_fr_t f0 f1) f2) f3)
end
end
section
/-! the component: hypotheses of the theorem in the making -/
section
variable {xn xc xm xd xh : Int32} {xA xR xK xS xY xP xE : Nat → Int32}
theorem xa_hs_fr {W : Nat → Prop} {K S K' S' : Nat → Int32} {f : Nat} {H : List (List Nat)} (fr : hk_fr W K S K' S') (h : hk_hs (hk_h K S) f H) (hW : ∀ i, i < H.length → ¬ W (f + i)) : hk_hs (hk_h K' S') f H :=
  fun i hi => hk_fr_h fr (hW i hi) (h i hi)
/-- shifting up from the end, then the term itself -/
theorem xa_shift {post : Int32 → SX → Prop} {nH s q f : Nat} {t : List Nat} {H : List (List Nat)} (hH : nH < 16) (hf : f = 32 + nH * 4 + 1) (hs : s < 98) (hsW : s < f ∨ f + 3 ≤ s) (lt : t.length ≤ 32) (lH : ∀ x, x ∈ H → x.length ≤ 32) (hq : q ≤ H.length) (hl : H.length < 3) (K0 S0 : Nat → Int32)
    (k : ∀ K S : Nat → Int32, hk_hs (hk_h K S) f (H.take q ++ t :: H.drop q) → hk_fr (fun s => f ≤ s ∧ s < f + 3) K0 S0 K S → post 1 (xn, xc, xm, xd, nI nH, xA, xR, K, S, xY, upd xP nH (nI (H.length + 1)), xE)) :
    ∀ (d i : Nat) (K S : Nat → Int32), i = q + d → i ≤ H.length → hk_h K S s t → (∀ j, j < i → hk_h K S (f + j) (H.getD j [])) → (∀ j, i ≤ j → j < H.length → hk_h K S (f + j + 1) (H.getD j [])) → hk_fr (fun s => f ≤ s ∧ s < f + 3) K0 S0 K S →
      wX_insertHyp_76 post (nI s) (nI f) (nI H.length) (nI q) (d + 1) (nI i) xn xc xm xd (nI nH) xA xR K S xY xP xE := by
  intro d
  induction d with
  | zero =>
    intro i K S hi hil hs1 lo hi1 fr
    refine br_t (nI_le (by omega) (by omega)) ?_
    rw [nI_add]
    refine xa_copy (by omega) hs (by omega) lt hs1 (fun K1 S1 h1 f1 => ?_)
    refine ⟨vp_in_nI hH (by omega), nm_r (e' := upd xP nH (nI (H.length + 1))) (by rw [nI_clamp (by omega), nI_1]) ?_⟩
    refine k K1 S1 (fun j hj => ?_) (hk_fr_t fr (hk_fr_w f1 (fun s e => by have e : s = f + q := e; omega)))
    rw [hk_put_len hq] at hj
    rcases Nat.lt_trichotomy j q with z | z | z
    · rw [hk_put_lo hq z]; exact hk_fr_h f1 (by intro e; have e : f + j = f + q := e; omega) (lo j (by omega))
    · subst z; rw [hk_put_at hq]; exact h1
    · obtain ⟨j', rfl⟩ : ∃ j', j = j' + 1 := ⟨j - 1, by omega⟩
      rw [hk_put_hi hq (by omega)]
      exact hk_fr_h f1 (by intro e; have e : f + (j' + 1) = f + q := e; omega) (hi1 j' (by omega) (by omega))
  | succ d ih =>
    intro i K S hi hil hs1 lo hi1 fr
    refine br_f (nI_ge (by omega) (by omega)) ?_
    have e1 : nI f + nI i - 1 = nI (f + (i - 1)) := by
      rw [nI_add, show f + i = f + (i - 1) + 1 by omega, nI_pred]
    rw [e1, nI_add]
    have src := lo (i - 1) (by omega)
    refine xa_copy (by omega) (by omega) (by omega) (lH _ (hk_ix_mem (by omega))) src (fun K1 S1 h1 f1 => ?_)
    have e2 : nI i + (-1) = nI (i - 1) := by
      have := pk_m1 (i - 1)
      rw [show i - 1 + 1 = i by omega] at this; exact this
    refine nm_r e2 ?_
    refine ih (i - 1) K1 S1 (by omega) (by omega) (hk_fr_h f1 (by intro e; have e : s = f + i := e; omega) hs1) (fun j hj => hk_fr_h f1 (by intro e; have e : f + j = f + i := e; omega) (lo j (by omega))) (fun j hj hj2 => ?_) (hk_fr_t fr (hk_fr_w f1 (fun s e => by have e : s = f + i := e; omega)))
    by_cases w : j = i - 1
    · subst w
      rw [show f + (i - 1) + 1 = f + i by omega]; exact h1
    · exact hk_fr_h f1 (by intro e; have e : f + j + 1 = f + i := e; omega) (hi1 j (by omega) hj2)
theorem xa_ins_l {post : Int32 → SX → Prop} {s f n : Nat} {t : List Nat} {H : List (List Nat)} (hs : s < 98) (hf : f + 3 < 98) (g : hk_gt n t) (gH : ∀ x, x ∈ H → hk_gt n x) (ht : hk_h xK xS s t) (hh : hk_hs (hk_h xK xS) f H) (hl : H.length ≤ 3)
    (k : wX_insertHyp_46 post (nI s) (nI f) (nI H.length) (nI (hk_pos t H)) xn xc xm xd xh xA xR xK xS xY xP xE) :
    ∀ (d i : Nat), i + d = H.length → hk_pos t H = i + hk_pos t (H.drop i) → wX_insertHyp_22 post (nI s) (nI f) (nI H.length) xn xc xm xd xh xA xR xK xS xY xP xE (d + 1) (nI i) := by
  intro d
  induction d with
  | zero =>
    intro i hi hp
    rw [List.drop_of_length_le (by omega)] at hp
    have e : hk_pos t H = i := hp
    rw [e] at k
    exact br_t (nI_le (by omega) (by omega)) k
  | succ d ih =>
    intro i hi hp
    have il : i < H.length := by omega
    rw [hk_gd_drop il] at hp
    refine br_f (nI_ge (by omega) (by omega)) ?_
    rw [nI_add]
    refine xa_cmp (hh i il) ht (by omega) hs (gH _ (hk_ix_mem il)) g (fun r h1 h2 => ?_)
    refine br_c (fun z => ?_) (fun z => nm_r (nI_1 _) ?_)
    · have nlt : ¬ hk_lt (H.getD i []) t = true := fun y => absurd (h1.mpr y) (Int32.not_lt.mpr z)
      rw [hk_pos_f nlt] at hp
      rw [hp] at k; exact k
    · have lt : hk_lt (H.getD i []) t = true := h1.mp (Int32.not_le.mp z)
      rw [hk_pos_t lt] at hp
      exact ih (i + 1) (by omega) (by omega)
theorem xa_ins {post : Int32 → SX → Prop} {nH s n f : Nat} {t : List Nat} {H : List (List Nat)} (hH : nH < 16) (hf : f = 32 + nH * 4 + 1) (hs : s < 98) (hsW : s < f ∨ f + 3 ≤ s) (g : hk_gt n t) (gH : ∀ x, x ∈ H → hk_gt n x) (ht : hk_h xK xS s t) (hh : hk_hs (hk_h xK xS) f H) (hP : xP nH = nI H.length) (hl : H.length ≤ 3)
    (k1 : (hk_ins t H).length ≤ 3 → ∀ K S P : Nat → Int32, hk_hs (hk_h K S) f (hk_ins t H) → hk_fr (fun s => f ≤ s ∧ s < f + 3) xK xS K S → P nH = nI (hk_ins t H).length → (∀ h, h ≠ nH → P h = xP h) → post 1 (xn, xc, xm, xd, nI nH, xA, xR, K, S, xY, P, xE))
    (k0 : 3 < (hk_ins t H).length → post 0 (xn, xc, xm, xd, nI nH, xA, xR, xK, xS, xY, xP, xE)) : wpX_insertHyp post (xn, xc, xm, xd, nI nH, xA, xR, xK, xS, xY, xP, xE) (nI s) := by
  unfold wpX_insertHyp
  dsimp only
  refine xa_part nH 1 ?_
  rw [← hf]
  refine ⟨vp_in_nI hH (by omega), nm_r (e' := nI H.length) (by rw [nI_clamp (by omega)]; exact hP) ⟨H.length + 1, ?_⟩⟩
  have hp := hk_pos_le (t := t) (H := H)
  refine xa_ins_l hs (by omega) g gH ht hh hl ?_ H.length 0 (by omega) (by rw [List.drop_zero, Nat.zero_add])
  have go : (hk_pos t H < H.length → H.getD (hk_pos t H) [] ≠ t) → wX_insertHyp_66 post (nI s) (nI f) (nI H.length) (nI (hk_pos t H)) xn xc xm xd (nI nH) xA xR xK xS xY xP xE := by
    intro ne
    have e := hk_ins_new ne
    have el : (hk_ins t H).length = H.length + 1 := by rw [e, hk_put_len hp]
    refine pk_lt H.length 3 (fun z => ⟨H.length - hk_pos t H + 1, ?_⟩) (fun z => k0 (by omega))
    refine xa_shift hH hf hs hsW g.2.1 (fun x hx => (gH x hx).2.1) hp z xK xS (fun K S h1 f1 => ?_) (H.length - hk_pos t H) H.length xK xS (by omega) (Nat.le_refl _) ht hh (fun j h1 h2 => by omega) hk_fr_r
    refine k1 (by omega) K S _ (by rw [e]; exact h1) f1 (by rw [pk_us, el]) (fun h hne => pk_un hne)
  refine pk_le H.length (hk_pos t H) (fun z => go (fun w => by omega)) (fun z => ?_)
  rw [nI_add]
  refine xa_cmp (hh _ z) ht (by omega) hs (gH _ (hk_ix_mem z)) g (fun r h1 h2 => ?_)
  refine br_c (fun w => ?_) (fun w => go (fun _ e => w (h2.mpr e)))
  have e := hk_ins_same z (h2.mp w)
  rw [e] at k1
  exact k1 hl xK xS xP hh hk_fr_r hP (fun h _ => rfl)
/-- what the exception says: none, or the term in a slot -/
def xa_exc (K S : Nat → Int32) (x : Int32) (n f : Nat) (wf : List Nat → Bool) : Prop :=
  (x = -1 ∧ ∀ t, wf t = true) ∨ ∃ (e : Nat) (l : List Nat), x = nI e ∧ e < 98 ∧ (e < f ∨ f + 3 ≤ e) ∧ hk_gt n l ∧ hk_h K S e l ∧ ∀ t, wf t = true ↔ t ≠ l
theorem xa_exc_fr {K S K' S' : Nat → Int32} {x : Int32} {n f : Nat} {wf : List Nat → Bool} (fr : hk_fr (fun s => f ≤ s ∧ s < f + 3) K S K' S') (h : xa_exc K S x n f wf) : xa_exc K' S' x n f wf := by
  rcases h with h | ⟨e, l, h1, h2, h3, h4, h5, h6⟩
  · exact Or.inl h
  · exact Or.inr ⟨e, l, h1, h2, h3, h4, hk_fr_h fr (by omega) h5, h6⟩
theorem xa_add_l {post : Int32 → SX → Prop} {nH a n f : Nat} {A : List (List Nat)} {x : Int32} {wf : List Nat → Bool} (hH : nH < 16) (hf : f = 32 + nH * 4 + 1) (ha : a < nH) (lA : A.length ≤ 3) (gA : ∀ y, y ∈ A → hk_gt n y) :
    ∀ (d i : Nat) (K S P : Nat → Int32) (H : List (List Nat)), i + d = A.length → hk_hs (hk_h K S) (32 + a * 4 + 1) A → xa_exc K S x n f wf → hk_hs (hk_h K S) f H → P nH = nI H.length → H.length ≤ 3 → (∀ y, y ∈ H → hk_gt n y) →
      ((hk_un H ((A.drop i).filter wf)).length ≤ 3 → ∀ K' S' P' : Nat → Int32, hk_hs (hk_h K' S') f (hk_un H ((A.drop i).filter wf)) → hk_fr (fun s => f ≤ s ∧ s < f + 3) K S K' S' → P' nH = nI (hk_un H ((A.drop i).filter wf)).length → (∀ h, h ≠ nH → P' h = P h) → post 1 (xn, xc, xm, xd, nI nH, xA, xR, K', S', xY, P', xE)) →
      (3 < (hk_un H ((A.drop i).filter wf)).length → ∀ K' S' P' : Nat → Int32, hk_fr (fun s => f ≤ s ∧ s < f + 3) K S K' S' → (∀ h, h ≠ nH → P' h = P h) → post 0 (xn, xc, xm, xd, nI nH, xA, xR, K', S', xY, P', xE)) →
      wX_addHyps_10 post (nI a) x (nI A.length) (d + 1) (nI (i + 1)) xn xc xm xd (nI nH) xA xR K S xY P xE := by
  intro d
  induction d with
  | zero =>
    intro i K S P H hi hA hx hh hP hl gH k1 k0
    rw [List.drop_of_length_le (by omega)] at k1
    exact br_t (nI_lt (by omega) (by omega)) (k1 hl K S P hh hk_fr_r hP (fun _ _ => rfl))
  | succ d ih =>
    intro i K S P H hi hA hx hh hP hl gH k1 k0
    have il : i < A.length := by omega
    have hi1 := hA i il
    have gi := gA _ (hk_ix_mem il)
    rw [hk_gd_drop il] at k1 k0
    refine br_f (nI_nlt (by omega) (by omega)) ?_
    refine xa_part a (i + 1) ?_
    rw [show 32 + a * 4 + (i + 1) = 32 + a * 4 + 1 + i by omega]
    have yes : wf (A.getD i []) = true → wX_addHyps_39 post (wX_addHyps_10 post (nI a) x (nI A.length) (d + 1)) (nI a) x (nI A.length) (nI (i + 1)) (nI (32 + a * 4 + 1 + i)) xn xc xm xd (nI nH) xA xR K S xY P xE := by
      intro hw
      rw [List.filter_cons_of_pos hw] at k1 k0
      refine br_f (by decide) ?_
      refine xa_ins hH hf (by omega) (by omega) gi gH hi1 hh hP hl (fun h3 K1 S1 P1 h1 f1 p1 p2 => ?_) (fun h3 => ?_)
      · refine br_f (by decide) (nm_r (nI_1 _) ?_)
        refine ih (i + 1) K1 S1 P1 (hk_ins (A.getD i []) H) (by omega) (xa_hs_fr f1 hA (fun j hj => by omega)) (xa_exc_fr f1 hx) h1 p1 h3 (fun y hy => ?_) (fun q K2 S2 P2 h2 f2 q1 q2 => k1 q K2 S2 P2 h2 (hk_fr_t f1 f2) q1 (fun h hne => (q2 h hne).trans (p2 h hne))) (fun q K2 S2 P2 f2 q2 => k0 q K2 S2 P2 (hk_fr_t f1 f2) (fun h hne => (q2 h hne).trans (p2 h hne)))
        rcases hk_ins_mem.mp hy with e | e
        · rw [e]; exact gi
        · exact gH y e
      · refine br_t rfl (k0 ?_ K S P hk_fr_r (fun _ _ => rfl))
        have := (hk_un_len (ts := (A.drop (i + 1)).filter wf) (S := hk_ins (A.getD i []) H)).1
        show 3 < (hk_un (hk_ins (A.getD i []) H) ((A.drop (i + 1)).filter wf)).length
        omega
    rcases hx with ⟨rfl, hw⟩ | ⟨e, l, rfl, he, heW, ge, hle, hwf⟩
    · exact br_t rfl (yes (hw _))
    · refine br_f ?_ ?_
      · intro z
        have q : ¬ nI e < 0 := nI_pos (by omega)
        rw [z] at q; exact q (by decide)
      · refine xa_cmp hi1 hle (by omega) he gi ge (fun r h1 h2 => ?_)
        refine br_c (fun w => ?_) (fun w => yes ((hwf _).mpr (fun q => w (h2.mpr q))))
        have nw : ¬ wf (A.getD i []) = true := fun q => (hwf _).mp q (h2.mp w)
        rw [List.filter_cons_of_neg nw] at k1 k0
        refine br_t rfl (nm_r (nI_1 _) ?_)
        exact ih (i + 1) K S P H (by omega) hA (Or.inr ⟨e, l, rfl, he, heW, ge, hle, hwf⟩) hh hP hl gH k1 k0
theorem xa_add {post : Int32 → SX → Prop} {nH a n f : Nat} {A H : List (List Nat)} {x : Int32} {wf : List Nat → Bool} (hH : nH < 16) (hf : f = 32 + nH * 4 + 1) (ha : a < nH) (lA : A.length ≤ 3) (gA : ∀ y, y ∈ A → hk_gt n y)
    (hPa : xP a = nI A.length) (hA : hk_hs (hk_h xK xS) (32 + a * 4 + 1) A) (hx : xa_exc xK xS x n f wf) (hh : hk_hs (hk_h xK xS) f H) (hP : xP nH = nI H.length) (hl : H.length ≤ 3) (gH : ∀ y, y ∈ H → hk_gt n y)
    (k1 : (hk_un H (A.filter wf)).length ≤ 3 → ∀ K' S' P' : Nat → Int32, hk_hs (hk_h K' S') f (hk_un H (A.filter wf)) → hk_fr (fun s => f ≤ s ∧ s < f + 3) xK xS K' S' → P' nH = nI (hk_un H (A.filter wf)).length → (∀ h, h ≠ nH → P' h = xP h) → post 1 (xn, xc, xm, xd, nI nH, xA, xR, K', S', xY, P', xE))
    (k0 : 3 < (hk_un H (A.filter wf)).length → ∀ K' S' P' : Nat → Int32, hk_fr (fun s => f ≤ s ∧ s < f + 3) xK xS K' S' → (∀ h, h ≠ nH → P' h = xP h) → post 0 (xn, xc, xm, xd, nI nH, xA, xR, K', S', xY, P', xE)) : wpX_addHyps post (xn, xc, xm, xd, nI nH, xA, xR, xK, xS, xY, xP, xE) (nI a) x :=
  ⟨vp_in_nI (by omega) (by omega), nm_r (e' := nI A.length) (by rw [nI_clamp (by omega)]; exact hPa) ⟨A.length + 1, xa_add_l hH hf ha lA gA A.length 0 xK xS xP H (by omega) hA hx hh hP hl gH (by rw [List.drop_zero]; exact k1) (by rw [List.drop_zero]; exact k0)⟩⟩
end
end
section
/-! the reference: what only reads -/
section
variable {y1 y2 y3 y4 y5 yn ym yh yc yd yw yl yk ye yp yq yr ys : Int32} {yM yL yY yA yR yP : Nat → Int32}
theorem ya_nd {post : Int32 → Prop} {s p : Nat} {l : List Nat} {y : Int32} (h : hk_hy yM yL s l) (hs : s < 110) (hp : p < l.length) (h32 : p < 32) (k : post (nI (hk_c l p))) (hy : y = nI p := by rfl) : wpY_nd post (y1, y2, y3, y4, y5, yn, ym, yh, yc, yd, yw, yl, yk, ye, yp, yq, yr, ys, yM, yL, yY, yA, yR, yP) (nI s) y := by
  subst hy
  refine br_f (nI_pos (by omega)) (br_f (nI_ge (b := 110) hs (by omega)) (br_f (nI_pos (by omega)) (br_t (nI_lt (b := 32) h32 (by omega)) ⟨hk_vy hs h32, ?_⟩)))
  rw [hk_rdy h hs hp h32]; exact k
theorem ya_slot {post : Int32 → Prop} (t p : Nat) (k : post (nI (32 + t * 4 + p))) : wpY_thSlot post (y1, y2, y3, y4, y5, yn, ym, yh, yc, yd, yw, yl, yk, ye, yp, yq, yr, ys, yM, yL, yY, yA, yR, yP) (nI t) (nI p) := by
  unfold wpY_thSlot
  dsimp only
  rw [hk_ps]; exact k
theorem ya_span_l {post : Int32 → Prop} {s p : Nat} {l : List Nat} (h : hk_hy yM yL s l) (hs : s < 110) (hl : l.length ≤ 32) (hc : ∀ c, c ∈ l → c < 524288) (hp : p ≤ 32) :
    ∀ (d q m b : Nat), q + d = l.length → p ≤ q → hk_run (m + b) (l.drop q) = some 0 → post (nI (q + hk_spn m (l.drop q) - p)) → wY_span_5 post (nI s) (nI p) y1 y2 y3 y4 y5 yn ym yh yc yd yw yl yk ye yp yq yr ys yM yL yY yA yR yP (d + 1) (nI m) (nI q) := by
  intro d
  induction d with
  | zero =>
    intro q m b hq hpq hr k
    rw [List.drop_of_length_le (by omega), hk_run_nil] at hr
    have m0 : m = 0 := by have := Option.some.inj hr; omega
    subst m0
    rw [hk_spn_0, Nat.add_zero] at k
    refine br_t (nI_le (b := 0) (by omega) (by omega)) ?_
    rw [pk_sub hpq]; exact k
  | succ d ih =>
    intro q m b hq hpq hr k
    cases m with
    | zero =>
      rw [hk_spn_0, Nat.add_zero] at k
      refine br_t (nI_le (b := 0) (by omega) (by omega)) ?_
      rw [pk_sub hpq]; exact k
    | succ m =>
      have ql : q < l.length := by omega
      have hcq := hc _ (hk_c_mem ql)
      rw [hk_c_drop ql, show m + 1 + b = (m + b) + 1 by omega, hk_run_s] at hr
      rw [hk_c_drop ql, hk_spn_s] at k
      refine br_f (nI_ge (b := m + 1) (a := 0) (by omega) (by have := hk_run_len hr; have := List.length_drop (i := q + 1) (l := l); omega)) (br_f (nI_ge (b := 32) (by omega) (by omega)) ?_)
      refine ya_nd h hs ql (by omega) ⟨by decide, nm_r (hk_kd hcq) (nm_r (pk_m1 _) ?_)⟩
      refine pk_eq (hk_c l q / 65536) 3 (fun e => nm_r (nI_add m 2) ?_) (fun e => ?_)
      · rw [hk_ar_3 e] at hr k
        refine pk_eq (hk_c l q / 65536) 4 (fun e4 => by omega) (fun e4 => nm_r (nI_1 _) ?_)
        exact ih (q + 1) (m + 2) b (by omega) (by omega) (by rw [show m + 2 + b = m + b + 2 by omega]; exact hr) (by rw [show q + 1 + hk_spn (m + 2) (l.drop (q + 1)) = q + (hk_spn (m + 2) (l.drop (q + 1)) + 1) by omega]; exact k)
      · refine pk_eq (hk_c l q / 65536) 4 (fun e4 => nm_r (nI_1 _) (nm_r (nI_1 _) ?_)) (fun e4 => nm_r (nI_1 _) ?_)
        · rw [hk_ar_4 e4] at hr k
          exact ih (q + 1) (m + 1) b (by omega) (by omega) (by rw [show m + 1 + b = m + b + 1 by omega]; exact hr) (by rw [show q + 1 + hk_spn (m + 1) (l.drop (q + 1)) = q + (hk_spn (m + 1) (l.drop (q + 1)) + 1) by omega]; exact k)
        · rw [hk_ar_k rfl e e4, Nat.add_zero] at hr k
          exact ih (q + 1) m b (by omega) (by omega) hr (by rw [show q + 1 + hk_spn m (l.drop (q + 1)) = q + (hk_spn m (l.drop (q + 1)) + 1) by omega]; exact k)
theorem ya_span {post : Int32 → Prop} {s p n : Nat} {l : List Nat} {y : Int32} (h : hk_hy yM yL s l) (hs : s < 110) (hl : l.length ≤ 32) (hc : ∀ c, c ∈ l → c < 524288) (ha : hk_at l p (n + 1)) (k : post (nI (hk_e l p - p))) (hy : y = nI p := by rfl) : wpY_span post (y1, y2, y3, y4, y5, yn, ym, yh, yc, yd, yw, yl, yk, ye, yp, yq, yr, ys, yM, yL, yY, yA, yR, yP) (nI s) y := by
  subst hy
  have w := hk_at_lt ha
  exact ⟨_, ya_span_l h hs hl hc (by omega) (l.length - p) p 1 n (by omega) (Nat.le_refl _) (by rw [Nat.add_comm]; exact ha.2) k⟩
theorem ya_depth_l {post : Int32 → Prop} {s st p n : Nat} {l : List Nat} (h : hk_hy yM yL s l) (hs : s < 110) (g : hk_gt n l) (hp : p < l.length) (k : post (nI (hk_dp l st p))) :
    ∀ (d q : Nat), q + d = p → st ≤ q → wY_depth_6 post (nI s) (nI p) y1 y2 y3 y4 y5 yn ym yh yc yd yw yl yk ye yp yq yr ys yM yL yY yA yR yP (d + 1) (nI (hk_dn l p st (q - st))) (nI q) := by
  have hl := g.2.1
  intro d
  induction d with
  | zero =>
    intro q hq hst
    have e : q = p := by omega
    subst e
    exact br_t (nI_le (Nat.le_refl _) (by omega)) k
  | succ d ih =>
    intro q hq hst
    have ql : q < l.length := by omega
    have hcq := (hk_gt_c g ql).1
    have hd := hk_dn_le l p st (q - st)
    have st1 : hk_dn l p st (q + 1 - st) = hk_dn l p st (q - st) + (if hk_c l q / 65536 = 4 ∧ p < hk_e l q then 1 else 0) := by
      rw [show q + 1 - st = (q - st) + 1 by omega]
      show hk_dn l p st (q - st) + (if hk_c l (st + (q - st)) / 65536 = 4 ∧ p < hk_e l (st + (q - st)) then 1 else 0) = _
      rw [show st + (q - st) = q by omega]
    have ihq := ih (q + 1) (by omega) (by omega)
    rw [st1] at ihq
    refine br_f (nI_ge (by omega) (by omega)) (br_f (nI_ge (b := 32) (by omega) (by omega)) ?_)
    refine ya_nd h hs ql (by omega) ⟨by decide, ?_⟩
    rw [hk_kd hcq]
    refine pk_eq (hk_c l q / 65536) 4 (fun e => ?_) (fun e => nm_r (nI_1 _) ?_)
    · obtain ⟨m, -, ha⟩ := hk_at_ex g.1 ql
      have he := hk_at_end ha
      have he2 := he.2.1.1
      refine ya_span h hs hl (fun c hc => (g.2.2 c hc).1) ha ?_
      rw [nI_add, show q + (hk_e l q - q) = hk_e l q by omega]
      refine pk_le (hk_e l q) p (fun z => nm_r (nI_1 _) ?_) (fun z => nm_r (nI_1 _) (nm_r (nI_1 _) ?_))
      · rw [if_neg (fun y => by omega)] at ihq; exact ihq
      · rw [if_pos ⟨e, z⟩] at ihq; exact ihq
    · rw [if_neg (fun y => e y.1)] at ihq; exact ihq
theorem ya_depth {post : Int32 → Prop} {s st p n : Nat} {l : List Nat} {y : Int32} (h : hk_hy yM yL s l) (hs : s < 110) (g : hk_gt n l) (hst : st ≤ p) (hp : p < l.length) (k : post (nI (hk_dp l st p))) (hy : y = nI p := by rfl) : wpY_depth post (y1, y2, y3, y4, y5, yn, ym, yh, yc, yd, yw, yl, yk, ye, yp, yq, yr, ys, yM, yL, yY, yA, yR, yP) (nI s) (nI st) y := by
  subst hy
  have q : wY_depth_6 post (nI s) (nI p) y1 y2 y3 y4 y5 yn ym yh yc yd yw yl yk ye yp yq yr ys yM yL yY yA yR yP (p - st + 1) (nI (hk_dn l p st (st - st))) (nI st) := ya_depth_l h hs g hp k (p - st) st (by omega) (Nat.le_refl _)
  rw [Nat.sub_self] at q
  exact ⟨_, q⟩
theorem ya_cmp_l {post : Int32 → Prop} {s o oa ob : Nat} {a b a' b' : List Nat} (ha : hk_hy yM yL s a) (hb : hk_hy yM yL o b) (hs : s < 110) (ho : o < 110) (la : a.length ≤ 32) (lb : b.length ≤ 32) (ca : ∀ c, c ∈ a' → c < 524288) (cb : ∀ c, c ∈ b' → c < 524288)
    (hla : oa + a'.length ≤ a.length) (hlb : ob + b'.length ≤ b.length) (ea : ∀ i, i < a'.length → hk_c a (oa + i) = hk_c a' i) (eb : ∀ i, i < b'.length → hk_c b (ob + i) = hk_c b' i) :
    ∀ (d i : Nat), i + d = 32 → i ≤ a'.length → i ≤ b'.length → (∀ r : Int32, (r < 0 ↔ hk_lt (a'.drop i) (b'.drop i) = true) → (r = 0 ↔ a'.drop i = b'.drop i) → post r) →
      wY_cmp_3 post (nI s) (nI oa) (nI a'.length) (nI o) (nI ob) (nI b'.length) y1 y2 y3 y4 y5 yn ym yh yc yd yw yl yk ye yp yq yr ys yM yL yY yA yR yP (d + 1) (nI i) := by
  have fin : ∀ i, i ≤ a'.length → i ≤ b'.length → i = a'.length ∨ i = b'.length → (∀ r : Int32, (r < 0 ↔ hk_lt (a'.drop i) (b'.drop i) = true) → (r = 0 ↔ a'.drop i = b'.drop i) → post r) → wY_cmp_23 post (nI a'.length) (nI b'.length) y1 y2 y3 y4 y5 yn ym yh yc yd yw yl yk ye yp yq yr ys yM yL yY yA yR yP := by
    intro i h1 h2 h3 k
    refine pk_le b'.length a'.length (fun z => pk_le a'.length b'.length (fun z2 => ?_) (fun z2 => ?_)) (fun z => ?_)
    · rw [List.drop_of_length_le (by omega), List.drop_of_length_le (by omega)] at k
      exact k 0 ⟨fun q => absurd q (by decide), fun q => absurd q (by decide)⟩ ⟨fun _ => rfl, fun _ => rfl⟩
    · rw [List.drop_of_length_le (l := b') (by omega), hk_c_drop (l := a') (p := i) (by omega)] at k
      exact k 1 ⟨fun q => absurd q (by decide), fun q => by rw [hk_lt_n] at q; cases q⟩ ⟨fun q => absurd q (by decide), fun q => by cases q⟩
    · rw [List.drop_of_length_le (l := a') (by omega), hk_c_drop (l := b') (p := i) (by omega)] at k
      exact k (-1) ⟨fun _ => hk_lt_e _ _, fun _ => by decide⟩ ⟨fun q => absurd q (by decide), fun q => by cases q⟩
  intro d
  induction d with
  | zero =>
    intro i hi h1 h2 k
    rw [List.drop_of_length_le (by omega), List.drop_of_length_le (by omega)] at k
    exact br_t (nI_le (a := 32) (by omega) (by omega)) (k 0 ⟨fun q => absurd q (by decide), fun q => absurd q (by decide)⟩ ⟨fun _ => rfl, fun _ => rfl⟩)
  | succ d ih =>
    intro i hi h1 h2 k
    refine br_f (nI_ge (b := 32) (by omega) (by omega)) ?_
    refine pk_le a'.length i (fun z => fin i h1 h2 (Or.inl (by omega)) k) (fun za => ?_)
    refine pk_lt i b'.length (fun zb => ?_) (fun z => fin i h1 h2 (Or.inr (by omega)) k)
    have xa := ca _ (hk_c_mem za)
    have xb := cb _ (hk_c_mem zb)
    refine ya_nd ha hs (p := oa + i) (by omega) (by omega) ?_ (nI_add _ _)
    refine ya_nd hb ho (p := ob + i) (by omega) (by omega) ?_ (nI_add _ _)
    rw [ea i za, eb i zb]
    rw [hk_c_drop za, hk_c_drop zb] at k
    generalize hk_c a' i = x at k xa
    generalize hk_c b' i = y at k xb
    refine pk_eq x y (fun e => nm_r (nI_1 _) ?_) (fun e => ?_)
    · subst e
      refine ih (i + 1) (by omega) za zb (fun r q1 q2 => k r ?_ ?_)
      · rw [hk_lt_c, if_neg (Nat.lt_irrefl x), if_neg (Nat.lt_irrefl x)]; exact q1
      · rw [q2]
        exact ⟨fun q => by rw [q], fun q => (List.cons.inj q).2⟩
    · refine pk_le y x (fun z => ?_) (fun z => ?_)
      · refine k 1 ⟨fun q => absurd q (by decide), fun q => ?_⟩ ⟨fun q => absurd q (by decide), fun q => absurd (List.cons.inj q).1 e⟩
        rw [hk_lt_c, if_neg (by omega), if_pos (by omega)] at q; cases q
      · refine k (-1) ⟨fun _ => ?_, fun _ => by decide⟩ ⟨fun q => absurd q (by decide), fun q => absurd (List.cons.inj q).1 e⟩
        rw [hk_lt_c, if_pos z]
/-- comparing two whole terms -/
theorem ya_cmp {post : Int32 → Prop} {s o n m : Nat} {a b : List Nat} {y z : Int32} (ha : hk_hy yM yL s a) (hb : hk_hy yM yL o b) (hs : s < 110) (ho : o < 110) (ga : hk_gt n a) (gb : hk_gt m b) (hy : y = nI a.length) (hz : z = nI b.length)
    (k : ∀ r : Int32, (r < 0 ↔ hk_lt a b = true) → (r = 0 ↔ a = b) → post r) : wpY_cmp post (y1, y2, y3, y4, y5, yn, ym, yh, yc, yd, yw, yl, yk, ye, yp, yq, yr, ys, yM, yL, yY, yA, yR, yP) (nI s) 0 y (nI o) 0 z := by
  subst hy hz
  exact ⟨_, ya_cmp_l (oa := 0) (ob := 0) ha hb hs ho ga.2.1 gb.2.1 (fun c hc => (ga.2.2 c hc).1) (fun c hc => (gb.2.2 c hc).1) (by omega) (by omega) (fun i _ => by rw [Nat.zero_add]) (fun i _ => by rw [Nat.zero_add]) 32 0 (by omega) (by omega) (by omega) k⟩
/-- comparing two pieces -/
theorem ya_cmpp {post : Int32 → Prop} {s o n m oa ob na nb : Nat} {a b : List Nat} {y z : Int32} (ha : hk_hy yM yL s a) (hb : hk_hy yM yL o b) (hs : s < 110) (ho : o < 110) (ga : hk_gt n a) (gb : hk_gt m b) (hna : oa + na ≤ a.length) (hnb : ob + nb ≤ b.length) (hy : y = nI na) (hz : z = nI nb)
    (k : ∀ r : Int32, (r = 0 ↔ (a.drop oa).take na = (b.drop ob).take nb) → post r) : wpY_cmp post (y1, y2, y3, y4, y5, yn, ym, yh, yc, yd, yw, yl, yk, ye, yp, yq, yr, ys, yM, yL, yY, yA, yR, yP) (nI s) (nI oa) y (nI o) (nI ob) z := by
  subst hy hz
  have la : ((a.drop oa).take na).length = na := by rw [List.length_take, List.length_drop]; omega
  have lb : ((b.drop ob).take nb).length = nb := by rw [List.length_take, List.length_drop]; omega
  have ea : ∀ i, i < na → hk_c a (oa + i) = hk_c ((a.drop oa).take na) i := fun i hi => (hk_c_sub hi).symm
  have eb : ∀ i, i < nb → hk_c b (ob + i) = hk_c ((b.drop ob).take nb) i := fun i hi => (hk_c_sub hi).symm
  have ca : ∀ c, c ∈ (a.drop oa).take na → c < 524288 := fun c hc => (ga.2.2 c (List.mem_of_mem_drop (List.mem_of_mem_take hc))).1
  have cb : ∀ c, c ∈ (b.drop ob).take nb → c < 524288 := fun c hc => (gb.2.2 c (List.mem_of_mem_drop (List.mem_of_mem_take hc))).1
  generalize (a.drop oa).take na = a' at k la ea ca
  generalize (b.drop ob).take nb = b' at k lb eb cb
  subst la lb
  exact ⟨_, ya_cmp_l ha hb hs ho ga.2.1 gb.2.1 ca cb hna hnb ea eb 32 0 (by omega) (by omega) (by omega) (fun r _ h2 => k r h2)⟩
theorem ya_has_l {post : Int32 → Prop} {s vc n : Nat} {l : List Nat} (h : hk_hy yM yL s l) (hs : s < 110) (g : hk_gt n l) (hvc : vc < 524288) :
    ∀ (d p : Nat), p + d = l.length → (vc ∈ l.drop p → post 1) → (¬ vc ∈ l.drop p → post 0) → wY_contains_2 post (nI s) (nI vc) y1 y2 y3 y4 y5 yn ym yh yc yd yw yl yk ye yp yq yr ys yM yL yY yA yR yP (d + 1) (nI p) := by
  have hl := g.2.1
  intro d
  induction d with
  | zero =>
    intro p hp k1 k0
    refine ⟨vp_in_nI hs (by omega), ?_⟩
    rw [hk_szy h hs hl]
    refine br_t (nI_le (by omega) (by omega)) (k0 ?_)
    rw [List.drop_of_length_le (by omega)]
    exact List.not_mem_nil
  | succ d ih =>
    intro p hp k1 k0
    have pp : p < l.length := by omega
    have xc := (hk_gt_c g pp).1
    rw [hk_c_drop pp] at k1 k0
    refine ⟨vp_in_nI hs (by omega), ?_⟩
    rw [hk_szy h hs hl]
    refine br_f (nI_ge (by omega) (by omega)) (br_f (nI_ge (b := 32) (by omega) (by omega)) ?_)
    refine ya_nd h hs pp (by omega) ?_
    refine pk_eq (hk_c l p) vc (fun e => k1 (by rw [e]; exact List.mem_cons_self)) (fun e => nm_r (nI_1 _) ?_)
    refine ih (p + 1) (by omega) (fun z => k1 (List.mem_cons_of_mem _ z)) (fun z => k0 (fun q => ?_))
    rcases List.mem_cons.mp q with q | q
    · exact e q.symm
    · exact z q
theorem ya_has {post : Int32 → Prop} {s vc n : Nat} {l : List Nat} (h : hk_hy yM yL s l) (hs : s < 110) (g : hk_gt n l) (hvc : vc < 524288) (k1 : vc ∈ l → post 1) (k0 : ¬ vc ∈ l → post 0) : wpY_contains post (y1, y2, y3, y4, y5, yn, ym, yh, yc, yd, yw, yl, yk, ye, yp, yq, yr, ys, yM, yL, yY, yA, yR, yP) (nI s) (nI vc) :=
  ⟨_, ya_has_l h hs g hvc l.length 0 (by omega) k1 k0⟩
theorem ya_lr_l {post : Int32 → Prop} {s n : Nat} {l : List Nat} (h : hk_hy yM yL s l) (hs : s < 110) (g : hk_gt n l) :
    ∀ (d p : Nat), p + d = l.length → post (hk_o (hk_lr l d p)) → wY_findRedex_2 post (nI s) y1 y2 y3 y4 y5 yn ym yh yc yd yw yl yk ye yp yq yr ys yM yL yY yA yR yP (d + 1) (nI p) := by
  have hl := g.2.1
  intro d
  induction d with
  | zero =>
    intro p hp k
    refine ⟨vp_in_nI hs (by omega), ?_⟩
    rw [hk_szy h hs hl, nI_1]
    exact br_t (nI_le (by omega) (by omega)) k
  | succ d ih =>
    intro p hp k
    have pp : p < l.length := by omega
    have xc := (hk_gt_c g pp).1
    refine ⟨vp_in_nI hs (by omega), ?_⟩
    rw [hk_szy h hs hl, nI_1]
    refine pk_le l.length (p + 1) (fun z => ?_) (fun z => ?_)
    · have d0 : d = 0 := by omega
      subst d0
      rw [hk_lr_f (fun y => by have := y.1; omega)] at k
      exact k
    · refine br_f (nI_ge (b := 31) (by omega) (by omega)) ?_
      refine ya_nd h hs pp (by omega) ⟨by decide, ?_⟩
      rw [hk_kd xc]
      refine pk_eq (hk_c l p / 65536) 3 (fun e => ?_) (fun e => nm_e ?_)
      · have xc' := (hk_gt_c g z).1
        refine ya_nd h hs z (by omega) ⟨by decide, ?_⟩
        rw [hk_kd xc']
        refine pk_eq (hk_c l (p + 1) / 65536) 4 (fun e' => ?_) (fun e' => nm_e ?_)
        · rw [hk_lr_t ⟨z, e, e'⟩] at k; exact k
        · rw [hk_lr_f (fun y => e' y.2.2)] at k
          exact ih (p + 1) (by omega) k
      · rw [hk_lr_f (fun y => e y.2.1)] at k
        exact ih (p + 1) (by omega) k
theorem ya_lr {post : Int32 → Prop} {s n : Nat} {l : List Nat} (h : hk_hy yM yL s l) (hs : s < 110) (g : hk_gt n l) (k : post (hk_o (hk_lr l l.length 0))) : wpY_findRedex post (y1, y2, y3, y4, y5, yn, ym, yh, yc, yd, yw, yl, yk, ye, yp, yq, yr, ys, yM, yL, yY, yA, yR, yP) (nI s) :=
  ⟨_, ya_lr_l h hs g l.length 0 (by omega) k⟩
/-- taking an equation apart -/
theorem ya_split {post : Int32 → SY → Prop} {s n : Nat} {l : List Nat} (h : hk_hy yM yL s l) (hs : s < 110) (g : hk_gt n l)
    (k1 : hk_ise l → post 1 (y1, y2, y3, y4, y5, yn, ym, yh, yc, yd, yw, yl, yk, nI (hk_c l 2 % 256), 3, nI (hk_e l 3 - 3), nI (hk_e l 3), nI (l.length - hk_e l 3), yM, yL, yY, yA, yR, yP)) (k0 : ¬ hk_ise l → post 0 (y1, y2, y3, y4, y5, yn, ym, yh, yc, yd, yw, yl, yk, ye, yp, yq, yr, ys, yM, yL, yY, yA, yR, yP)) : wpY_splitEq post (y1, y2, y3, y4, y5, yn, ym, yh, yc, yd, yw, yl, yk, ye, yp, yq, yr, ys, yM, yL, yY, yA, yR, yP) (nI s) := by
  have hl := g.2.1
  have l0 := hk_gt_pos g
  have c0 := (hk_gt_c g l0).1
  unfold wpY_splitEq
  dsimp only
  refine ya_nd (p := 0) h hs l0 (by omega) ⟨by decide, ?_⟩
  rw [hk_kd c0]
  refine pk_eq (hk_c l 0 / 65536) 3 (fun e0 => ?_) (fun e => k0 (fun q => e q.1))
  have a1 := hk_at_s (hk_at0 g.1)
  rw [hk_ar_3 e0] at a1
  have l1 := hk_at_lt a1
  have c1 : hk_c l 1 < 524288 := (hk_gt_c g l1).1
  refine ya_nd (p := 1) h hs l1 (by omega) ⟨by decide, ?_⟩
  rw [hk_kd c1]
  refine pk_eq (hk_c l 1 / 65536) 3 (fun e1 => ?_) (fun e => k0 (fun q => e q.2.1))
  have a2 := hk_at_s a1
  rw [hk_ar_3 e1] at a2
  have l2 := hk_at_lt a2
  have c2 : hk_c l 2 < 524288 := (hk_gt_c g l2).1
  refine ya_nd (p := 2) h hs l2 (by omega) ⟨by decide, ?_⟩
  rw [hk_kd c2]
  refine pk_eq (hk_c l 2 / 65536) 2 (fun e2 => ?_) (fun e => k0 (fun q => e q.2.2))
  have E : hk_ise l := ⟨e0, e1, e2⟩
  obtain ⟨t1, t2, t3, t4, t5, t6, t7⟩ := hk_ise_at g.1 E
  refine ya_nd (p := 2) h hs l2 (by omega) ⟨by decide, nm_r (hk_tyn c2) ?_⟩
  refine ya_span (p := 3) h hs hl (fun c hc => (g.2.2 c hc).1) t1 ?_
  refine nm_r (e' := nI (hk_e l 3)) (by rw [show (3 : Int32) = nI 3 from rfl, nI_add, show 3 + (hk_e l 3 - 3) = hk_e l 3 by omega]) ?_
  refine ya_span (p := hk_e l 3) h hs hl (fun c hc => (g.2.2 c hc).1) t2 ?_
  rw [t5]
  exact k1 E
/-! the table of types -/
theorem ya_find_l {post : Int32 → Prop} {T : hk_T} {d c : Nat} (hb : hk_tb T yA yR) (ht : hk_ti T) (hd : d < 48) (hc : c < 48) :
    ∀ (k i : Nat), 3 ≤ i → i + k = T.1 → post (hk_o (hk_fd T.2.1 T.2.2 d c k i)) → wY_findType_2 post (nI d) (nI c) y1 y2 y3 y4 y5 (nI T.1) ym yh yc yd yw yl yk ye yp yq yr ys yM yL yY yA yR yP (k + 1) (nI i) := by
  have hn := ht.2.1
  intro k
  induction k with
  | zero =>
    intro i h3 hi q
    exact br_t (nI_le (by omega) (by omega)) q
  | succ k ih =>
    intro i h3 hi q
    have w := ht.2.2.2.2.2.2 i h3 (by omega)
    have V : vp_in (nI i) 48 := vp_in_nI (by omega) (by omega)
    refine br_f (nI_ge (by omega) (by omega)) (br_f (nI_ge (b := 48) (by omega) (by omega)) ⟨V, ?_⟩)
    rw [nI_clamp (n := i) (by omega), (hb i h3 (by omega)).1, (hb i h3 (by omega)).2]
    refine pk_eq (T.2.1 i) d (fun e => ⟨V, pk_eq (T.2.2 i) c (fun e' => ?_) (fun e' => nm_r (nI_1 _) ?_)⟩) (fun e => nm_r (nI_1 _) ?_)
    · rw [hk_fd_t ⟨e, e'⟩] at q; exact q
    · rw [hk_fd_f (fun z => e' z.2)] at q
      exact ih (i + 1) (by omega) (by omega) q
    · rw [hk_fd_f (fun z => e z.1)] at q
      exact ih (i + 1) (by omega) (by omega) q
theorem ya_find {post : Int32 → Prop} {T : hk_T} {d c : Nat} (hb : hk_tb T yA yR) (ht : hk_ti T) (hd : d < 48) (hc : c < 48) (k : post (hk_o (hk_find T d c))) : wpY_findType post (y1, y2, y3, y4, y5, nI T.1, ym, yh, yc, yd, yw, yl, yk, ye, yp, yq, yr, ys, yM, yL, yY, yA, yR, yP) (nI d) (nI c) :=
  ⟨_, ya_find_l hb ht hd hc (T.1 - 3) 3 (by omega) (by have := ht.1; omega) k⟩
theorem hk_m1_nge : ¬ (0 : Int32) ≤ -1 := by decide
theorem ya_intern {post : Int32 → SY → Prop} {T : hk_T} {d c : Nat} (hb : hk_tb T yA yR) (ht : hk_ti T) (hd : d < T.1) (hc : c < T.1)
    (k : ∀ A' R' : Nat → Int32, hk_tb (hk_it T d c).2 A' R' → post (hk_o (hk_it T d c).1) (y1, y2, y3, y4, y5, nI (hk_it T d c).2.1, ym, yh, yc, yd, yw, yl, yk, ye, yp, yq, yr, ys, yM, yL, yY, A', R', yP)) : wpY_intern post (y1, y2, y3, y4, y5, nI T.1, ym, yh, yc, yd, yw, yl, yk, ye, yp, yq, yr, ys, yM, yL, yY, yA, yR, yP) (nI d) (nI c) := by
  have hn := ht.2.1
  refine ya_find hb ht (by omega) (by omega) ?_
  cases hf : hk_find T d c with
  | some j =>
    rw [hk_it_f hf] at k
    exact br_t (hk_o_ge (by have := hk_find_in hf (by have := ht.1; omega); omega)) (k yA yR hb)
  | none =>
    refine br_f hk_m1_nge ?_
    refine pk_lt T.1 48 (fun z => ?_) (fun z => ?_)
    · rw [hk_it_a hf (by omega)] at k
      have V : vp_in (nI T.1) 48 := vp_in_nI z (by omega)
      refine ⟨V, nm_r (e' := upd yA T.1 (nI d)) (by rw [nI_clamp (by omega)]) ⟨V, nm_r (e' := upd yR T.1 (nI c)) (by rw [nI_clamp (by omega)]) (nm_r (nI_1 _) ?_)⟩⟩
      rw [nI_pred]
      exact k (upd yA T.1 (nI d)) (upd yR T.1 (nI c)) (hk_tb_a hb)
    · rw [hk_it_z hf z] at k
      exact k yA yR hb
theorem ya_need {post : Int32 → Prop} {T : hk_T} {a : Nat} (hb : hk_tb T yA yR) (ht : hk_ti T) (ha : a < T.1) (k : post (nI (hk_nd T a))) : wpY_eqNeed post (y1, y2, y3, y4, y5, nI T.1, ym, yh, yc, yd, yw, yl, yk, ye, yp, yq, yr, ys, yM, yL, yY, yA, yR, yP) (nI a) := by
  have hn := ht.2.1
  have h5 := ht.1
  refine ya_find (c := 0) hb ht (by omega) (by omega) ?_
  cases hf : hk_find T a 0 with
  | none =>
    have e : hk_nd T a = 2 := by unfold hk_nd; rw [hf]
    rw [e] at k
    exact br_f hk_m1_nge k
  | some f =>
    have w := hk_find_in hf (by omega)
    refine br_t (hk_o_ge (by omega)) ?_
    refine ya_find (c := f) hb ht (by omega) (by omega) ?_
    cases hg : hk_find T a f with
    | none =>
      have e : hk_nd T a = 1 := by unfold hk_nd; rw [hf]; dsimp only; rw [hg]
      rw [e] at k
      exact br_f hk_m1_nge k
    | some j =>
      have e : hk_nd T a = 0 := by unfold hk_nd; rw [hf]; dsimp only; rw [hg]
      rw [e] at k
      exact br_t (hk_o_ge (by have := hk_find_in hg (by omega); omega)) k
theorem ya_internEq {post : Int32 → SY → Prop} {T : hk_T} {a : Nat} (hb : hk_tb T yA yR) (ht : hk_ti T) (ha : a < T.1) (hr : (hk_it T a 0).1 ≠ none)
    (k : ∀ A' R' : Nat → Int32, hk_tb (hk_ie T a).2 A' R' → post (hk_o (hk_ie T a).1) (y1, y2, y3, y4, y5, nI (hk_ie T a).2.1, ym, yh, yc, yd, yw, yl, yk, ye, yp, yq, yr, ys, yM, yL, yY, A', R', yP)) : wpY_internEq post (y1, y2, y3, y4, y5, nI T.1, ym, yh, yc, yd, yw, yl, yk, ye, yp, yq, yr, ys, yM, yL, yY, yA, yR, yP) (nI a) := by
  have h0 : 0 < T.1 := by have := ht.1; omega
  obtain ⟨i1, i2, i3, i4⟩ := hk_it_ok (d := a) (c := 0) ht ha h0
  unfold wpY_internEq
  dsimp only
  refine ya_intern (c := 0) hb ht ha h0 (fun A' R' hb' => ?_)
  cases hq : (hk_it T a 0).1 with
  | none => exact absurd hq hr
  | some f =>
    have hf := i4 f hq
    refine ya_intern (c := f) hb' i1 (by omega) hf.2 (fun A2 R2 hb2 => ?_)
    have e2 : hk_ie T a = hk_it (hk_it T a 0).2 a f := by rw [hk_ie, hq]; rfl
    rw [e2] at k
    exact k A2 R2 hb2
end
end
section
/-! the reference: what builds terms -/
section
variable {y1 y2 y3 y4 y5 yn ym yh yc yd yw yl yk ye yp yq yr ys : Int32} {yM yL yY yA yR yP : Nat → Int32}
theorem ya_begin {post : SY → Prop} {o : Nat} (ho : o < 110) (k : ∀ L : Nat → Int32, hk_hy yM L o [] → hk_fr (fun s => s = o) yM yL yM L → post (y1, y2, y3, y4, y5, yn, ym, yh, yc, yd, nI o, nI (min ([] : List Nat).length 33), yk, ye, yp, yq, yr, ys, yM, L, yY, yA, yR, yP)) : wpY_begin post (y1, y2, y3, y4, y5, yn, ym, yh, yc, yd, yw, yl, yk, ye, yp, yq, yr, ys, yM, yL, yY, yA, yR, yP) (nI o) := by
  refine ⟨vp_in_nI ho (by omega), nm_r (e' := upd yL o 0) (by rw [nI_clamp (by omega)]) ?_⟩
  exact k (upd yL o 0) hk_hy0 hk_fr_s
theorem ya_emit {post : SY → Prop} {o c : Nat} {l : List Nat} {y : Int32} (ho : o < 110) (h : hk_hy yM yL o l) (hl : l.length < 100000) (hy : y = nI c)
    (k : ∀ M L : Nat → Int32, hk_hy M L o (l ++ [c]) → hk_fr (fun s => s = o) yM yL M L → post (y1, y2, y3, y4, y5, yn, ym, yh, yc, yd, nI o, nI (min (l ++ [c]).length 33), yk, ye, yp, yq, yr, ys, M, L, yY, yA, yR, yP)) : wpY_emit post (y1, y2, y3, y4, y5, yn, ym, yh, yc, yd, nI o, nI (min l.length 33), yk, ye, yp, yq, yr, ys, yM, yL, yY, yA, yR, yP) y := by
  subst hy
  rw [hk_len1] at k
  have V : vp_in (nI o) 110 := vp_in_nI ho (by omega)
  have ec : (nI o).toNatClampNeg = o := nI_clamp (by omega)
  have go : ∀ M : Nat → Int32, hk_hy M (upd yL o (nI (min (l.length + 1) 33))) o (l ++ [c]) → hk_fr (fun s => s = o) yM yL M (upd yL o (nI (min (l.length + 1) 33))) → wY_emit_27 post y1 y2 y3 y4 y5 yn ym yh yc yd (nI o) (nI (min l.length 33)) yk ye yp yq yr ys M yL yY yA yR yP := by
    intro M h1 f1
    refine pk_le 33 (min l.length 33) (fun z => ⟨V, ?_⟩) (fun z => nm_r (nI_1 _) ⟨V, ?_⟩)
    · refine nm_r (e' := upd yL o (nI (min (l.length + 1) 33))) (by rw [ec, show min l.length 33 = min (l.length + 1) 33 by omega]) ?_
      rw [show min l.length 33 = min (l.length + 1) 33 by omega]
      exact k _ _ h1 f1
    · refine nm_r (e' := upd yL o (nI (min (l.length + 1) 33))) (by rw [ec, show min l.length 33 + 1 = min (l.length + 1) 33 by omega]) ?_
      rw [show min l.length 33 + 1 = min (l.length + 1) 33 by omega]
      exact k _ _ h1 f1
  refine pk_le 32 (min l.length 33) (fun z => go yM (hk_puty' h (by omega)) hk_fr_s) (fun z => ⟨?_, ?_⟩)
  · rw [show min l.length 33 = l.length by omega]; exact hk_vy ho (by omega)
  · refine nm_r (e' := upd yM (o * 32 + l.length) (nI c)) (by rw [show min l.length 33 = l.length by omega, hk_ad, nI_clamp (by omega)]) (go _ (hk_puty h) (hk_fr_p (by omega)))
theorem ya_part_l {post : SY → Prop} {o s st n : Nat} {src : List Nat} (ho : o < 110) (hs : s < 110) (hso : s ≠ o) (hn : st + n ≤ src.length) (hl : src.length ≤ 32) :
    ∀ (d i : Nat) (M L : Nat → Int32) (l : List Nat), i + d = n → hk_hy M L o l → hk_hy M L s src → l.length + d < 100000 →
      (∀ M' L' : Nat → Int32, hk_hy M' L' o (l ++ hk_fm (fun q => [hk_c src q]) (st + i) d) → hk_fr (fun s => s = o) M L M' L' → post (y1, y2, y3, y4, y5, yn, ym, yh, yc, yd, nI o, nI (min (l ++ hk_fm (fun q => [hk_c src q]) (st + i) d).length 33), yk, ye, yp, yq, yr, ys, M', L', yY, yA, yR, yP)) →
      wY_copyPart_3 post (nI s) (nI st) (nI n) (d + 1) (nI i) y1 y2 y3 y4 y5 yn ym yh yc yd (nI o) (nI (min l.length 33)) yk ye yp yq yr ys M L yY yA yR yP := by
  intro d
  induction d with
  | zero =>
    intro i M L l hi h hsrc hlen k
    have e : l ++ hk_fm (fun q => [hk_c src q]) (st + i) 0 = l := List.append_nil l
    rw [e] at k
    exact br_t (nI_le (by omega) (by omega)) (k M L h hk_fr_r)
  | succ d ih =>
    intro i M L l hi h hsrc hlen k
    rw [hk_fm_l, ← List.append_assoc] at k
    refine br_f (nI_ge (by omega) (by omega)) (br_f (nI_ge (b := 32) (by omega) (by omega)) ?_)
    refine ya_nd (p := st + i) hsrc hs (by omega) (by omega) ?_ (nI_add _ _)
    refine ya_emit (c := hk_c src (st + i)) ho h (by omega) rfl (fun M1 L1 h1 f1 => ?_)
    refine nm_r (nI_1 _) ?_
    exact ih (i + 1) M1 L1 (l ++ [hk_c src (st + i)]) (by omega) h1 (hk_fr_hy f1 hso hsrc) (by rw [hk_len1]; omega) (fun M2 L2 h2 f2 => k M2 L2 h2 (hk_fr_t f1 f2))
theorem ya_part {post : SY → Prop} {o s st n : Nat} {src l : List Nat} {y : Int32} (ho : o < 110) (hs : s < 110) (hso : s ≠ o) (hn : st + n ≤ src.length) (hl : src.length ≤ 32) (h : hk_hy yM yL o l) (hsrc : hk_hy yM yL s src) (hlen : l.length < 90000) (hy : y = nI n)
    (k : ∀ M L : Nat → Int32, hk_hy M L o (l ++ hk_fm (fun q => [hk_c src q]) st n) → hk_fr (fun s => s = o) yM yL M L → post (y1, y2, y3, y4, y5, yn, ym, yh, yc, yd, nI o, nI (min (l ++ hk_fm (fun q => [hk_c src q]) st n).length 33), yk, ye, yp, yq, yr, ys, M, L, yY, yA, yR, yP)) : wpY_copyPart post (y1, y2, y3, y4, y5, yn, ym, yh, yc, yd, nI o, nI (min l.length 33), yk, ye, yp, yq, yr, ys, yM, yL, yY, yA, yR, yP) (nI s) (nI st) y := by
  subst hy
  exact ⟨_, ya_part_l ho hs hso hn hl n 0 yM yL l (by omega) h hsrc (by omega) k⟩
theorem ya_all {post : SY → Prop} {o s : Nat} {src l : List Nat} {y : Int32} (ho : o < 110) (hs : s < 110) (hso : s ≠ o) (hl : src.length ≤ 32) (h : hk_hy yM yL o l) (hsrc : hk_hy yM yL s src) (hlen : l.length < 90000) (hy : y = nI src.length)
    (k : ∀ M L : Nat → Int32, hk_hy M L o (l ++ src) → hk_fr (fun s => s = o) yM yL M L → post (y1, y2, y3, y4, y5, yn, ym, yh, yc, yd, nI o, nI (min (l ++ src).length 33), yk, ye, yp, yq, yr, ys, M, L, yY, yA, yR, yP)) : wpY_copyPart post (y1, y2, y3, y4, y5, yn, ym, yh, yc, yd, nI o, nI (min l.length 33), yk, ye, yp, yq, yr, ys, yM, yL, yY, yA, yR, yP) (nI s) 0 y := by
  refine ya_part (st := 0) ho hs hso (by omega) hl h hsrc hlen hy ?_
  rw [hk_fm_all]
  exact k
theorem ya_head {post : SY → Prop} {o a : Nat} {y : Int32} (ho : o < 110) (h : hk_hy yM yL o []) (hy : y = nI a)
    (k : ∀ M L : Nat → Int32, hk_hy M L o [196608, 196608, 131072 + a] → hk_fr (fun s => s = o) yM yL M L → post (y1, y2, y3, y4, y5, yn, ym, yh, yc, yd, nI o, nI (min [196608, 196608, 131072 + a].length 33), yk, ye, yp, yq, yr, ys, M, L, yY, yA, yR, yP)) : wpY_emitEqHead post (y1, y2, y3, y4, y5, yn, ym, yh, yc, yd, nI o, nI (min ([] : List Nat).length 33), yk, ye, yp, yq, yr, ys, yM, yL, yY, yA, yR, yP) y := by
  subst hy
  refine ya_emit (c := 196608) (l := []) ho h (by decide) rfl (fun M1 L1 h1 f1 => ?_)
  refine ya_emit (c := 196608) (l := [196608]) ho h1 (by decide) rfl (fun M2 L2 h2 f2 => ?_)
  refine ya_emit (c := 131072 + a) (l := [196608, 196608]) ho h2 (by decide) (nI_add 131072 a) (fun M3 L3 h3 f3 => ?_)
  exact k M3 L3 h3 (hk_fr_t (hk_fr_t f1 f2) f3)
/-! abstraction, substitution, contraction -/
theorem ya_abs_l {post : SY → Prop} {o s st n vc m : Nat} {l : List Nat} (ho : o < 110) (hs : s < 110) (hso : s ≠ o) (g : hk_gt m l) (hn : st + n ≤ l.length) (hvc : vc < 524288) :
    ∀ (d i : Nat) (M L : Nat → Int32) (l0 : List Nat), i + d = n → hk_hy M L o l0 → hk_hy M L s l → l0.length + d < 100000 →
      (∀ M' L' : Nat → Int32, hk_hy M' L' o (l0 ++ hk_fm (fun q => [hk_ab1 l st vc q]) (st + i) d) → hk_fr (fun s => s = o) M L M' L' → post (y1, y2, y3, y4, y5, yn, ym, yh, yc, yd, nI o, nI (min (l0 ++ hk_fm (fun q => [hk_ab1 l st vc q]) (st + i) d).length 33), yk, ye, yp, yq, yr, ys, M', L', yY, yA, yR, yP)) →
      wY_absEmit_3 post (nI vc) (nI s) (nI st) (nI n) (d + 1) (nI i) y1 y2 y3 y4 y5 yn ym yh yc yd (nI o) (nI (min l0.length 33)) yk ye yp yq yr ys M L yY yA yR yP := by
  have hl := g.2.1
  intro d
  induction d with
  | zero =>
    intro i M L l0 hi h hsrc hlen k
    have e : l0 ++ hk_fm (fun q => [hk_ab1 l st vc q]) (st + i) 0 = l0 := List.append_nil l0
    rw [e] at k
    exact br_t (nI_le (by omega) (by omega)) (k M L h hk_fr_r)
  | succ d ih =>
    intro i M L l0 hi h hsrc hlen k
    have pl : st + i < l.length := by omega
    have xc := (hk_gt_c g pl).1
    rw [hk_fm_l, ← List.append_assoc] at k
    have go : ∀ (P : SY → Prop) (y : Int32), y = nI (hk_ab1 l st vc (st + i)) → (∀ M1 L1 : Nat → Int32, wY_absEmit_3 post (nI vc) (nI s) (nI st) (nI n) (d + 1) (nI (i + 1)) y1 y2 y3 y4 y5 yn ym yh yc yd (nI o) (nI (min (l0 ++ [hk_ab1 l st vc (st + i)]).length 33)) yk ye yp yq yr ys M1 L1 yY yA yR yP → P (y1, y2, y3, y4, y5, yn, ym, yh, yc, yd, nI o, nI (min (l0 ++ [hk_ab1 l st vc (st + i)]).length 33), yk, ye, yp, yq, yr, ys, M1, L1, yY, yA, yR, yP)) →
        wpY_emit P (y1, y2, y3, y4, y5, yn, ym, yh, yc, yd, nI o, nI (min l0.length 33), yk, ye, yp, yq, yr, ys, M, L, yY, yA, yR, yP) y := by
      intro P y hy hP
      exact ya_emit (c := hk_ab1 l st vc (st + i)) ho h (by omega) hy (fun M1 L1 h1 f1 => hP M1 L1 (ih (i + 1) M1 L1 (l0 ++ [hk_ab1 l st vc (st + i)]) (by omega) h1 (hk_fr_hy f1 hso hsrc) (by rw [hk_len1]; omega) (fun M2 L2 h2 f2 => k M2 L2 h2 (hk_fr_t f1 f2))))
    refine br_f (nI_ge (by omega) (by omega)) (br_f (nI_ge (b := 32) (by omega) (by omega)) ?_)
    refine ya_nd (p := st + i) hsrc hs pl (by omega) ?_ (nI_add _ _)
    refine pk_eq (hk_c l (st + i)) vc (fun e => ?_) (fun e => ?_)
    · refine ya_depth (st := st) (p := st + i) hsrc hs g (by omega) pl ⟨by decide, ?_⟩ (nI_add _ _)
      refine go _ _ ?_ (fun M1 L1 q => nm_r (nI_1 _) q)
      unfold hk_ab1
      rw [if_pos e, hk_tyn hvc, show (256 : Int32) = nI 256 from rfl, show (327680 : Int32) = nI 327680 from rfl, pk_mul, nI_add, nI_add]
    · refine go _ _ ?_ (fun M1 L1 q => nm_r (nI_1 _) q)
      unfold hk_ab1
      rw [if_neg e]
theorem ya_abs {post : SY → Prop} {o s st n vc m : Nat} {l l0 : List Nat} {y : Int32} (ho : o < 110) (hs : s < 110) (hso : s ≠ o) (g : hk_gt m l) (hn : st + n ≤ l.length) (hvc : vc < 524288) (h : hk_hy yM yL o l0) (hsrc : hk_hy yM yL s l) (hlen : l0.length < 90000) (hy : y = nI n)
    (k : ∀ M L : Nat → Int32, hk_hy M L o (l0 ++ hk_fm (fun q => [hk_ab1 l st vc q]) st n) → hk_fr (fun s => s = o) yM yL M L → post (y1, y2, y3, y4, y5, yn, ym, yh, yc, yd, nI o, nI (min (l0 ++ hk_fm (fun q => [hk_ab1 l st vc q]) st n).length 33), yk, ye, yp, yq, yr, ys, M, L, yY, yA, yR, yP)) : wpY_absEmit post (y1, y2, y3, y4, y5, yn, ym, yh, yc, yd, nI o, nI (min l0.length 33), yk, ye, yp, yq, yr, ys, yM, yL, yY, yA, yR, yP) (nI vc) (nI s) (nI st) y := by
  subst hy
  have hl := g.2.1
  exact ⟨_, ya_abs_l ho hs hso g hn hvc n 0 yM yL l0 (by omega) h hsrc (by omega) k⟩
theorem ya_sub_l {post : SY → Prop} {o s t vc m : Nat} {l u : List Nat} (ho : o < 110) (hs : s < 110) (ht : t < 110) (hso : s ≠ o) (hto : t ≠ o) (g : hk_gt m l) (gu : hk_gt m u) (hvc : vc < 524288) :
    ∀ (d p : Nat) (M L : Nat → Int32) (l0 : List Nat), p + d = l.length → hk_hy M L o l0 → hk_hy M L s l → hk_hy M L t u → l0.length + d * 32 < 80000 →
      (∀ M' L' : Nat → Int32, hk_hy M' L' o (l0 ++ hk_fm (fun q => if hk_c l q = vc then u else [hk_c l q]) p d) → hk_fr (fun s => s = o) M L M' L' → post (y1, y2, y3, y4, y5, yn, ym, yh, yc, yd, nI o, nI (min (l0 ++ hk_fm (fun q => if hk_c l q = vc then u else [hk_c l q]) p d).length 33), yk, ye, yp, yq, yr, ys, M', L', yY, yA, yR, yP)) →
      wY_substEmit_3 post (nI s) (nI vc) (nI t) (d + 1) (nI p) y1 y2 y3 y4 y5 yn ym yh yc yd (nI o) (nI (min l0.length 33)) yk ye yp yq yr ys M L yY yA yR yP := by
  have hl := g.2.1
  have hul := gu.2.1
  intro d
  induction d with
  | zero =>
    intro p M L l0 hp h hsrc hu hlen k
    have e : l0 ++ hk_fm (fun q => if hk_c l q = vc then u else [hk_c l q]) p 0 = l0 := List.append_nil l0
    rw [e] at k
    refine ⟨vp_in_nI hs (by omega), ?_⟩
    rw [hk_szy hsrc hs hl]
    exact br_t (nI_le (by omega) (by omega)) (k M L h hk_fr_r)
  | succ d ih =>
    intro p M L l0 hp h hsrc hu hlen k
    have pl : p < l.length := by omega
    have xc := (hk_gt_c g pl).1
    rw [hk_fm_l, ← List.append_assoc] at k
    refine ⟨vp_in_nI hs (by omega), ?_⟩
    rw [hk_szy hsrc hs hl]
    refine br_f (nI_ge (by omega) (by omega)) (br_f (nI_ge (b := 32) (by omega) (by omega)) ?_)
    refine ya_nd hsrc hs pl (by omega) ?_
    refine pk_eq (hk_c l p) vc (fun e => ⟨vp_in_nI ht (by omega), ?_⟩) (fun e => ?_)
    · rw [if_pos e] at k
      refine ya_all ho ht hto hul h hu (by omega) (hk_szy hu ht hul) (fun M1 L1 h1 f1 => ?_)
      refine nm_r (nI_1 _) ?_
      exact ih (p + 1) M1 L1 (l0 ++ u) (by omega) h1 (hk_fr_hy f1 hso hsrc) (hk_fr_hy f1 hto hu) (by rw [List.length_append]; omega) (fun M2 L2 h2 f2 => k M2 L2 h2 (hk_fr_t f1 f2))
    · rw [if_neg e] at k
      refine ya_emit (c := hk_c l p) ho h (by omega) rfl (fun M1 L1 h1 f1 => ?_)
      refine nm_r (nI_1 _) ?_
      exact ih (p + 1) M1 L1 (l0 ++ [hk_c l p]) (by omega) h1 (hk_fr_hy f1 hso hsrc) (hk_fr_hy f1 hto hu) (by rw [hk_len1]; omega) (fun M2 L2 h2 f2 => k M2 L2 h2 (hk_fr_t f1 f2))
theorem ya_sub {post : SY → Prop} {o s t vc m : Nat} {l u : List Nat} (ho : o < 110) (hs : s < 110) (ht : t < 110) (hso : s ≠ o) (hto : t ≠ o) (g : hk_gt m l) (gu : hk_gt m u) (hvc : vc < 524288) (h : hk_hy yM yL o []) (hsrc : hk_hy yM yL s l) (hu : hk_hy yM yL t u)
    (k : ∀ M L : Nat → Int32, hk_hy M L o (hk_sb l vc u) → hk_fr (fun s => s = o) yM yL M L → post (y1, y2, y3, y4, y5, yn, ym, yh, yc, yd, nI o, nI (min (hk_sb l vc u).length 33), yk, ye, yp, yq, yr, ys, M, L, yY, yA, yR, yP)) : wpY_substEmit post (y1, y2, y3, y4, y5, yn, ym, yh, yc, yd, nI o, nI (min ([] : List Nat).length 33), yk, ye, yp, yq, yr, ys, yM, yL, yY, yA, yR, yP) (nI s) (nI vc) (nI t) := by
  have hl := g.2.1
  exact ⟨_, ya_sub_l ho hs ht hso hto g gu hvc l.length 0 yM yL [] (by omega) h hsrc hu (by show 0 + l.length * 32 < 80000; omega) k⟩
theorem ya_lift_l {post : SY → Prop} {o s st n kk m : Nat} {l : List Nat} (ho : o < 110) (hs : s < 110) (hso : s ≠ o) (g : hk_gt m l) (hn : st + n ≤ l.length) (hk : kk ≤ 32) :
    ∀ (d i : Nat) (M L : Nat → Int32) (l0 : List Nat), i + d = n → hk_hy M L o l0 → hk_hy M L s l → l0.length + d < 100000 →
      (∀ M' L' : Nat → Int32, hk_hy M' L' o (l0 ++ hk_fm (fun q => [hk_lf l st kk q]) (st + i) d) → hk_fr (fun s => s = o) M L M' L' → post (y1, y2, y3, y4, y5, yn, ym, yh, yc, yd, nI o, nI (min (l0 ++ hk_fm (fun q => [hk_lf l st kk q]) (st + i) d).length 33), yk, ye, yp, yq, yr, ys, M', L', yY, yA, yR, yP)) →
      wY_shiftEmit_3 post (nI s) (nI st) (nI n) (nI kk) (d + 1) (nI i) y1 y2 y3 y4 y5 yn ym yh yc yd (nI o) (nI (min l0.length 33)) yk ye yp yq yr ys M L yY yA yR yP := by
  have hl := g.2.1
  intro d
  induction d with
  | zero =>
    intro i M L l0 hi h hsrc hlen k
    have e : l0 ++ hk_fm (fun q => [hk_lf l st kk q]) (st + i) 0 = l0 := List.append_nil l0
    rw [e] at k
    exact br_t (nI_le (by omega) (by omega)) (k M L h hk_fr_r)
  | succ d ih =>
    intro i M L l0 hi h hsrc hlen k
    have pl : st + i < l.length := by omega
    have xc := (hk_gt_c g pl).1
    have hd := hk_dp_le l st (st + i)
    rw [hk_fm_l, ← List.append_assoc] at k
    have go : ∀ y : Int32, y = nI (hk_lf l st kk (st + i)) → wY_shiftEmit_74 post (wY_shiftEmit_3 post (nI s) (nI st) (nI n) (nI kk) (d + 1)) (nI s) (nI st) (nI n) (nI kk) (nI i) y y1 y2 y3 y4 y5 yn ym yh yc yd (nI o) (nI (min l0.length 33)) yk ye yp yq yr ys M L yY yA yR yP := by
      intro y hy
      refine ya_emit (c := hk_lf l st kk (st + i)) ho h (by omega) hy (fun M1 L1 h1 f1 => ?_)
      refine nm_r (nI_1 _) ?_
      exact ih (i + 1) M1 L1 (l0 ++ [hk_lf l st kk (st + i)]) (by omega) h1 (hk_fr_hy f1 hso hsrc) (by rw [hk_len1]; omega) (fun M2 L2 h2 f2 => k M2 L2 h2 (hk_fr_t f1 f2))
    refine br_f (nI_ge (by omega) (by omega)) (br_f (nI_ge (b := 32) (by omega) (by omega)) ?_)
    refine ya_nd (p := st + i) hsrc hs pl (by omega) ⟨by decide, ?_⟩ (nI_add _ _)
    rw [hk_kd xc]
    refine pk_eq (hk_c l (st + i) / 65536) 5 (fun e => ?_) (fun e => go _ ?_)
    · refine ya_depth (st := st) (p := st + i) hsrc hs g (by omega) pl ⟨by decide, by decide, ?_⟩ (nI_add _ _)
      rw [hk_ixn xc]
      refine pk_lt (hk_c l (st + i) / 256 % 256) (hk_dp l st (st + i)) (fun z => go _ ?_) (fun z => nm_e (go _ ?_))
      · unfold hk_lf
        rw [if_neg (fun y => by omega)]
      · unfold hk_lf
        rw [if_pos ⟨e, z⟩, show (256 : Int32) = nI 256 from rfl, pk_mul, nI_add]
    · unfold hk_lf
      rw [if_neg (fun y => e y.1)]
theorem ya_con_l {post : SY → Prop} {o s b a r m : Nat} {l : List Nat} (ho : o < 110) (hs : s < 110) (hso : s ≠ o) (g : hk_gt m l) (hb : b ≤ a) (ha : a ≤ r) (hr : r ≤ l.length) :
    ∀ (d i : Nat) (M L : Nat → Int32) (l0 : List Nat), b + i + d = a → hk_hy M L o l0 → hk_hy M L s l → l0.length + d * 32 < 80000 →
      (∀ M' L' : Nat → Int32, hk_hy M' L' o (l0 ++ hk_fm (hk_cb l b a r) (b + i) d ++ hk_fm (fun q => [hk_c l q]) r (l.length - r)) → hk_fr (fun s => s = o) M L M' L' → post (y1, y2, y3, y4, y5, yn, ym, yh, yc, yd, nI o, nI (min (l0 ++ hk_fm (hk_cb l b a r) (b + i) d ++ hk_fm (fun q => [hk_c l q]) r (l.length - r)).length 33), yk, ye, yp, yq, yr, ys, M', L', yY, yA, yR, yP)) →
      wY_contractEmit_47 post (nI s) (nI l.length) (nI b) (nI (a - b)) (nI a) (nI (r - a)) (nI r) (d + 1) (nI i) y1 y2 y3 y4 y5 yn ym yh yc yd (nI o) (nI (min l0.length 33)) yk ye yp yq yr ys M L yY yA yR yP := by
  have hl := g.2.1
  intro d
  induction d with
  | zero =>
    intro i M L l0 hi h hsrc hlen k
    have e : l0 ++ hk_fm (hk_cb l b a r) (b + i) 0 = l0 := List.append_nil l0
    rw [e] at k
    refine br_t (nI_le (by omega) (by omega)) ?_
    exact ya_part (n := l.length - r) ho hs hso (by omega) hl h hsrc (by omega) (pk_sub hr) k
  | succ d ih =>
    intro i M L l0 hi h hsrc hlen k
    have pl : b + i < l.length := by omega
    have xc := (hk_gt_c g pl).1
    have hd := hk_dp_le l b (b + i)
    rw [hk_fm_l, ← List.append_assoc] at k
    have next : ∀ (M1 L1 : Nat → Int32) (w : List Nat), hk_cb l b a r (b + i) = w → w.length ≤ 32 → hk_hy M1 L1 o (l0 ++ w) → hk_fr (fun s => s = o) M L M1 L1 → wY_contractEmit_47 post (nI s) (nI l.length) (nI b) (nI (a - b)) (nI a) (nI (r - a)) (nI r) (d + 1) (nI (i + 1)) y1 y2 y3 y4 y5 yn ym yh yc yd (nI o) (nI (min (l0 ++ w).length 33)) yk ye yp yq yr ys M1 L1 yY yA yR yP := by
      intro M1 L1 w ew hw h1 f1
      rw [ew] at k
      exact ih (i + 1) M1 L1 (l0 ++ w) (by omega) h1 (hk_fr_hy f1 hso hsrc) (by rw [List.length_append]; omega) (fun M2 L2 h2 f2 => k M2 L2 h2 (hk_fr_t f1 f2))
    have one : ∀ (P : SY → Prop) (y : Int32) (c : Nat), (∀ M1 L1 : Nat → Int32, wY_contractEmit_47 post (nI s) (nI l.length) (nI b) (nI (a - b)) (nI a) (nI (r - a)) (nI r) (d + 1) (nI (i + 1)) y1 y2 y3 y4 y5 yn ym yh yc yd (nI o) (nI (min (l0 ++ [c]).length 33)) yk ye yp yq yr ys M1 L1 yY yA yR yP → P (y1, y2, y3, y4, y5, yn, ym, yh, yc, yd, nI o, nI (min (l0 ++ [c]).length 33), yk, ye, yp, yq, yr, ys, M1, L1, yY, yA, yR, yP)) → y = nI c → hk_cb l b a r (b + i) = [c] →
        wpY_emit P (y1, y2, y3, y4, y5, yn, ym, yh, yc, yd, nI o, nI (min l0.length 33), yk, ye, yp, yq, yr, ys, M, L, yY, yA, yR, yP) y := by
      intro P y c hP hy ew
      exact ya_emit (c := c) ho h (by omega) hy (fun M1 L1 h1 f1 => hP M1 L1 (next M1 L1 [c] ew (by show 1 ≤ 32; decide) h1 f1))
    refine br_f (nI_ge (by omega) (by omega)) (br_f (nI_ge (b := 32) (by omega) (by omega)) ?_)
    refine ya_nd (p := b + i) hsrc hs pl (by omega) ⟨by decide, ?_⟩ (nI_add _ _)
    rw [hk_kd xc]
    refine pk_eq (hk_c l (b + i) / 65536) 5 (fun e => ?_) (fun e => ?_)
    · refine ya_depth (st := b) (p := b + i) hsrc hs g (by omega) pl ⟨by decide, by decide, nm_r (hk_ixn xc) ?_⟩ (nI_add _ _)
      refine pk_le (hk_dp l b (b + i)) (hk_c l (b + i) / 256 % 256) (fun z => ?_) (fun z => ?_)
      · refine pk_eq (hk_c l (b + i) / 256 % 256) (hk_dp l b (b + i)) (fun e2 => ⟨r - a + 1, ?_⟩) (fun e2 => ?_)
        · refine ya_lift_l ho hs hso g (by omega) (by omega) (r - a) 0 M L l0 (by omega) h hsrc (by omega) (fun M1 L1 h1 f1 => ?_)
          refine nm_r (nI_1 _) (next M1 L1 _ ?_ ?_ h1 f1)
          · unfold hk_cb; rw [if_pos ⟨e, e2⟩]; rfl
          · rw [hk_fm_len]; omega
        · exact one _ _ (hk_c l (b + i) - 256) (fun M1 L1 q => nm_r (nI_1 _) q) (pk_sub (b := 256) (by omega)) (by unfold hk_cb; rw [if_neg (fun y => e2 y.2), if_pos ⟨e, by omega⟩])
      · exact one _ _ _ (fun M1 L1 q => nm_r (nI_1 _) q) rfl (by unfold hk_cb; rw [if_neg (fun y => by omega), if_neg (fun y => by omega)])
    · exact one _ _ _ (fun M1 L1 q => nm_r (nI_1 _) q) rfl (by unfold hk_cb; rw [if_neg (fun y => e y.1), if_neg (fun y => e y.1)])
theorem ya_contract {post : SY → Prop} {o s r m : Nat} {l : List Nat} {y : Int32} (ho : o < 110) (hs : s < 110) (hso : s ≠ o) (g : hk_gt m l) (hr : hk_rx l r) (h : hk_hy yM yL o []) (hsrc : hk_hy yM yL s l) (hy : y = nI l.length)
    (k : ∀ M L : Nat → Int32, hk_hy M L o (hk_con l r) → hk_fr (fun s => s = o) yM yL M L → post (y1, y2, y3, y4, y5, yn, ym, yh, yc, yd, nI o, nI (min (hk_con l r).length 33), yk, ye, yp, yq, yr, ys, M, L, yY, yA, yR, yP)) : wpY_contractEmit post (y1, y2, y3, y4, y5, yn, ym, yh, yc, yd, nI o, nI (min ([] : List Nat).length 33), yk, ye, yp, yq, yr, ys, yM, yL, yY, yA, yR, yP) (nI s) (nI r) y := by
  subst hy
  have hl := g.2.1
  have hc : ∀ c, c ∈ l → c < 524288 := fun c hc => (g.2.2 c hc).1
  obtain ⟨n, t1, t2, t3, t4, o1, o2, s1, s2⟩ := hk_rx_at g.1 hr
  have w2 := hk_at_lt t2
  have w3 := hk_at_lt t3
  have w4 := t4.1
  have e2 : nI r + 2 = nI (r + 2) := nI_add r 2
  refine nm_r e2 ?_
  refine ya_span hsrc hs hl hc t2 ?_
  refine nm_r (e' := nI (hk_e l (r + 2))) (by rw [nI_add, show r + 2 + (hk_e l (r + 2) - (r + 2)) = hk_e l (r + 2) by omega]) ?_
  refine ya_span hsrc hs hl hc t3 ?_
  refine nm_r (e' := nI (hk_e l (hk_e l (r + 2)))) (by rw [nI_add, show hk_e l (r + 2) + (hk_e l (hk_e l (r + 2)) - hk_e l (r + 2)) = hk_e l (hk_e l (r + 2)) by omega]) ?_
  refine ya_part (st := 0) (n := r) ho hs hso (by omega) hl h hsrc (by decide) rfl (fun M1 L1 h1 f1 => ⟨hk_e l (r + 2) - (r + 2) + 1, ?_⟩)
  rw [List.nil_append] at h1 ⊢
  refine ya_con_l (b := r + 2) (a := hk_e l (r + 2)) (r := hk_e l (hk_e l (r + 2))) ho hs hso g (by omega) (by omega) w4 (hk_e l (r + 2) - (r + 2)) 0 M1 L1 _ (by omega) h1 (hk_fr_hy f1 hso hsrc) (by rw [hk_fm_len]; omega) (fun M2 L2 h2 f2 => ?_)
  exact k M2 L2 h2 (hk_fr_t f1 f2)
end
end
section
/-! the reference: hypotheses -/
section
variable {y1 y2 y3 y4 y5 yn ym yh yc yd yw yl yk ye yp yq yr ys : Int32} {yM yL yY yA yR yP : Nat → Int32}
theorem ya_hs_fr {W : Nat → Prop} {K S K' S' : Nat → Int32} {f : Nat} {H : List (List Nat)} (fr : hk_fr W K S K' S') (h : hk_hs (hk_hy K S) f H) (hW : ∀ i, i < H.length → ¬ W (f + i)) : hk_hs (hk_hy K' S') f H :=
  fun i hi => hk_fr_hy fr (hW i hi) (h i hi)
def ya_exc (K S : Nat → Int32) (x2 x3 x4 : Int32) (n : Nat) (wf : List Nat → Bool) : Prop :=
  (x2 = -1 ∧ ∀ t, wf t = true) ∨ ∃ (e : Nat) (l : List Nat), x2 = nI e ∧ x3 = 0 ∧ x4 = nI l.length ∧ e < 96 ∧ hk_gt n l ∧ hk_hy K S e l ∧ ∀ t, wf t = true ↔ t ≠ l
theorem ya_exc_fr {K S K' S' : Nat → Int32} {x2 x3 x4 : Int32} {n : Nat} {wf : List Nat → Bool} (fr : hk_fr (fun s => 100 ≤ s ∧ s < 108) K S K' S') (h : ya_exc K S x2 x3 x4 n wf) : ya_exc K' S' x2 x3 x4 n wf := by
  rcases h with h | ⟨e, l, h1, h2, h3, h4, h5, h6, h7⟩
  · exact Or.inl h
  · exact Or.inr ⟨e, l, h1, h2, h3, h4, h5, hk_fr_hy fr (by omega) h6, h7⟩
theorem ya_add_l {post : SY → Prop} {a n : Nat} {A : List (List Nat)} {x2 x3 x4 : Int32} {wf : List Nat → Bool} (ha : a < 16) (lA : A.length ≤ 3) (gA : ∀ y, y ∈ A → hk_gt n y) (hPa : yP a = nI A.length) :
    ∀ (d i : Nat) (M L : Nat → Int32) (w wl : Int32) (C : List (List Nat)), i + d = A.length → hk_hs (hk_hy M L) (32 + a * 4 + 1) A → ya_exc M L x2 x3 x4 n wf → hk_hs (hk_hy M L) 100 C → C.length + d ≤ 6 →
      (∀ (M' L' : Nat → Int32) (w' wl' : Int32), hk_hs (hk_hy M' L') 100 (C ++ (A.drop i).filter wf) → hk_fr (fun s => 100 ≤ s ∧ s < 108) M L M' L' → post (y1, y2, y3, y4, y5, yn, ym, yh, yc, yd, w', wl', nI (C ++ (A.drop i).filter wf).length, ye, yp, yq, yr, ys, M', L', yY, yA, yR, yP)) →
      wY_addHyps_3 post (nI a) x2 x3 x4 (d + 1) (nI (i + 1)) y1 y2 y3 y4 y5 yn ym yh yc yd w wl (nI C.length) ye yp yq yr ys M L yY yA yR yP := by
  intro d
  induction d with
  | zero =>
    intro i M L w wl C hi hA hx hC hl k
    rw [List.drop_of_length_le (by omega)] at k
    have e : C ++ ([] : List (List Nat)).filter wf = C := List.append_nil C
    rw [e] at k
    refine ⟨vp_in_nI ha (by omega), ?_⟩
    rw [nI_clamp (by omega), hPa]
    exact br_t (nI_lt (by omega) (by omega)) (k M L w wl hC hk_fr_r)
  | succ d ih =>
    intro i M L w wl C hi hA hx hC hl k
    have il : i < A.length := by omega
    have hi1 := hA i il
    have gi := gA _ (hk_ix_mem il)
    rw [hk_gd_drop il] at k
    refine ⟨vp_in_nI ha (by omega), ?_⟩
    rw [nI_clamp (by omega), hPa]
    refine br_f (nI_nlt (by omega) (by omega)) (br_f (nI_nlt (b := i + 1) (a := 3) (by omega) (by omega)) ?_)
    refine ya_slot a (i + 1) ?_
    rw [show 32 + a * 4 + (i + 1) = 32 + a * 4 + 1 + i by omega]
    have yes : wf (A.getD i []) = true → wY_addHyps_68 post (wY_addHyps_3 post (nI a) x2 x3 x4 (d + 1)) (nI a) x2 x3 x4 (nI (i + 1)) (nI (32 + a * 4 + 1 + i)) 0 y1 y2 y3 y4 y5 yn ym yh yc yd w wl (nI C.length) ye yp yq yr ys M L yY yA yR yP := by
      intro hw
      rw [List.filter_cons_of_pos hw, show A.getD i [] :: (A.drop (i + 1)).filter wf = [A.getD i []] ++ (A.drop (i + 1)).filter wf from rfl, ← List.append_assoc] at k
      refine br_t rfl (br_f (nI_ge (b := 8) (by omega) (by omega)) ?_)
      rw [show (100 : Int32) = nI 100 from rfl, nI_add]
      refine ya_begin (by omega) (fun L1 h1 f1 => ⟨vp_in_nI (by omega) (by omega), ?_⟩)
      have src1 := hk_fr_hy f1 (s := 32 + a * 4 + 1 + i) (by omega) hi1
      refine ya_all (by omega) (by omega) (by omega) gi.2.1 h1 src1 (by decide) (hk_szy src1 (by omega) gi.2.1) (fun M2 L2 h2 f2 => ?_)
      have f12 := hk_fr_w (V := fun s => 100 ≤ s ∧ s < 108) (hk_fr_t f1 f2) (fun s e => by have e : s = 100 + C.length := e; omega)
      have f12' := hk_fr_t f1 f2
      refine nm_r (nI_1 _) (nm_r (nI_1 _) ?_)
      have el : C.length + 1 = (C ++ [A.getD i []]).length := by rw [List.length_append]; rfl
      rw [el]
      refine ih (i + 1) M2 L2 _ _ (C ++ [A.getD i []]) (by omega) (ya_hs_fr f12 hA (fun j hj => by omega)) (ya_exc_fr f12 hx) ?_ (by omega) (fun M3 L3 w3 wl3 h3 f3 => k M3 L3 w3 wl3 h3 (hk_fr_t f12 f3))
      refine hk_hs_app (ya_hs_fr f12' hC (fun j hj => ?_)) h2
      intro e
      have e : 100 + j = 100 + C.length := e
      omega
    rcases hx with ⟨rfl, hw⟩ | ⟨e, l, rfl, rfl, rfl, he, ge, hle, hwf⟩
    · exact br_t (by decide) (yes (hw _))
    · refine br_f (nI_pos (by omega)) ⟨vp_in_nI (by omega) (by omega), ?_⟩
      refine ya_cmp hi1 hle (by omega) (by omega) gi ge (hk_szy hi1 (by omega) gi.2.1) rfl (fun r h1 h2 => ?_)
      refine br_c (fun q => ?_) (fun q => yes ((hwf _).mpr (fun z => q (h2.mpr z))))
      have nw : ¬ wf (A.getD i []) = true := fun z => (hwf _).mp z (h2.mp q)
      rw [List.filter_cons_of_neg nw] at k
      refine br_f (by decide) (nm_r (nI_1 _) ?_)
      exact ih (i + 1) M L w wl C (by omega) hA (Or.inr ⟨e, l, rfl, rfl, rfl, he, ge, hle, hwf⟩) hC (by omega) k
theorem ya_add {post : SY → Prop} {a n : Nat} {A C : List (List Nat)} {x2 x3 x4 : Int32} {wf : List Nat → Bool} (ha : a < 16) (lA : A.length ≤ 3) (gA : ∀ y, y ∈ A → hk_gt n y) (hPa : yP a = nI A.length)
    (hA : hk_hs (hk_hy yM yL) (32 + a * 4 + 1) A) (hx : ya_exc yM yL x2 x3 x4 n wf) (hC : hk_hs (hk_hy yM yL) 100 C) (hl : C.length ≤ 3)
    (k : ∀ (M' L' : Nat → Int32) (w' wl' : Int32), hk_hs (hk_hy M' L') 100 (C ++ A.filter wf) → hk_fr (fun s => 100 ≤ s ∧ s < 108) yM yL M' L' → post (y1, y2, y3, y4, y5, yn, ym, yh, yc, yd, w', wl', nI (C ++ A.filter wf).length, ye, yp, yq, yr, ys, M', L', yY, yA, yR, yP)) : wpY_addHyps post (y1, y2, y3, y4, y5, yn, ym, yh, yc, yd, yw, yl, nI C.length, ye, yp, yq, yr, ys, yM, yL, yY, yA, yR, yP) (nI a) x2 x3 x4 :=
  ⟨_, ya_add_l ha lA gA hPa A.length 0 yM yL yw yl C (by omega) hA hx hC (by omega) (by rw [List.drop_zero]; exact k)⟩
/-! merging -/
theorem ya_mg26 {post : Int32 → SY → Prop} {J : Int32 → Int32 → Int32 → Int32 → Int32 → Int32 → Int32 → Int32 → Int32 → Int32 → Int32 → Int32 → Int32 → Int32 → Int32 → Int32 → Int32 → Int32 → Int32 → Int32 → Int32 → (Nat → Int32) → (Nat → Int32) → (Nat → Int32) → (Nat → Int32) → (Nat → Int32) → (Nat → Int32) → Prop}
    {S C : List (List Nat)} {r n : Nat} {x2 : Int32} (hC : hk_hs (hk_hy yM yL) 100 C) (lC : C.length ≤ 6) (gC : ∀ y, y ∈ C → hk_gt n y)
    (hx : (r = 0 ∧ x2 = -1) ∨ ∃ j, j < C.length ∧ x2 = nI j ∧ 1 ≤ r ∧ C.getD j [] = S.getD (r - 1) [])
    (k : ∀ x : Int32, hk_best S C r C.length x → wY_merge_172 post J (nI r) (nI r) x y1 y2 y3 y4 y5 yn ym yh yc yd yw yl (nI C.length) ye yp yq yr ys yM yL yY yA yR yP) :
    ∀ (d c : Nat) (x4 : Int32), c + d = C.length → hk_best S C r c x4 → wY_merge_26 post J (nI r) x2 (nI r) y1 y2 y3 y4 y5 yn ym yh yc yd yw yl (nI C.length) ye yp yq yr ys yM yL yY yA yR yP (d + 1) x4 (nI c) := by
  intro d
  induction d with
  | zero =>
    intro c x4 hc hb
    have e : c = C.length := by omega
    subst e
    exact br_t (nI_le (Nat.le_refl _) (by omega)) (k x4 hb)
  | succ d ih =>
    intro c x4 hc hb
    have cl : c < C.length := by omega
    have hc1 := hC c cl
    have gc := gC _ (hk_ix_mem cl)
    have e1 : (100 : Int32) + nI c = nI (100 + c) := nI_add 100 c
    have V1 : vp_in (nI (100 + c)) 110 := vp_in_nI (by omega) (by omega)
    have no : ¬ hk_byd S r (C.getD c []) → wY_merge_97 post J (wY_merge_26 post J (nI r) x2 (nI r) y1 y2 y3 y4 y5 yn ym yh yc yd yw yl (nI C.length) ye yp yq yr ys yM yL yY yA yR yP (d + 1)) (nI r) x2 (nI r) x4 (nI c) 0 y1 y2 y3 y4 y5 yn ym yh yc yd yw yl (nI C.length) ye yp yq yr ys yM yL yY yA yR yP := by
      intro hn
      exact br_t rfl (br_t rfl (nm_r (nI_1 _) (ih (c + 1) x4 (by omega) (hk_best_no hb hn))))
    have yes : hk_byd S r (C.getD c []) → wY_merge_97 post J (wY_merge_26 post J (nI r) x2 (nI r) y1 y2 y3 y4 y5 yn ym yh yc yd yw yl (nI C.length) ye yp yq yr ys yM yL yY yA yR yP (d + 1)) (nI r) x2 (nI r) x4 (nI c) 1 y1 y2 y3 y4 y5 yn ym yh yc yd yw yl (nI C.length) ye yp yq yr ys yM yL yY yA yR yP := by
      intro hy
      refine br_f (by decide) ?_
      rcases hb with ⟨rfl, h⟩ | ⟨b, hb, rfl, h1, h2⟩
      · exact br_t (by decide) (br_f (by decide) (nm_r (nI_1 _) (ih (c + 1) (nI c) (by omega) (hk_best_first h hy))))
      · have e2 : (100 : Int32) + nI b = nI (100 + b) := nI_add 100 b
        have hb1 := hC b (by omega)
        have gb := gC _ (hk_ix_mem (S := C) (i := b) (by omega))
        refine br_f (nI_pos (by omega)) ?_
        rw [e1, e2]
        refine ⟨V1, vp_in_nI (by omega) (by omega), ?_⟩
        refine ya_cmp hc1 hb1 (by omega) (by omega) gc gb (hk_szy hc1 (by omega) gc.2.1) (hk_szy hb1 (by omega) gb.2.1) (fun q q1 q2 => ?_)
        refine br_c (fun z => ?_) (fun z => ?_)
        · have nl : hk_lt (C.getD c []) (C.getD b []) = false := by
            cases w : hk_lt (C.getD c []) (C.getD b []) with
            | false => rfl
            | true => exact absurd (q1.mpr w) (Int32.not_lt.mpr z)
          exact br_t rfl (nm_r (nI_1 _) (ih (c + 1) (nI b) (by omega) (hk_best_keep hb h1 h2 nl)))
        · have nl := q1.mp (Int32.not_le.mp z)
          exact br_f (by decide) (nm_r (nI_1 _) (ih (c + 1) (nI c) (by omega) (hk_best_new h2 hy nl)))
    refine br_f (nI_ge (by omega) (by omega)) (br_f (nI_ge (b := 8) (by omega) (by omega)) ?_)
    rcases hx with ⟨r0, rfl⟩ | ⟨j, hj, rfl, r1, ej⟩
    · exact br_t (by decide) (yes (Or.inl r0))
    · have e2 : (100 : Int32) + nI j = nI (100 + j) := nI_add 100 j
      have hj1 := hC j hj
      have gj := gC _ (hk_ix_mem (S := C) hj)
      refine br_f (nI_pos (by omega)) ?_
      rw [e1, e2]
      refine ⟨V1, vp_in_nI (by omega) (by omega), ?_⟩
      refine ya_cmp hc1 hj1 (by omega) (by omega) gc gj (hk_szy hc1 (by omega) gc.2.1) (hk_szy hj1 (by omega) gj.2.1) (fun q q1 q2 => ?_)
      rw [ej] at q1 q2
      refine br_c (fun z => no (fun y => ?_)) (fun z => yes (Or.inr ?_))
      · rcases y with y | y
        · omega
        · rcases Int32.lt_or_eq_of_le z with w | w
          · have := hk_lt_trans y (q1.mp w)
            rw [hk_lt_irr] at this; cases this
          · rw [q2.mp w, hk_lt_irr] at y; cases y
      · cases w : hk_lt (S.getD (r - 1) []) (C.getD c []) with
        | true => rfl
        | false =>
          exfalso
          cases w2 : hk_lt (C.getD c []) (S.getD (r - 1) []) with
          | true => exact z (Int32.le_of_lt (q1.mpr w2))
          | false => exact z (Int32.le_of_eq (q2.mpr (hk_lt_tri w2 w)))
theorem ya_mg6 {post : Int32 → SY → Prop} {S C : List (List Nat)} {n : Nat} (hS : S = hk_un [] C) (lC : C.length ≤ 6) (gC : ∀ y, y ∈ C → hk_gt n y) :
    ∀ (d r : Nat) (M L : Nat → Int32) (w wl x2 : Int32), r + d = C.length → r ≤ S.length → r ≤ 3 → hk_hs (hk_hy M L) 100 C → (∀ i, i < r → hk_hy M L (97 + i) (S.getD i [])) → ((r = 0 ∧ x2 = -1) ∨ ∃ j, j < C.length ∧ x2 = nI j ∧ 1 ≤ r ∧ C.getD j [] = S.getD (r - 1) []) →
      (S.length ≤ 3 → ∀ (M' L' : Nat → Int32) (w' wl' : Int32), hk_hs (hk_hy M' L') 97 S → hk_fr (fun s => 97 ≤ s ∧ s < 100) M L M' L' → post (nI S.length) (y1, y2, y3, y4, y5, yn, ym, yh, yc, yd, w', wl', nI C.length, ye, yp, yq, yr, ys, M', L', yY, yA, yR, yP)) →
      (3 < S.length → ∀ (M' L' : Nat → Int32) (w' wl' : Int32), hk_fr (fun s => 97 ≤ s ∧ s < 100) M L M' L' → post (-1) (y1, y2, y3, y4, y5, yn, ym, yh, yc, yd, w', wl', nI C.length, ye, yp, yq, yr, ys, M', L', yY, yA, yR, yP)) →
      wY_merge_6 post (d + 1) (nI r) x2 (nI r) y1 y2 y3 y4 y5 yn ym yh yc yd w wl (nI C.length) ye yp yq yr ys M L yY yA yR yP := by
  have sd : hk_sd S := by rw [hS]; exact hk_un_sd List.Pairwise.nil
  have mem : ∀ x, x ∈ S ↔ x ∈ C := by
    intro x
    rw [hS, hk_un_mem]
    exact ⟨fun z => z.elim id (fun y => by cases y), Or.inl⟩
  have len : S.length ≤ C.length := by
    have := (hk_un_len (ts := C) (S := [])).2
    rw [← hS] at this
    have : S.length ≤ 0 + C.length := this
    omega
  intro d
  induction d with
  | zero =>
    intro r M L w wl x2 hr hrS hr3 hC hO hx k1 k0
    refine br_t (nI_le (by omega) (by omega)) ?_
    have e : r = S.length := by omega
    subst e
    exact k1 hr3 M L w wl hO hk_fr_r
  | succ d ih =>
    intro r M L w wl x2 hr hrS hr3 hC hO hx k1 k0
    refine br_f (nI_ge (by omega) (by omega)) (br_f (nI_ge (b := 8) (by omega) (by omega)) ⟨C.length + 1, ?_⟩)
    refine ya_mg26 hC lC gC hx (fun x hb => ?_) C.length 0 (-1) (by omega) (hk_best_0 S C r)
    rcases hb with ⟨rfl, h⟩ | ⟨b, hb, rfl, h1, h2⟩
    · refine br_f hk_m1_nge ?_
      have e : r = S.length := by
        rcases Nat.lt_or_ge r S.length with z | z
        · exfalso
          obtain ⟨i, hi, ei⟩ := hk_mem_ix ((mem _).mp (hk_ix_mem z))
          have := h i hi
          rw [ei] at this
          exact this (hk_byd_r sd z)
        · omega
      subst e
      exact k1 hr3 M L w wl hO hk_fr_r
    · obtain ⟨i, hi, ei⟩ := hk_mem_ix ((mem _).mpr (hk_ix_mem hb))
      have h1' := h1
      rw [← ei] at h1'
      have hri := hk_byd_ge sd hrS hi h1'
      have rS : r < S.length := by omega
      have eb : C.getD b [] = S.getD r [] := by
        refine hk_sel sd rS ((mem _).mpr (hk_ix_mem hb)) h1 (fun y hy hby => ?_)
        obtain ⟨j, hj, rfl⟩ := hk_mem_ix ((mem _).mp hy)
        exact h2 j hj hby
      refine br_t (nI_pos' (by omega)) ?_
      refine pk_lt r 3 (fun z => ?_) (fun z => k0 (by omega) M L w wl hk_fr_r)
      have e1 : (97 : Int32) + nI r = nI (97 + r) := nI_add 97 r
      have e2 : (100 : Int32) + nI b = nI (100 + b) := nI_add 100 b
      have hb1 := hC b hb
      have gb := gC _ (hk_ix_mem hb)
      rw [e1]
      refine ya_begin (by omega) (fun L1 q1 f1 => ?_)
      rw [e2]
      have hb2 := hk_fr_hy f1 (s := 100 + b) (by intro y; have y : 100 + b = 97 + r := y; omega) hb1
      refine ⟨vp_in_nI (by omega) (by omega), ?_⟩
      refine ya_all (by omega) (by omega) (by omega) gb.2.1 q1 hb2 (by decide) (hk_szy hb2 (by omega) gb.2.1) (fun M2 L2 q2 f2 => ?_)
      have f12 := hk_fr_t f1 f2
      have f12' := hk_fr_w (V := fun s => 97 ≤ s ∧ s < 100) f12 (fun s y => by have y : s = 97 + r := y; omega)
      refine nm_r (nI_1 _) (nm_r (nI_1 _) ?_)
      refine ih (r + 1) M2 L2 _ _ (nI b) (by omega) (by omega) (by omega) (ya_hs_fr f12' hC (fun j hj => by omega)) (fun j hj => ?_) (Or.inr ⟨b, hb, rfl, by omega, by rw [Nat.add_sub_cancel]; exact eb⟩) (fun y M3 L3 w3 wl3 q3 f3 => k1 y M3 L3 w3 wl3 q3 (hk_fr_t f12' f3)) (fun y M3 L3 w3 wl3 f3 => k0 y M3 L3 w3 wl3 (hk_fr_t f12' f3))
      by_cases u : j = r
      · subst u
        rw [← eb]; exact q2
      · exact hk_fr_hy f12 (by intro y; have y : 97 + j = 97 + r := y; omega) (hO j (by omega))
theorem ya_merge {post : Int32 → SY → Prop} {C : List (List Nat)} {n : Nat} (lC : C.length ≤ 6) (gC : ∀ y, y ∈ C → hk_gt n y) (hC : hk_hs (hk_hy yM yL) 100 C)
    (k1 : (hk_un [] C).length ≤ 3 → ∀ (M' L' : Nat → Int32) (w' wl' : Int32), hk_hs (hk_hy M' L') 97 (hk_un [] C) → hk_fr (fun s => 97 ≤ s ∧ s < 100) yM yL M' L' → post (nI (hk_un [] C).length) (y1, y2, y3, y4, y5, yn, ym, yh, yc, yd, w', wl', nI C.length, ye, yp, yq, yr, ys, M', L', yY, yA, yR, yP))
    (k0 : 3 < (hk_un [] C).length → ∀ (M' L' : Nat → Int32) (w' wl' : Int32), hk_fr (fun s => 97 ≤ s ∧ s < 100) yM yL M' L' → post (-1) (y1, y2, y3, y4, y5, yn, ym, yh, yc, yd, w', wl', nI C.length, ye, yp, yq, yr, ys, M', L', yY, yA, yR, yP)) : wpY_merge post (y1, y2, y3, y4, y5, yn, ym, yh, yc, yd, yw, yl, nI C.length, ye, yp, yq, yr, ys, yM, yL, yY, yA, yR, yP) :=
  ⟨_, ya_mg6 rfl lC gC C.length 0 yM yL yw yl (-1) (by omega) (by omega) (by omega) hC (fun i hi => absurd hi (Nat.not_lt_zero i)) (Or.inl ⟨rfl, rfl⟩) k1 k0⟩
theorem ya_commit_l {post : Int32 → SY → Prop} {nH : Nat} {H : List (List Nat)} (hH : nH < 16) (lH : H.length ≤ 3) (l32 : ∀ y, y ∈ H → y.length ≤ 32) (M0 L0 : Nat → Int32)
    (k : ∀ (M L : Nat → Int32) (w wl : Int32), hk_hs (hk_hy M L) (32 + nH * 4 + 1) H → hk_fr (fun s => 32 + nH * 4 + 1 ≤ s ∧ s < 36 + nH * 4) M0 L0 M L → post (nI nH) (y1, y2, y3, y4, y5, yn, ym, nI (nH + 1), yc, yd, w, wl, yk, ye, yp, yq, yr, ys, M, L, yY, yA, yR, upd yP nH (nI H.length))) :
    ∀ (d i : Nat) (M L : Nat → Int32) (w wl : Int32), i + d = H.length → hk_hs (hk_hy M L) 97 H → (∀ j, j < i → hk_hy M L (32 + nH * 4 + 1 + j) (H.getD j [])) → hk_fr (fun s => 32 + nH * 4 + 1 ≤ s ∧ s < 36 + nH * 4) M0 L0 M L →
      wY_commit_31 post (nI H.length) (nI nH) (d + 1) (nI i) y1 y2 y3 y4 y5 yn ym (nI nH) yc yd w wl yk ye yp yq yr ys M L yY yA yR yP := by
  intro d
  induction d with
  | zero =>
    intro i M L w wl hi hS hO fr
    refine br_t (nI_le (by omega) (by omega)) ⟨vp_in_nI hH (by omega), nm_r (e' := upd yP nH (nI H.length)) (by rw [nI_clamp (by omega)]) (nm_r (nI_1 _) ?_)⟩
    exact k M L w wl (fun j hj => hO j (by omega)) fr
  | succ d ih =>
    intro i M L w wl hi hS hO fr
    have il : i < H.length := by omega
    refine br_f (nI_ge (by omega) (by omega)) (br_f (nI_ge (b := 3) (by omega) (by omega)) ?_)
    rw [nI_1]
    refine ya_slot nH (i + 1) ?_
    rw [show 32 + nH * 4 + (i + 1) = 32 + nH * 4 + 1 + i by omega]
    refine ya_begin (by omega) (fun L1 q1 f1 => ?_)
    have e1 : (97 : Int32) + nI i = nI (97 + i) := nI_add 97 i
    rw [e1]
    have src := hk_fr_hy f1 (s := 97 + i) (by intro y; have y : 97 + i = 32 + nH * 4 + 1 + i := y; omega) (hS i il)
    have li := l32 _ (hk_ix_mem il)
    refine ⟨vp_in_nI (by omega) (by omega), ?_⟩
    refine ya_all (by omega) (by omega) (by omega) li q1 src (by decide) (hk_szy src (by omega) li) (fun M2 L2 q2 f2 => ?_)
    have f12 := hk_fr_t f1 f2
    have f12' := hk_fr_w (V := fun s => 32 + nH * 4 + 1 ≤ s ∧ s < 36 + nH * 4) f12 (fun s y => by have y : s = 32 + nH * 4 + 1 + i := y; omega)
    refine nm_e ?_
    refine ih (i + 1) M2 L2 _ _ (by omega) (ya_hs_fr f12' hS (fun j hj => by omega)) (fun j hj => ?_) (hk_fr_t fr f12')
    by_cases u : j = i
    · subst u; exact q2
    · exact hk_fr_hy f12 (by intro y; have y : 32 + nH * 4 + 1 + j = 32 + nH * 4 + 1 + i := y; omega) (hO j (by omega))
theorem ya_commit {post : Int32 → SY → Prop} {nH : Nat} {Cn : List Nat} {H : List (List Nat)} {y : Int32} (hH : nH < 16) (lC : Cn.length ≤ 32) (lH : H.length ≤ 3) (l32 : ∀ y, y ∈ H → y.length ≤ 32) (hC : hk_hy yM yL 96 Cn) (hS : hk_hs (hk_hy yM yL) 97 H) (hy : y = nI H.length)
    (k : ∀ (M L : Nat → Int32) (w wl : Int32), hk_hy M L (32 + nH * 4) Cn → hk_hs (hk_hy M L) (32 + nH * 4 + 1) H → hk_fr (fun s => 32 + nH * 4 ≤ s ∧ s < 36 + nH * 4) yM yL M L → post (nI nH) (y1, y2, y3, y4, y5, yn, ym, nI (nH + 1), yc, yd, w, wl, yk, ye, yp, yq, yr, ys, M, L, yY, yA, yR, upd yP nH (nI H.length))) : wpY_commit post (y1, y2, y3, y4, y5, yn, ym, nI nH, yc, yd, yw, yl, yk, ye, yp, yq, yr, ys, yM, yL, yY, yA, yR, yP) y := by
  subst hy
  unfold wpY_commit
  dsimp only
  refine ya_slot nH 0 ?_
  rw [Nat.add_zero]
  refine ya_begin (by omega) (fun L1 q1 f1 => ?_)
  have src := hk_fr_hy f1 (s := 96) (by intro y; have y : 96 = 32 + nH * 4 := y; omega) hC
  refine ya_all (s := 96) (by omega) (by omega) (by omega) lC q1 src (by decide) (hk_szc src lC) (fun M2 L2 q2 f2 => ⟨H.length + 1, ?_⟩)
  have f12 := hk_fr_t f1 f2
  refine ya_commit_l hH lH l32 M2 L2 (fun M L w wl h1 f3 => ?_) H.length 0 M2 L2 _ _ (by omega) (ya_hs_fr f12 hS (fun j hj y => by have y : 97 + j = 32 + nH * 4 := y; omega)) (fun j hj => absurd hj (Nat.not_lt_zero j)) hk_fr_r
  refine k M L w wl (hk_fr_hy f3 (by omega) q2) h1 (hk_fr_t (hk_fr_w f12 (fun s y => by have y : s = 32 + nH * 4 := y; omega)) (hk_fr_w f3 (fun s y => ?_)))
  have y : 32 + nH * 4 + 1 ≤ s ∧ s < 36 + nH * 4 := y
  omega
end
end
section
/-! what both sides hold: types T, nM terms with their types TY, nH theorems with HC hypotheses, G the codes by slots -/
def hk_R (T : hk_T) (nM : Nat) (TY : Nat → Nat) (nH : Nat) (HC : Nat → Nat) (G : Nat → List Nat) (A R Y P : Nat → Int32) (hd : Nat → List Nat → Prop) : Prop :=
  hk_tb T A R ∧ (∀ t, t < nM → Y t = nI (TY t) ∧ hd t (G t)) ∧ ∀ h, h < nH → P h = nI (HC h) ∧ ∀ p, p ≤ HC h → hd (32 + h * 4 + p) (G (32 + h * 4 + p))
def hk_I (T : hk_T) (nM : Nat) (TY : Nat → Nat) (nH : Nat) (HC : Nat → Nat) (G : Nat → List Nat) (cM cH : Nat) : Prop :=
  hk_ti T ∧ nM ≤ cM ∧ cM ≤ 32 ∧ nH ≤ cH ∧ cH ≤ 16 ∧ (∀ t, t < nM → TY t < T.1 ∧ hk_gt T.1 (G t) ∧ (hk_c (G t) 0 / 65536 = 1 → TY t = hk_c (G t) 0 % 256)) ∧ ∀ h, h < nH → HC h ≤ 3 ∧ ∀ p, p ≤ HC h → hk_gt T.1 (G (32 + h * 4 + p))
def hk_ug (G : Nat → List Nat) (k : Nat) (l : List Nat) : Nat → List Nat := fun j => if j = k then l else G j
theorem hk_ug_s (G : Nat → List Nat) (k : Nat) (l : List Nat) : hk_ug G k l k = l := if_pos rfl
theorem hk_ug_n {G : Nat → List Nat} {k j : Nat} {l : List Nat} (h : j ≠ k) : hk_ug G k l j = G j := if_neg h
theorem hk_R_term {T T' : hk_T} {nM : Nat} {TY : Nat → Nat} {nH : Nat} {HC : Nat → Nat} {G : Nat → List Nat} {A R Y P A' R' Y' : Nat → Int32} {hd hd' : Nat → List Nat → Prop} {l : List Nat} {ty : Nat}
    (h : hk_R T nM TY nH HC G A R Y P hd) (hT : hk_tb T' A' R') (hk : ∀ s l, s ≠ nM → hd s l → hd' s l) (hn : hd' nM l) (hY : Y' nM = nI ty) (hYo : ∀ t, t ≠ nM → Y' t = Y t) (h32 : nM < 32) :
    hk_R T' (nM + 1) (hk_up TY nM ty) nH HC (hk_ug G nM l) A' R' Y' P hd' := by
  obtain ⟨h1, h2, h3⟩ := h
  refine ⟨hT, fun t ht => ?_, fun q hq => ⟨(h3 q hq).1, fun p hp => ?_⟩⟩
  · by_cases e : t = nM
    · subst e
      rw [hk_up_s, hk_ug_s]; exact ⟨hY, hn⟩
    · rw [hk_up_n e, hk_ug_n e, hYo t e]
      exact ⟨(h2 t (by omega)).1, hk t _ e (h2 t (by omega)).2⟩
  · rw [hk_ug_n (by omega)]
    exact hk _ _ (by omega) ((h3 q hq).2 p hp)
theorem hk_I_term {T T' : hk_T} {nM : Nat} {TY : Nat → Nat} {nH : Nat} {HC : Nat → Nat} {G : Nat → List Nat} {cM cH : Nat} {l : List Nat} {ty : Nat}
    (h : hk_I T nM TY nH HC G cM cH) (ht : hk_ti T') (hn : T.1 ≤ T'.1) (hc : nM < cM) (hty : ty < T'.1) (g : hk_gt T'.1 l) (hv : hk_c l 0 / 65536 = 1 → ty = hk_c l 0 % 256) :
    hk_I T' (nM + 1) (hk_up TY nM ty) nH HC (hk_ug G nM l) cM cH := by
  obtain ⟨h1, h2, h3, h4, h5, h6, h7⟩ := h
  refine ⟨ht, hc, h3, h4, h5, fun t q => ?_, fun q hq => ⟨(h7 q hq).1, fun p hp => ?_⟩⟩
  · by_cases e : t = nM
    · subst e
      rw [hk_up_s, hk_ug_s]; exact ⟨hty, g, hv⟩
    · rw [hk_up_n e, hk_ug_n e]
      obtain ⟨a, b, c⟩ := h6 t (by omega)
      exact ⟨by omega, hk_gt_mono b hn, c⟩
  · rw [hk_ug_n (by omega)]
    exact hk_gt_mono ((h7 q hq).2 p hp) hn
def hk_gh (G : Nat → List Nat) (nH : Nat) (Cn : List Nat) (H : List (List Nat)) : Nat → List Nat :=
  fun j => if j < 32 + nH * 4 then G j else if j = 32 + nH * 4 then Cn else H.getD (j - (32 + nH * 4 + 1)) []
theorem hk_gh_lo {G : Nat → List Nat} {nH j : Nat} {Cn : List Nat} {H : List (List Nat)} (h : j < 32 + nH * 4) : hk_gh G nH Cn H j = G j := if_pos h
theorem hk_gh_0 {G : Nat → List Nat} {nH : Nat} {Cn : List Nat} {H : List (List Nat)} : hk_gh G nH Cn H (32 + nH * 4) = Cn := by
  unfold hk_gh; rw [if_neg (Nat.lt_irrefl _), if_pos rfl]
theorem hk_gh_p {G : Nat → List Nat} {nH i : Nat} {Cn : List Nat} {H : List (List Nat)} : hk_gh G nH Cn H (32 + nH * 4 + 1 + i) = H.getD i [] := by
  unfold hk_gh
  rw [if_neg (by omega), if_neg (by omega), show 32 + nH * 4 + 1 + i - (32 + nH * 4 + 1) = i by omega]
theorem hk_R_thm {T T' : hk_T} {nM : Nat} {TY : Nat → Nat} {nH : Nat} {HC : Nat → Nat} {G : Nat → List Nat} {A R Y P A' R' P' : Nat → Int32} {hd hd' : Nat → List Nat → Prop} {Cn : List Nat} {H : List (List Nat)}
    (h : hk_R T nM TY nH HC G A R Y P hd) (hT : hk_tb T' A' R') (hk : ∀ s l, s < 32 + nH * 4 → hd s l → hd' s l) (hC : hd' (32 + nH * 4) Cn) (hH : hk_hs hd' (32 + nH * 4 + 1) H) (hP : P' nH = nI H.length) (hPo : ∀ h, h ≠ nH → P' h = P h) (h32 : nM ≤ 32) (l3 : ∀ h, h < nH → HC h ≤ 3) :
    hk_R T' nM TY (nH + 1) (hk_up HC nH H.length) (hk_gh G nH Cn H) A' R' Y P' hd' := by
  obtain ⟨h1, h2, h3⟩ := h
  refine ⟨hT, fun t ht => ?_, fun q hq => ?_⟩
  · rw [hk_gh_lo (by omega)]
    exact ⟨(h2 t ht).1, hk t _ (by omega) (h2 t ht).2⟩
  · by_cases e : q = nH
    · subst e
      rw [hk_up_s]
      refine ⟨hP, fun p hp => ?_⟩
      cases p with
      | zero => rw [Nat.add_zero, hk_gh_0]; exact hC
      | succ i =>
        rw [show 32 + q * 4 + (i + 1) = 32 + q * 4 + 1 + i by omega, hk_gh_p]
        exact hH i (by omega)
    · rw [hk_up_n e, hPo q e]
      have w := l3 q (by omega)
      refine ⟨(h3 q (by omega)).1, fun p hp => ?_⟩
      rw [hk_gh_lo (by omega)]
      exact hk _ _ (by omega) ((h3 q (by omega)).2 p hp)
theorem hk_I_thm {T T' : hk_T} {nM : Nat} {TY : Nat → Nat} {nH : Nat} {HC : Nat → Nat} {G : Nat → List Nat} {cM cH : Nat} {Cn : List Nat} {H : List (List Nat)}
    (h : hk_I T nM TY nH HC G cM cH) (ht : hk_ti T') (hn : T.1 ≤ T'.1) (hc : nH < cH) (g : hk_gt T'.1 Cn) (gH : ∀ y, y ∈ H → hk_gt T'.1 y) (l3 : H.length ≤ 3) :
    hk_I T' nM TY (nH + 1) (hk_up HC nH H.length) (hk_gh G nH Cn H) cM cH := by
  obtain ⟨h1, h2, h3, h4, h5, h6, h7⟩ := h
  refine ⟨ht, h2, h3, hc, h5, fun t q => ?_, fun q hq => ?_⟩
  · rw [hk_gh_lo (by omega)]
    obtain ⟨a, b, c⟩ := h6 t q
    exact ⟨by omega, hk_gt_mono b hn, c⟩
  · by_cases e : q = nH
    · subst e
      rw [hk_up_s]
      refine ⟨l3, fun p hp => ?_⟩
      cases p with
      | zero => rw [Nat.add_zero, hk_gh_0]; exact g
      | succ i =>
        rw [show 32 + q * 4 + (i + 1) = 32 + q * 4 + 1 + i by omega, hk_gh_p]
        exact gH _ (hk_ix_mem (by omega))
    · rw [hk_up_n e]
      refine ⟨(h7 q (by omega)).1, fun p hp => ?_⟩
      have := (h7 q (by omega)).1
      rw [hk_gh_lo (by omega)]
      exact hk_gt_mono ((h7 q (by omega)).2 p hp) hn
theorem hk_R_keep {T : hk_T} {nM : Nat} {TY : Nat → Nat} {nH : Nat} {HC : Nat → Nat} {G : Nat → List Nat} {A R Y P A' R' P' : Nat → Int32} {hd hd' : Nat → List Nat → Prop}
    (h : hk_R T nM TY nH HC G A R Y P hd) (hT : hk_tb T A' R') (hk : ∀ s l, s < 32 + nH * 4 → hd s l → hd' s l) (hPo : ∀ h, h ≠ nH → P' h = P h) (h32 : nM ≤ 32) (h3 : ∀ h, h < nH → HC h ≤ 3) :
    hk_R T nM TY nH HC G A' R' Y P' hd' := by
  obtain ⟨h1, h2, h4⟩ := h
  refine ⟨hT, fun t ht => ⟨(h2 t ht).1, hk t _ (by omega) (h2 t ht).2⟩, fun q hq => ?_⟩
  rw [hPo q (by omega)]
  have := h3 q hq
  exact ⟨(h4 q hq).1, fun p hp => hk _ _ (by omega) ((h4 q hq).2 p hp)⟩
/-- the hypotheses of a theorem as a list -/
def hk_H (G : Nat → List Nat) (f n : Nat) : List (List Nat) := (List.range n).map (fun i => G (f + i))
theorem hk_H_len (G : Nat → List Nat) (f n : Nat) : (hk_H G f n).length = n := by simp [hk_H]
theorem hk_H_gd {G : Nat → List Nat} {f n i : Nat} (h : i < n) : (hk_H G f n).getD i [] = G (f + i) := by
  simp [hk_H, List.getD_eq_getElem?_getD, h]
theorem hk_H_mem {G : Nat → List Nat} {f n : Nat} {x : List Nat} (h : x ∈ hk_H G f n) : ∃ i, i < n ∧ x = G (f + i) := by
  obtain ⟨i, hi, e⟩ := List.mem_map.mp h
  exact ⟨i, List.mem_range.mp hi, e.symm⟩
theorem hk_R_hs {T : hk_T} {nM : Nat} {TY : Nat → Nat} {nH : Nat} {HC : Nat → Nat} {G : Nat → List Nat} {A R Y P : Nat → Int32} {hd : Nat → List Nat → Prop} (h : hk_R T nM TY nH HC G A R Y P hd) {a : Nat} (ha : a < nH) :
    hk_hs hd (32 + a * 4 + 1) (hk_H G (32 + a * 4 + 1) (HC a)) ∧ P a = nI (hk_H G (32 + a * 4 + 1) (HC a)).length ∧ hd (32 + a * 4) (G (32 + a * 4)) := by
  obtain ⟨h1, h2, h3⟩ := h
  refine ⟨fun i hi => ?_, ?_, ?_⟩
  · rw [hk_H_len] at hi
    rw [hk_H_gd hi]
    have := (h3 a ha).2 (i + 1) (by omega)
    rw [show 32 + a * 4 + (i + 1) = 32 + a * 4 + 1 + i by omega] at this
    exact this
  · rw [hk_H_len]; exact (h3 a ha).1
  · have := (h3 a ha).2 0 (by omega)
    rw [Nat.add_zero] at this
    exact this
theorem hk_I_hs {T : hk_T} {nM : Nat} {TY : Nat → Nat} {nH : Nat} {HC : Nat → Nat} {G : Nat → List Nat} {cM cH : Nat} (h : hk_I T nM TY nH HC G cM cH) {a : Nat} (ha : a < nH) :
    (hk_H G (32 + a * 4 + 1) (HC a)).length ≤ 3 ∧ (∀ y, y ∈ hk_H G (32 + a * 4 + 1) (HC a) → hk_gt T.1 y) ∧ hk_gt T.1 (G (32 + a * 4)) := by
  obtain ⟨h1, h2, h3, h4, h5, h6, h7⟩ := h
  refine ⟨?_, fun y hy => ?_, ?_⟩
  · rw [hk_H_len]; exact (h7 a ha).1
  · obtain ⟨i, hi, rfl⟩ := hk_H_mem hy
    have := (h7 a ha).2 (i + 1) (by omega)
    rw [show 32 + a * 4 + (i + 1) = 32 + a * 4 + 1 + i by omega] at this
    exact this
  · have := (h7 a ha).2 0 (by omega)
    rw [Nat.add_zero] at this
    exact this
/-- a variable's term is its one node -/
theorem hk_I_var {T : hk_T} {nM : Nat} {TY : Nat → Nat} {nH : Nat} {HC : Nat → Nat} {G : Nat → List Nat} {cM cH : Nat} (h : hk_I T nM TY nH HC G cM cH) {t : Nat} (ht : t < nM) (hk : hk_c (G t) 0 / 65536 = 1) :
    G t = [hk_c (G t) 0] ∧ TY t = hk_c (G t) 0 % 256 ∧ hk_c (G t) 0 < 524288 := by
  obtain ⟨h1, h2, h3, h4, h5, h6, h7⟩ := h
  obtain ⟨a, b, c⟩ := h6 t ht
  exact ⟨hk_leaf b.1 (hk_ar_k hk (by decide) (by decide)), c hk, (hk_gt_c b (hk_gt_pos b)).1⟩
/-! the outcome of a rule: refused, or a conclusion, hypotheses and a table -/
abbrev hk_O : Type := Option (List Nat × List (List Nat) × hk_T)
def hk_good (T : hk_T) : hk_O → Prop
  | none => True
  | some (Cn, H, T') => hk_gt T'.1 Cn ∧ (∀ y, y ∈ H → hk_gt T'.1 y) ∧ H.length ≤ 3 ∧ hk_ti T' ∧ T.1 ≤ T'.1
def xr_K (post : Int32 → SX → Prop) (T : hk_T) (nM nH : Nat) (xc xd : Int32) (xK xS xY xP : Nat → Int32) : hk_O → Prop
  | none => ∀ A R K S P E : Nat → Int32, hk_tb T A R → hk_fr (fun s => 32 + nH * 4 ≤ s) xK xS K S → (∀ h, h ≠ nH → P h = xP h) → post 0 (nI T.1, xc, nI nM, xd, nI nH, A, R, K, S, xY, P, E)
  | some (Cn, H, T') => ∀ A R K S P E : Nat → Int32, hk_tb T' A R → hk_h K S (32 + nH * 4) Cn → hk_hs (hk_h K S) (32 + nH * 4 + 1) H → hk_fr (fun s => 32 + nH * 4 ≤ s) xK xS K S → P nH = nI H.length → (∀ h, h ≠ nH → P h = xP h) →
      post 1 (nI T'.1, xc, nI nM, xd, nI nH, A, R, K, S, xY, P, E)
def yr_K (post : Int32 → SY → Prop) (T : hk_T) (nM nH : Nat) (y1 y2 y3 y4 y5 yc yd : Int32) (yM yL yY yP : Nat → Int32) : hk_O → Prop
  | none => ∀ (A R M L : Nat → Int32) (w1 w2 w3 w4 w5 w6 w7 w8 : Int32), hk_tb T A R → hk_fr (fun s => 32 + nH * 4 ≤ s) yM yL M L → post (-1) (y1, y2, y3, y4, y5, nI T.1, nI nM, nI nH, yc, yd, w1, w2, w3, w4, w5, w6, w7, w8, M, L, yY, A, R, yP)
  | some (Cn, H, T') => ∀ (A R M L : Nat → Int32) (w1 w2 w3 w4 w5 w6 w7 w8 : Int32), hk_tb T' A R → hk_hy M L (32 + nH * 4) Cn → hk_hs (hk_hy M L) (32 + nH * 4 + 1) H → hk_fr (fun s => 32 + nH * 4 ≤ s) yM yL M L →
      post (nI nH) (y1, y2, y3, y4, y5, nI T'.1, nI nM, nI (nH + 1), yc, yd, w1, w2, w3, w4, w5, w6, w7, w8, M, L, yY, A, R, upd yP nH (nI H.length))
/-! normal order -/
def hk_nf : Nat → List Nat → Option (List Nat)
  | 0, l => match hk_lr l l.length 0 with
    | none => some l
    | some _ => none
  | k + 1, l => match hk_lr l l.length 0 with
    | none => some l
    | some r => if (hk_con l r).length ≤ 32 then hk_nf k (hk_con l r) else none
theorem hk_nf_n {l : List Nat} (k : Nat) (h : hk_lr l l.length 0 = none) : hk_nf k l = some l := by
  cases k with
  | zero => rw [hk_nf, h]
  | succ k => rw [hk_nf, h]
theorem hk_nf_0 {l : List Nat} {r : Nat} (h : hk_lr l l.length 0 = some r) : hk_nf 0 l = none := by rw [hk_nf, h]
theorem hk_nf_s {l : List Nat} {k r : Nat} (h : hk_lr l l.length 0 = some r) (hl : (hk_con l r).length ≤ 32) : hk_nf (k + 1) l = hk_nf k (hk_con l r) := by
  rw [hk_nf, h]; exact if_pos hl
theorem hk_nf_z {l : List Nat} {k r : Nat} (h : hk_lr l l.length 0 = some r) (hl : ¬ (hk_con l r).length ≤ 32) : hk_nf (k + 1) l = none := by
  rw [hk_nf, h]; exact if_neg hl
theorem hk_con_gt {n : Nat} {l : List Nat} {r : Nat} (g : hk_gt n l) (h : hk_rx l r) (hl : (hk_con l r).length ≤ 32) : hk_gt n (hk_con l r) :=
  ⟨hk_con_run g.1 g.2.1 h, hl, hk_con_gc g.1 g.2.1 h g.2.2⟩
theorem hk_nf_gt {n : Nat} {r : List Nat} : ∀ {k : Nat} {l : List Nat}, hk_gt n l → hk_nf k l = some r → hk_gt n r
  | k, l, g, h => by
    cases e : hk_lr l l.length 0 with
    | none =>
      rw [hk_nf_n k e] at h; cases h; exact g
    | some j =>
      cases k with
      | zero => rw [hk_nf_0 e] at h; cases h
      | succ k =>
        by_cases z : (hk_con l j).length ≤ 32
        · rw [hk_nf_s e z] at h
          exact hk_nf_gt (hk_con_gt g (hk_lr_in e) z) h
        · rw [hk_nf_z e z] at h; cases h
/-! the conclusions that the rules on equations build -/
theorem hk_ise_sides {n : Nat} {l : List Nat} (g : hk_gt n l) (he : hk_ise l) :
    hk_run 1 (hk_fm (fun q => [hk_c l q]) 3 (hk_e l 3 - 3)) = some 0 ∧ hk_run 1 (hk_fm (fun q => [hk_c l q]) (hk_e l 3) (l.length - hk_e l 3)) = some 0 ∧
      (∀ c, c ∈ hk_fm (fun q => [hk_c l q]) 3 (hk_e l 3 - 3) → hk_gc n c) ∧ (∀ c, c ∈ hk_fm (fun q => [hk_c l q]) (hk_e l 3) (l.length - hk_e l 3) → hk_gc n c) ∧
      hk_c l 2 % 256 < n ∧ hk_c l 2 % 256 < 256 ∧ hk_fm (fun q => [hk_c l q]) (hk_e l 3) (l.length - hk_e l 3) = l.drop (hk_e l 3) ∧ hk_fm (fun q => [hk_c l q]) 3 (hk_e l 3 - 3) = (l.drop 3).take (hk_e l 3 - 3) := by
  obtain ⟨t1, t2, t3, t4, t5, t6, t7⟩ := hk_ise_at g.1 he
  have e1 : hk_fm (fun q => [hk_c l q]) (hk_e l 3) (l.length - hk_e l 3) = l.drop (hk_e l 3) := by
    rw [hk_fm_sub _ _ (by omega), List.take_of_length_le (by rw [List.length_drop]; omega)]
  have e2 : hk_fm (fun q => [hk_c l q]) 3 (hk_e l 3 - 3) = (l.drop 3).take (hk_e l 3 - 3) := hk_fm_sub _ _ (by omega)
  refine ⟨by rw [e2]; exact t6, by rw [e1]; exact t7, fun c hc => ?_, fun c hc => ?_, ?_, Nat.mod_lt _ (by decide), e1, e2⟩
  · rw [e2] at hc
    exact g.2.2 c (List.mem_of_mem_drop (List.mem_of_mem_take hc))
  · rw [e1] at hc
    exact g.2.2 c (List.mem_of_mem_drop hc)
  · exact (hk_gt_c g (show 2 < l.length by omega)).2 he.2.2
def vl_trans (la lb : List Nat) : List Nat :=
  [196608, 196608, 131072 + hk_c la 2 % 256] ++ hk_fm (fun q => [hk_c la q]) 3 (hk_e la 3 - 3) ++ hk_fm (fun q => [hk_c lb q]) (hk_e lb 3) (lb.length - hk_e lb 3)
def vc_trans (la lb : List Nat) (HA HB : List (List Nat)) : Prop :=
  hk_ise la ∧ hk_ise lb ∧ la.drop (hk_e la 3) = (lb.drop 3).take (hk_e lb 3 - 3) ∧ (vl_trans la lb).length ≤ 32 ∧ (hk_un [] (HA ++ HB)).length ≤ 3
theorem vg_trans {n : Nat} {la lb : List Nat} (hn : n ≤ 48) (ga : hk_gt n la) (gb : hk_gt n lb) (ea : hk_ise la) (eb : hk_ise lb) (hl : (vl_trans la lb).length ≤ 32) : hk_gt n (vl_trans la lb) := by
  obtain ⟨a1, a2, a3, a4, a5, a6, a7, a8⟩ := hk_ise_sides ga ea
  obtain ⟨b1, b2, b3, b4, b5, b6, b7, b8⟩ := hk_ise_sides gb eb
  exact ⟨hk_eq_run a6 a1 b2, hl, hk_eq_gc a5 hn a3 b4⟩
def vl_comb (c : Nat) (la lb : List Nat) : List Nat :=
  [196608, 196608, 131072 + c] ++ [196608] ++ hk_fm (fun q => [hk_c la q]) 3 (hk_e la 3 - 3) ++ hk_fm (fun q => [hk_c lb q]) 3 (hk_e lb 3 - 3) ++ [196608] ++
    hk_fm (fun q => [hk_c la q]) (hk_e la 3) (la.length - hk_e la 3) ++ hk_fm (fun q => [hk_c lb q]) (hk_e lb 3) (lb.length - hk_e lb 3)
def vc_comb (T : hk_T) (cc : Nat) (la lb : List Nat) (HA HB : List (List Nat)) : Prop :=
  hk_ise la ∧ hk_ise lb ∧ 3 ≤ hk_c la 2 % 256 ∧ T.2.1 (hk_c la 2 % 256) = hk_c lb 2 % 256 ∧ (vl_comb cc la lb).length ≤ 32 ∧ (hk_un [] (HA ++ HB)).length ≤ 3 ∧ T.1 + hk_nd T cc ≤ 48
theorem vg_comb {n c : Nat} {la lb : List Nat} (hn : n ≤ 48) (hc : c < n) (ga : hk_gt n la) (gb : hk_gt n lb) (ea : hk_ise la) (eb : hk_ise lb) (hl : (vl_comb c la lb).length ≤ 32) : hk_gt n (vl_comb c la lb) := by
  obtain ⟨a1, a2, a3, a4, a5, a6, a7, a8⟩ := hk_ise_sides ga ea
  obtain ⟨b1, b2, b3, b4, b5, b6, b7, b8⟩ := hk_ise_sides gb eb
  have e : vl_comb c la lb = hk_eq c (196608 :: (hk_fm (fun q => [hk_c la q]) 3 (hk_e la 3 - 3) ++ hk_fm (fun q => [hk_c lb q]) 3 (hk_e lb 3 - 3))) (196608 :: (hk_fm (fun q => [hk_c la q]) (hk_e la 3) (la.length - hk_e la 3) ++ hk_fm (fun q => [hk_c lb q]) (hk_e lb 3) (lb.length - hk_e lb 3))) := by
    unfold vl_comb hk_eq
    simp
  have two : ∀ x y : List Nat, hk_run 1 x = some 0 → hk_run 1 y = some 0 → hk_run 1 (196608 :: (x ++ y)) = some 0 := by
    intro x y hx hy
    rw [hk_run_s, hk_ar_3 (by decide)]
    show hk_run 2 (x ++ y) = _
    rw [hk_run_app _ _ _ _ (hk_run1 hx 1)]; exact hy
  have gc : ∀ x y : List Nat, (∀ c, c ∈ x → hk_gc n c) → (∀ c, c ∈ y → hk_gc n c) → ∀ c, c ∈ 196608 :: (x ++ y) → hk_gc n c := by
    intro x y hx hy c hc
    rcases List.mem_cons.mp hc with z | z
    · exact ⟨by omega, fun y => by omega⟩
    · rcases List.mem_append.mp z with z | z
      · exact hx c z
      · exact hy c z
  refine ⟨?_, hl, ?_⟩
  · rw [e]; exact hk_eq_run (by omega) (two _ _ a1 b1) (two _ _ a2 b2)
  · rw [e]; exact hk_eq_gc hc hn (gc _ _ a3 b3) (gc _ _ a4 b4)
def vl_abs (c vc : Nat) (la : List Nat) : List Nat := [196608, 196608, 131072 + c] ++ hk_abl la 3 (hk_e la 3 - 3) vc ++ hk_abl la (hk_e la 3) (la.length - hk_e la 3) vc
def vc_abs (T : hk_T) (la : List Nat) (HA : List (List Nat)) (vc : Nat) : Prop :=
  hk_ise la ∧ vc / 65536 = 1 ∧ (∀ h, h ∈ HA → ¬ vc ∈ h) ∧ la.length + 2 ≤ 32 ∧ ∃ t, (hk_xa T (vc % 256) (hk_c la 2 % 256)).1 = some t
theorem vg_abs {n c vc : Nat} {la : List Nat} (hn : n ≤ 48) (hc : c < n) (hv : vc / 65536 = 1) (ga : hk_gt n la) (ea : hk_ise la) (hl : la.length + 2 ≤ 32) : hk_gt n (vl_abs c vc la) := by
  obtain ⟨a1, a2, a3, a4, a5, a6, a7, a8⟩ := hk_ise_sides ga ea
  obtain ⟨t1, t2, t3, t4, t5, t6, t7⟩ := hk_ise_at ga.1 ea
  refine ⟨hk_eq_run (by omega) (hk_abl_run (by omega) hv a1) (hk_abl_run (by omega) hv a2), ?_, hk_eq_gc hc hn (hk_abl_gc (by omega) ga.2.1 ga.2.2) (hk_abl_gc (by omega) ga.2.1 ga.2.2)⟩
  unfold vl_abs
  rw [List.length_append, List.length_append, hk_abl_len, hk_abl_len]
  show 3 + (hk_e la 3 - 3 + 1) + (la.length - hk_e la 3 + 1) ≤ 32
  omega
def vl_mp (la : List Nat) : List Nat := hk_fm (fun q => [hk_c la q]) (hk_e la 3) (la.length - hk_e la 3)
def vc_mp (la lb : List Nat) (HA HB : List (List Nat)) : Prop := hk_ise la ∧ (la.drop 3).take (hk_e la 3 - 3) = lb ∧ (hk_un [] (HA ++ HB)).length ≤ 3
theorem vg_mp {n : Nat} {la : List Nat} (ga : hk_gt n la) (ea : hk_ise la) : hk_gt n (vl_mp la) := by
  obtain ⟨a1, a2, a3, a4, a5, a6, a7, a8⟩ := hk_ise_sides ga ea
  have := ga.2.1
  exact ⟨a2, by unfold vl_mp; rw [hk_fm_len]; omega, a4⟩
def hk_ne (l : List Nat) : List Nat → Bool := fun t => decide (t ≠ l)
theorem hk_ne_iff (l t : List Nat) : hk_ne l t = true ↔ t ≠ l := decide_eq_true_iff
def vh_ded (la lb : List Nat) (HA HB : List (List Nat)) : List (List Nat) := hk_un [] (HA.filter (hk_ne lb) ++ HB.filter (hk_ne la))
def vc_ded (la lb : List Nat) (HA HB : List (List Nat)) : Prop := (vh_ded la lb HA HB).length ≤ 3 ∧ (hk_eq 0 la lb).length ≤ 32
def vh_inst (HA : List (List Nat)) (vc : Nat) (u : List Nat) : List (List Nat) := HA.map (fun h => hk_sb h vc u)
def vc_inst (la u : List Nat) (HA : List (List Nat)) (vc : Nat) : Prop :=
  (hk_sb la vc u).length ≤ 32 ∧ (∀ h, h ∈ HA → (hk_sb h vc u).length ≤ 32) ∧ (hk_un [] (vh_inst HA vc u)).length ≤ 3
theorem vg_inst {n vc : Nat} {l u : List Nat} (hv : vc / 65536 = 1) (g : hk_gt n l) (gu : hk_gt n u) (hl : (hk_sb l vc u).length ≤ 32) : hk_gt n (hk_sb l vc u) :=
  ⟨hk_sb_run g.1 hv gu.1, hl, hk_sb_gc g.2.2 gu.2.2⟩
end
section
/-! the component's rules -/
section
variable {xn xc xm xd xh : Int32} {xA xR xK xS xY xP xE : Nat → Int32} {T : hk_T} {nM nH cM cH : Nat} {TY HC : Nat → Nat} {G : Nat → List Nat}
theorem xa_iseq {post : Int32 → Prop} {a n : Nat} {l : List Nat} (ha : a < nH) (hH : nH ≤ 16) (h : hk_h xK xS (32 + a * 4) l) (g : hk_gt n l) (k1 : hk_ise l → post 1) (k0 : ¬ hk_ise l → post 0) : wpX_isEquation post (xn, xc, xm, xd, nI nH, xA, xR, xK, xS, xY, xP, xE) (nI a) := by
  have hl := g.2.1
  have l0 := hk_gt_pos g
  refine hk_ok1 (by omega) ha (br_f (by decide) ?_)
  refine xa_part a 0 ?_
  rw [Nat.add_zero]
  have c0 := (hk_gt_c g l0).1
  refine xa_kind (p := 0) h (by omega) l0 (by omega) c0 ?_
  refine pk_eq (hk_c l 0 / 65536) 3 (fun e0 => ?_) (fun e => k0 (fun q => e q.1))
  have a1 := hk_at_s (hk_at0 g.1)
  rw [hk_ar_3 e0] at a1
  have l1 := hk_at_lt a1
  have c1 : hk_c l 1 < 524288 := (hk_gt_c g l1).1
  refine xa_kind (p := 1) h (by omega) l1 (by omega) c1 ?_
  refine pk_eq (hk_c l 1 / 65536) 3 (fun e1 => ?_) (fun e => k0 (fun q => e q.2.1))
  have a2 := hk_at_s a1
  rw [hk_ar_3 e1] at a2
  have l2 := hk_at_lt a2
  have c2 : hk_c l 2 < 524288 := (hk_gt_c g l2).1
  refine xa_kind (p := 2) h (by omega) l2 (by omega) c2 ?_
  exact pk_eq (hk_c l 2 / 65536) 2 (fun e2 => k1 ⟨e0, e1, e2⟩) (fun e => k0 (fun q => e q.2.2))
theorem xa_iseq0 {post : Int32 → Prop} {x : Int32} (h : ∀ j, j < nH → x ≠ nI j) (k : post 0) : wpX_isEquation post (xn, xc, xm, xd, nI nH, xA, xR, xK, xS, xY, xP, xE) x := hk_ok0 h (br_t rfl k)
theorem xa_var {post : Int32 → Prop} {t n : Nat} {l : List Nat} (ht : t < nM) (h32 : nM ≤ 32) (h : hk_h xK xS t l) (g : hk_gt n l) (k1 : hk_c l 0 / 65536 = 1 → post 1) (k0 : ¬ hk_c l 0 / 65536 = 1 → post 0) : wpX_isVariable post (xn, xc, nI nM, xd, xh, xA, xR, xK, xS, xY, xP, xE) (nI t) := by
  have c0 := (hk_gt_c g (hk_gt_pos g)).1
  refine hk_ok1 (by omega) ht (br_f (by decide) ?_)
  refine xa_kind (p := 0) h (by omega) (hk_gt_pos g) (by omega) c0 ?_
  exact pk_eq (hk_c l 0 / 65536) 1 k1 k0
theorem xa_var0 {post : Int32 → Prop} {x : Int32} (h : ∀ j, j < nM → x ≠ nI j) (k : post 0) : wpX_isVariable post (xn, xc, nI nM, xd, xh, xA, xR, xK, xS, xY, xP, xE) x := hk_ok0 h (br_t rfl k)
theorem xa_conc {post : Int32 → SX → Prop} {a s t : Nat} {l r : List Nat} (hb : hk_tb T xA xR) (ht : hk_ti T) (ha : a < T.1) (hH : nH < 16) (hs : s < 98) (ht' : t < 98) (hso : s ≠ 32 + nH * 4) (hto : t ≠ 32 + nH * 4) (ll : l.length ≤ 32) (lr : r.length ≤ 32) (h1 : hk_h xK xS s l) (h2 : hk_h xK xS t r)
    (k1 : (hk_eq a l r).length ≤ 32 ∧ T.1 + hk_nd T a ≤ 48 → ∀ A R K S : Nat → Int32, hk_tb (hk_ie T a).2 A R → hk_h K S (32 + nH * 4) (hk_eq a l r) → hk_fr (fun s => s = 32 + nH * 4) xK xS K S → post 1 (nI (hk_ie T a).2.1, xc, xm, xd, nI nH, A, R, K, S, xY, xP, xE))
    (k0 : ¬ ((hk_eq a l r).length ≤ 32 ∧ T.1 + hk_nd T a ≤ 48) → ∀ A R K S : Nat → Int32, hk_tb T A R → hk_fr (fun s => s = 32 + nH * 4) xK xS K S → post 0 (nI T.1, xc, xm, xd, nI nH, A, R, K, S, xY, xP, xE)) : wpX_concludeEquation post (nI T.1, xc, xm, xd, nI nH, xA, xR, xK, xS, xY, xP, xE) (nI a) (nI s) (nI t) := by
  have el := hk_eq_len a l r
  unfold wpX_concludeEquation
  dsimp only
  refine xa_part nH 0 ?_
  rw [Nat.add_zero]
  refine xa_start (by omega) (fun K1 S1 q1 f1 => ⟨vp_in_nI hs (by omega), ?_⟩)
  have s1 := hk_fr_h f1 hso h1
  have t1 := hk_fr_h f1 hto h2
  refine xa_all (by omega) hs hso ll q1 s1 (by simp) (hk_sz s1 (by omega)) (fun K2 S2 q2 f2 => ⟨vp_in_nI ht' (by omega), ?_⟩)
  have t2 := hk_fr_h f2 hto t1
  refine xa_all (by omega) ht' hto lr q2 t2 (by rw [List.length_append]; show 3 + l.length < 90000; omega) (hk_sz t2 (by omega)) (fun K3 S3 q3 f3 => ?_)
  have f13 := hk_fr_t (hk_fr_t f1 f2) f3
  have q3 : hk_h K3 S3 (32 + nH * 4) (hk_eq a l r) := q3
  refine ⟨vp_in_nI (by omega) (by omega), ?_⟩
  dsimp only
  rw [hk_sz q3 (by omega)]
  refine pk_lt 32 (hk_eq a l r).length (fun z => k0 (fun y => by omega) xA xR K3 S3 hb f13) (fun z => ?_)
  refine xa_internEq hb ht ha (fun A R hb' => ?_)
  rcases Nat.lt_or_ge 48 (T.1 + hk_nd T a) with w | w
  · rw [hk_xe_nofit ht (by omega)] at hb' ⊢
    exact br_t rfl (k0 (fun y => by omega) A R K3 S3 hb' f13)
  · obtain ⟨e, j, hj⟩ := hk_xe_fit ht ha w
    have hj2 := (hk_ie_ok ht ha).2.2 j hj
    have hj3 := (hk_ie_ok ht ha).1.2.1
    rw [e] at hb' ⊢
    rw [hj]
    exact br_f (hk_o_ne (by omega)) (k1 ⟨z, w⟩ A R K3 S3 hb' q3 f13)
/-! t = r for a term t: REFL, BETA, BETA_NORM -/
def hk_fq (T : hk_T) (a : Nat) (l r : List Nat) : Prop := (hk_eq a l r).length ≤ 32 ∧ T.1 + hk_nd T a ≤ 48
theorem hk_fq_good {T : hk_T} {a : Nat} {l r : List Nat} (ht : hk_ti T) (ha : a < T.1) (gl : hk_gt T.1 l) (rr : hk_run 1 r = some 0) (rc : ∀ c, c ∈ r → hk_gc T.1 c) (h : hk_fq T a l r) : hk_good T (some (hk_eq a l r, [], (hk_ie T a).2)) := by
  obtain ⟨i1, i2, i3⟩ := hk_ie_ok ht ha
  have hn := ht.2.1
  have g : hk_gt T.1 (hk_eq a l r) := ⟨hk_eq_run (by omega) gl.1 rr, h.1, hk_eq_gc ha hn gl.2.2 rc⟩
  exact ⟨hk_gt_mono g i2, fun y hy => absurd hy List.not_mem_nil, by decide, i1, i2⟩
theorem xr_refl0 {post : Int32 → SX → Prop} {x : Int32} (hb : hk_tb T xA xR) (h : ∀ j, j < nM → x ≠ nI j) (k : xr_K post T nM nH xc xd xK xS xY xP none) : wpX_byRefl post (nI T.1, xc, nI nM, xd, nI nH, xA, xR, xK, xS, xY, xP, xE) x :=
  hk_ok0 h (br_t rfl (k xA xR xK xS xP xE hb hk_fr_r (fun _ _ => rfl)))
theorem xr_refl {post : Int32 → SX → Prop} {t : Nat} (I : hk_I T nM TY nH HC G cM cH) (R : hk_R T nM TY nH HC G xA xR xY xP (hk_h xK xS)) (hH : nH < cH) (hP : xP nH = nI 0) (ht : t < nM)
    (k1 : hk_fq T (TY t) (G t) (G t) → xr_K post T nM nH xc xd xK xS xY xP (some (hk_eq (TY t) (G t) (G t), [], (hk_ie T (TY t)).2))) (k0 : ¬ hk_fq T (TY t) (G t) (G t) → xr_K post T nM nH xc xd xK xS xY xP none) : wpX_byRefl post (nI T.1, xc, nI nM, xd, nI nH, xA, xR, xK, xS, xY, xP, xE) (nI t) := by
  obtain ⟨i1, i2, i3, i4, i5, i6, i7⟩ := I
  obtain ⟨r1, r2, r3⟩ := R
  obtain ⟨ty, g, -⟩ := i6 t ht
  obtain ⟨eY, eh⟩ := r2 t ht
  refine hk_ok1 (by omega) ht (br_f (by decide) ⟨vp_in_nI (by omega) (by omega), ?_⟩)
  rw [nI_clamp (by omega), eY]
  refine xa_conc r1 i1 ty (by omega) (by omega) (by omega) (by omega) (by omega) g.2.1 g.2.1 eh eh (fun c A R K S hb h f => br_f (by decide) ?_) (fun c A R K S hb f => br_t rfl ?_)
  · exact k1 c A R K S xP xE hb h (fun i hi => absurd hi (Nat.not_lt_zero i)) (hk_fr_w f (fun s e => Nat.le_of_eq e.symm)) hP (fun _ _ => rfl)
  · exact k0 c A R K S xP xE hb (hk_fr_w f (fun s e => Nat.le_of_eq e.symm)) (fun _ _ => rfl)
theorem xr_beta0 {post : Int32 → SX → Prop} {x : Int32} (hb : hk_tb T xA xR) (h : ∀ j, j < nM → x ≠ nI j) (k : xr_K post T nM nH xc xd xK xS xY xP none) : wpX_byBeta post (nI T.1, xc, nI nM, xd, nI nH, xA, xR, xK, xS, xY, xP, xE) x :=
  hk_ok0 h (br_t rfl (k xA xR xK xS xP xE hb hk_fr_r (fun _ _ => rfl)))
theorem xr_beta {post : Int32 → SX → Prop} {t : Nat} (I : hk_I T nM TY nH HC G cM cH) (R : hk_R T nM TY nH HC G xA xR xY xP (hk_h xK xS)) (hH : nH < cH) (hP : xP nH = nI 0) (ht : t < nM)
    (k1 : hk_rx (G t) 0 ∧ hk_fq T (TY t) (G t) (hk_con (G t) 0) → xr_K post T nM nH xc xd xK xS xY xP (some (hk_eq (TY t) (G t) (hk_con (G t) 0), [], (hk_ie T (TY t)).2))) (k0 : ¬ (hk_rx (G t) 0 ∧ hk_fq T (TY t) (G t) (hk_con (G t) 0)) → xr_K post T nM nH xc xd xK xS xY xP none) : wpX_byBeta post (nI T.1, xc, nI nM, xd, nI nH, xA, xR, xK, xS, xY, xP, xE) (nI t) := by
  obtain ⟨i1, i2, i3, i4, i5, i6, i7⟩ := I
  obtain ⟨r1, r2, r3⟩ := R
  obtain ⟨ty, g, -⟩ := i6 t ht
  obtain ⟨eY, eh⟩ := r2 t ht
  refine hk_ok1 (by omega) ht (br_f (by decide) ?_)
  refine xa_redex (p := 0) eh (by omega) g (hk_gt_pos g) (fun rx => br_f (by decide) ?_) (fun rx => br_t rfl (k0 (fun c => rx c.1) xA xR xK xS xP xE r1 hk_fr_r (fun _ _ => rfl)))
  refine xa_contract (o := 96) (r := 0) (by omega) (by omega) (by omega) g rx eh (fun K S E h f => ?_)
  have f' := hk_fr_w (V := fun s => 32 + nH * 4 ≤ s) f (fun s e => by have e : s = 96 := e; omega)
  have big := hk_con_len g.1 g.2.1 rx
  refine pk_lt 32 (hk_con (G t) 0).length (fun z => k0 (fun c => ?_) xA xR K S xP E r1 f' (fun _ _ => rfl)) (fun z => ⟨vp_in_nI (by omega) (by omega), ?_⟩) rfl h.1
  · have := c.2.1
    rw [hk_eq_len] at this
    omega
  rw [nI_clamp (by omega), eY]
  refine xa_conc r1 i1 ty (by omega) (s := t) (t := 96) (by omega) (by omega) (by omega) (by omega) g.2.1 z (hk_fr_h f (by omega) eh) h (fun c A R K2 S2 hb h2 f2 => br_f (by decide) ?_) (fun c A R K2 S2 hb f2 => br_t rfl ?_)
  · exact k1 ⟨rx, c⟩ A R K2 S2 xP E hb h2 (fun i hi => absurd hi (Nat.not_lt_zero i)) (hk_fr_t f' (hk_fr_w f2 (fun s e => Nat.le_of_eq e.symm))) hP (fun _ _ => rfl)
  · exact k0 (fun q => c q.2) A R K2 S2 xP E hb (hk_fr_t f' (hk_fr_w f2 (fun s e => Nat.le_of_eq e.symm))) (fun _ _ => rfl)
end
end
section
/-! the component's rules, continued -/
section
variable {xn xc xm xd xh : Int32} {xA xR xK xS xY xP xE : Nat → Int32} {T : hk_T} {nM nH cM cH : Nat} {TY HC : Nat → Nat} {G : Nat → List Nat}
theorem xr_norm_l {post : Int32 → SX → Prop} {t n : Nat} (K0 S0 : Nat → Int32) :
    ∀ (d st : Nat) (K S E : Nat → Int32) (cur : List Nat), st + d = 64 → hk_gt n cur → hk_h K S 96 cur → hk_fr (fun s => s = 96 ∨ s = 97) K0 S0 K S →
      (∀ r, hk_nf d cur = some r → ∀ K' S' E' : Nat → Int32, hk_h K' S' 96 r → hk_fr (fun s => s = 96 ∨ s = 97) K0 S0 K' S' → wX_byBetaNorm_81 post (nI t) (-1) xn xc xm xd xh xA xR K' S' xY xP E') →
      (hk_nf d cur = none → ∀ K' S' E' : Nat → Int32, hk_fr (fun s => s = 96 ∨ s = 97) K0 S0 K' S' → post 0 (xn, xc, xm, xd, xh, xA, xR, K', S', xY, xP, E')) →
      wX_byBetaNorm_26 post (nI t) (d + 1) (hk_o (hk_lr cur cur.length 0)) (nI st) xn xc xm xd xh xA xR K S xY xP E := by
  intro d
  induction d with
  | zero =>
    intro st K S E cur hst g h fr kS k0
    refine br_t (nI_le (a := 64) (by omega) (by omega)) ?_
    cases e : hk_lr cur cur.length 0 with
    | none => exact kS cur (hk_nf_n 0 e) K S E h fr
    | some r =>
      have w := (hk_lr_in e).1
      have hl := g.2.1
      exact br_f (hk_o_ne (by omega)) (k0 (hk_nf_0 e) K S E fr)
  | succ d ih =>
    intro st K S E cur hst g h fr kS k0
    refine br_f (nI_ge (b := 64) (by omega) (by omega)) ?_
    cases e : hk_lr cur cur.length 0 with
    | none => exact br_t rfl (kS cur (hk_nf_n (d + 1) e) K S E h fr)
    | some r =>
      have rx := hk_lr_in e
      have w := rx.1
      have hl := g.2.1
      refine br_f (hk_o_ne (by omega)) ?_
      refine xa_contract (s := 96) (o := 97) (r := r) (by omega) (by omega) (by omega) g rx h (fun K1 S1 E1 h1 f1 => ?_)
      have fr1 := hk_fr_t fr (hk_fr_w f1 (fun s e => Or.inr e))
      have big := hk_con_len g.1 g.2.1 rx
      refine pk_le (hk_con cur r).length 32 (fun z => ?_) (fun z => k0 (hk_nf_z e (by omega)) K1 S1 E1 fr1) h1.1 rfl
      rw [hk_nf_s e z] at kS k0
      have g1 := hk_con_gt g rx z
      refine xa_copy (s := 97) (o := 96) (by omega) (by omega) (by omega) z h1 (fun K2 S2 h2 f2 => ?_)
      refine xa_lr (s := 96) h2 (by omega) g1 (nm_r (nI_1 _) ?_)
      exact ih (st + 1) K2 S2 E1 (hk_con cur r) (by omega) g1 h2 (hk_fr_t fr1 (hk_fr_w f2 (fun s e => Or.inl e))) kS k0
theorem xr_norm0 {post : Int32 → SX → Prop} {x : Int32} (hb : hk_tb T xA xR) (h : ∀ j, j < nM → x ≠ nI j) (k : xr_K post T nM nH xc xd xK xS xY xP none) : wpX_byBetaNorm post (nI T.1, xc, nI nM, xd, nI nH, xA, xR, xK, xS, xY, xP, xE) x :=
  hk_ok0 h (br_t rfl (k xA xR xK xS xP xE hb hk_fr_r (fun _ _ => rfl)))
theorem xr_norm {post : Int32 → SX → Prop} {t : Nat} (I : hk_I T nM TY nH HC G cM cH) (R : hk_R T nM TY nH HC G xA xR xY xP (hk_h xK xS)) (hH : nH < cH) (hP : xP nH = nI 0) (ht : t < nM)
    (k1 : ∀ r, hk_nf 64 (G t) = some r → hk_fq T (TY t) (G t) r → xr_K post T nM nH xc xd xK xS xY xP (some (hk_eq (TY t) (G t) r, [], (hk_ie T (TY t)).2))) (k0 : (∀ r, hk_nf 64 (G t) = some r → ¬ hk_fq T (TY t) (G t) r) → xr_K post T nM nH xc xd xK xS xY xP none) : wpX_byBetaNorm post (nI T.1, xc, nI nM, xd, nI nH, xA, xR, xK, xS, xY, xP, xE) (nI t) := by
  obtain ⟨i1, i2, i3, i4, i5, i6, i7⟩ := I
  obtain ⟨r1, r2, r3⟩ := R
  obtain ⟨ty, g, -⟩ := i6 t ht
  obtain ⟨eY, eh⟩ := r2 t ht
  have W : ∀ s, s = 96 ∨ s = 97 → 32 + nH * 4 ≤ s := fun s e => by omega
  refine hk_ok1 (by omega) ht (br_f (by decide) ?_)
  refine xa_copy (s := t) (o := 96) (by omega) (by omega) (by omega) g.2.1 eh (fun K1 S1 h1 f1 => ?_)
  refine xa_lr (s := 96) h1 (by omega) g ⟨65, ?_⟩
  refine xr_norm_l xK xS 64 0 K1 S1 xE (G t) (by omega) g h1 (hk_fr_w f1 (fun s e => Or.inl e)) (fun r hr K2 S2 E2 h2 f2 => ?_) (fun hn K2 S2 E2 f2 => ?_)
  · have gr := hk_nf_gt g hr
    refine br_t rfl ⟨vp_in_nI (by omega) (by omega), ?_⟩
    rw [nI_clamp (by omega), eY]
    refine xa_conc r1 i1 ty (by omega) (s := t) (t := 96) (by omega) (by omega) (by omega) (by omega) g.2.1 gr.2.1 (hk_fr_h f2 (by omega) eh) h2 (fun c A R K3 S3 hb h3 f3 => br_f (by decide) ?_) (fun c A R K3 S3 hb f3 => br_t rfl ?_)
    · exact k1 r hr c A R K3 S3 xP E2 hb h3 (fun i hi => absurd hi (Nat.not_lt_zero i)) (hk_fr_t (hk_fr_w f2 W) (hk_fr_w f3 (fun s e => Nat.le_of_eq e.symm))) hP (fun _ _ => rfl)
    · refine k0 (fun q hq => ?_) A R K3 S3 xP E2 hb (hk_fr_t (hk_fr_w f2 W) (hk_fr_w f3 (fun s e => Nat.le_of_eq e.symm))) (fun _ _ => rfl)
      rw [hr] at hq
      cases hq
      exact c
  · refine k0 (fun q hq => ?_) xA xR K2 S2 xP E2 r1 (hk_fr_w f2 W) (fun _ _ => rfl)
    rw [hn] at hq; cases hq
theorem xr_assume0 {post : Int32 → SX → Prop} {x : Int32} (hb : hk_tb T xA xR) (h : ∀ j, j < nM → x ≠ nI j) (k : xr_K post T nM nH xc xd xK xS xY xP none) : wpX_byAssume post (nI T.1, xc, nI nM, xd, nI nH, xA, xR, xK, xS, xY, xP, xE) x :=
  hk_ok0 h (br_t rfl (k xA xR xK xS xP xE hb hk_fr_r (fun _ _ => rfl)))
theorem xr_assume {post : Int32 → SX → Prop} {t : Nat} (I : hk_I T nM TY nH HC G cM cH) (R : hk_R T nM TY nH HC G xA xR xY xP (hk_h xK xS)) (hH : nH < cH) (hP : xP nH = nI 0) (ht : t < nM)
    (k1 : TY t = 0 → xr_K post T nM nH xc xd xK xS xY xP (some (G t, [G t], T))) (k0 : TY t ≠ 0 → xr_K post T nM nH xc xd xK xS xY xP none) : wpX_byAssume post (nI T.1, xc, nI nM, xd, nI nH, xA, xR, xK, xS, xY, xP, xE) (nI t) := by
  obtain ⟨i1, i2, i3, i4, i5, i6, i7⟩ := I
  obtain ⟨r1, r2, r3⟩ := R
  obtain ⟨ty, g, -⟩ := i6 t ht
  obtain ⟨eY, eh⟩ := r2 t ht
  have hn := i1.2.1
  refine hk_ok1 (by omega) ht (br_f (by decide) ⟨vp_in_nI (by omega) (by omega), ?_⟩)
  rw [nI_clamp (by omega), eY]
  refine pk_eq (TY t) 0 (fun z => ?_) (fun z => k0 z xA xR xK xS xP xE r1 hk_fr_r (fun _ _ => rfl))
  refine xa_part nH 0 ?_
  rw [Nat.add_zero]
  refine xa_copy (by omega) (by omega) (by omega) g.2.1 eh (fun K1 S1 h1 f1 => ?_)
  refine xa_ins (H := []) (n := T.1) (by omega) rfl (by omega) (by omega) g hk_nilm (hk_fr_h f1 (by omega) eh) (fun i hi => absurd hi (Nat.not_lt_zero i)) hP (by decide) (fun _ K2 S2 P2 h2 f2 p1 p2 => ⟨rfl, ?_⟩) (fun h3 => absurd h3 (by show ¬ 3 < 1; decide))
  exact k1 z xA xR K2 S2 P2 xE r1 (hk_fr_h f2 (by omega) h1) h2 (hk_fr_t (hk_fr_w f1 (fun s e => Nat.le_of_eq e.symm)) (hk_fr_w f2 (fun s e => by have e : 32 + nH * 4 + 1 ≤ s ∧ s < 32 + nH * 4 + 1 + 3 := e; omega))) p1 p2
theorem xr_trans {post : Int32 → SX → Prop} {a b : Nat} {HA HB : List (List Nat)} (I : hk_I T nM TY nH HC G cM cH) (R : hk_R T nM TY nH HC G xA xR xY xP (hk_h xK xS)) (hH : nH < cH) (hP : xP nH = nI 0) (ha : a < nH) (hb : b < nH) (eA : HA = hk_H G (32 + a * 4 + 1) (HC a)) (eB : HB = hk_H G (32 + b * 4 + 1) (HC b))
    (k1 : vc_trans (G (32 + a * 4)) (G (32 + b * 4)) HA HB → xr_K post T nM nH xc xd xK xS xY xP (some (vl_trans (G (32 + a * 4)) (G (32 + b * 4)), hk_un [] (HA ++ HB), T)))
    (k0 : ¬ vc_trans (G (32 + a * 4)) (G (32 + b * 4)) HA HB → xr_K post T nM nH xc xd xK xS xY xP none) : wpX_byTrans post (nI T.1, xc, nI nM, xd, nI nH, xA, xR, xK, xS, xY, xP, xE) (nI a) (nI b) := by
  obtain ⟨sA, pA, cA⟩ := hk_R_hs R ha
  obtain ⟨sB, pB, cB⟩ := hk_R_hs R hb
  obtain ⟨lA, gA, gcA⟩ := hk_I_hs I ha
  obtain ⟨lB, gB, gcB⟩ := hk_I_hs I hb
  rw [← eA] at sA pA lA gA
  rw [← eB] at sB pB lB gB
  obtain ⟨i1, i2, i3, i4, i5, i6, i7⟩ := I
  obtain ⟨r1, r2, r3⟩ := R
  generalize G (32 + a * 4) = la at *
  generalize G (32 + b * 4) = lb at *
  have la32 := gcA.2.1
  have lb32 := gcB.2.1
  have ref : ∀ (c : ¬ vc_trans la lb HA HB), post 0 (nI T.1, xc, nI nM, xd, nI nH, xA, xR, xK, xS, xY, xP, xE) := fun c => k0 c xA xR xK xS xP xE r1 hk_fr_r (fun _ _ => rfl)
  unfold wpX_byTrans
  dsimp only
  refine xa_iseq ha (by omega) cA gcA (fun ea => br_f (by decide) ?_) (fun ea => br_t rfl (ref (fun c => ea c.1)))
  refine xa_iseq hb (by omega) cB gcB (fun eb => br_f (by decide) ?_) (fun eb => br_t rfl (ref (fun c => eb c.2.1)))
  refine xa_part a 0 ?_
  refine xa_part b 0 ?_
  rw [Nat.add_zero, Nat.add_zero]
  obtain ⟨t1, t2, t3, t4, t5, t6, t7⟩ := hk_ise_at gcA.1 ea
  obtain ⟨u1, u2, u3, u4, u5, u6, u7⟩ := hk_ise_at gcB.1 eb
  obtain ⟨-, -, -, -, ty, ty2, dA, -⟩ := hk_ise_sides gcA ea
  have hn := i1.2.1
  refine xa_end (p := 3) cA (by omega) la32 (fun c hc => (gcA.2.2 c hc).1) t1 ?_
  refine xa_end (p := 3) cB (by omega) lb32 (fun c hc => (gcB.2.2 c hc).1) u1 ?_
  refine ⟨vp_in_nI (by omega) (by omega), nm_r (e' := nI (la.length - hk_e la 3)) (by rw [hk_sz cA (by omega), pk_sub (by omega)]) ?_⟩
  have e3 : nI (hk_e lb 3) - 3 = nI (hk_e lb 3 - 3) := pk_sub (b := 3) (by omega)
  rw [e3]
  have dl : (la.drop (hk_e la 3)).take (la.length - hk_e la 3) = la.drop (hk_e la 3) := List.take_of_length_le (by rw [List.length_drop]; omega)
  refine pk_eq (hk_e lb 3 - 3) (la.length - hk_e la 3) (fun en => ?_) (fun en => ref (fun c => ?_))
  rotate_left
  · have := congrArg List.length c.2.2.1
    rw [List.length_drop, List.length_take, List.length_drop] at this
    omega
  refine xa_same cA cB (by omega) (by omega) gcA gcB (f := hk_e la 3) (g := 3) (m := la.length - hk_e la 3) (by omega) (by omega) (fun es => br_f (by decide) ?_) (fun es => br_t rfl (ref (fun c => es ?_)))
  rotate_left
  · rw [dl, ← en]; exact c.2.2.1
  rw [dl, ← en] at es
  refine xa_part nH 0 ?_
  rw [Nat.add_zero]
  refine xa_type (p := 2) cA (by omega) (by omega) (by omega) (hk_gt_c gcA (by omega)).1 ?_
  refine xa_start (by omega) (fun K1 S1 q1 f1 => ?_)
  refine xa_run (p := 3) (by omega) (by omega) (by omega) (by omega) (by omega) la32 q1 (hk_fr_h f1 (by omega) cA) (by simp) (fun K2 S2 q2 f2 => ⟨vp_in_nI (by omega) (by omega), ?_⟩)
  have f12 := hk_fr_t f1 f2
  have cB2 := hk_fr_h f12 (by omega) cB
  try dsimp only
  rw [hk_sz cB2 (by omega)]
  refine xa_run (by omega) (by omega) (by omega) (by omega) (Nat.le_refl _) lb32 q2 cB2 (by rw [List.length_append, hk_fm_len]; show 3 + (hk_e la 3 - 3) < 90000; omega) (fun K3 S3 q3 f3 => ⟨vp_in_nI (by omega) (by omega), ?_⟩)
  have f13 := hk_fr_t f12 f3
  have q3 : hk_h K3 S3 (32 + nH * 4) (vl_trans la lb) := q3
  have F13 := hk_fr_w (V := fun s => 32 + nH * 4 ≤ s) f13 (fun s e => Nat.le_of_eq e.symm)
  try dsimp only
  rw [hk_sz q3 (by omega)]
  have big : (vl_trans la lb).length < 2000 := by
    unfold vl_trans
    rw [List.length_append, List.length_append, hk_fm_len, hk_fm_len]
    show 3 + (hk_e la 3 - 3) + (lb.length - hk_e lb 3) < 2000
    omega
  refine pk_lt 32 (vl_trans la lb).length (fun z => k0 (fun c => by have := c.2.2.2.1; omega) xA xR K3 S3 xP xE r1 F13 (fun _ _ => rfl)) (fun z => ?_)
  have V : ∀ s, 32 + nH * 4 + 1 ≤ s ∧ s < 32 + nH * 4 + 1 + 3 → 32 + nH * 4 ≤ s := fun s e => by omega
  refine xa_add (H := []) (wf := fun _ => true) (n := T.1) (by omega) rfl ha lA gA pA (xa_hs_fr f13 sA (fun i hi => by omega)) (Or.inl ⟨rfl, fun _ => rfl⟩) (fun i hi => absurd hi (Nat.not_lt_zero i)) hP (by decide) hk_nilm (fun h3 K4 S4 P4 h4 f4 p1 p2 => br_f (by decide) ?_) (fun h3 K4 S4 P4 f4 p2 => br_t rfl ?_)
  rotate_left
  · rw [hk_ft] at h3
    refine k0 (fun c => ?_) xA xR K4 S4 P4 xE r1 (hk_fr_t F13 (hk_fr_w f4 V)) p2
    have c5 := c.2.2.2.2
    rw [hk_un_app] at c5
    have := (hk_un_len (ts := HB) (S := hk_un [] HA)).1
    omega
  rw [hk_ft] at h3 h4 p1
  refine xa_add (H := hk_un [] HA) (wf := fun _ => true) (n := T.1) (by omega) rfl hb lB gB ((p2 b (by omega)).trans pB) (xa_hs_fr f4 (xa_hs_fr f13 sB (fun i hi => by omega)) (fun i hi => by omega)) (Or.inl ⟨rfl, fun _ => rfl⟩) h4 p1 h3 (hk_un_gt hk_nilm gA) (fun h5 K5 S5 P5 h6 f5 p3 p4 => br_f (by decide) ?_) (fun h5 K5 S5 P5 f5 p4 => br_t rfl ?_)
  · rw [hk_ft, ← hk_un_app] at h5 h6 p3
    exact k1 ⟨ea, eb, es, z, h5⟩ xA xR K5 S5 P5 xE r1 (hk_fr_h f5 (by omega) (hk_fr_h f4 (by omega) q3)) h6 (hk_fr_t (hk_fr_t F13 (hk_fr_w f4 V)) (hk_fr_w f5 V)) p3 (fun h hne => (p4 h hne).trans (p2 h hne))
  · rw [hk_ft, ← hk_un_app] at h5
    exact k0 (fun c => by have := c.2.2.2.2; omega) xA xR K5 S5 P5 xE r1 (hk_fr_t (hk_fr_t F13 (hk_fr_w f4 V)) (hk_fr_w f5 V)) (fun h hne => (p4 h hne).trans (p2 h hne))
end
end
section
/-! the component's rules, continued: MK_COMB, ABS, EQ_MP, DEDUCT_ANTISYM, INST -/
section
variable {xn xc xm xd xh : Int32} {xA xR xK xS xY xP xE : Nat → Int32} {T : hk_T} {nM nH cM cH : Nat} {TY HC : Nat → Nat} {G : Nat → List Nat}
theorem xr_comb {post : Int32 → SX → Prop} {a b cc : Nat} {HA HB : List (List Nat)} (I : hk_I T nM TY nH HC G cM cH) (R : hk_R T nM TY nH HC G xA xR xY xP (hk_h xK xS)) (hH : nH < cH) (hP : xP nH = nI 0) (ha : a < nH) (hb : b < nH) (eA : HA = hk_H G (32 + a * 4 + 1) (HC a)) (eB : HB = hk_H G (32 + b * 4 + 1) (HC b)) (hcc : cc = T.2.2 (hk_c (G (32 + a * 4)) 2 % 256))
    (k1 : vc_comb T cc (G (32 + a * 4)) (G (32 + b * 4)) HA HB → xr_K post T nM nH xc xd xK xS xY xP (some (vl_comb cc (G (32 + a * 4)) (G (32 + b * 4)), hk_un [] (HA ++ HB), (hk_ie T cc).2)))
    (k0 : ¬ vc_comb T cc (G (32 + a * 4)) (G (32 + b * 4)) HA HB → xr_K post T nM nH xc xd xK xS xY xP none) : wpX_byMkComb post (nI T.1, xc, nI nM, xd, nI nH, xA, xR, xK, xS, xY, xP, xE) (nI a) (nI b) := by
  obtain ⟨sA, pA, cA⟩ := hk_R_hs R ha
  obtain ⟨sB, pB, cB⟩ := hk_R_hs R hb
  obtain ⟨lA, gA, gcA⟩ := hk_I_hs I ha
  obtain ⟨lB, gB, gcB⟩ := hk_I_hs I hb
  rw [← eA] at sA pA lA gA
  rw [← eB] at sB pB lB gB
  obtain ⟨i1, i2, i3, i4, i5, i6, i7⟩ := I
  obtain ⟨r1, r2, r3⟩ := R
  generalize G (32 + a * 4) = la at *
  generalize G (32 + b * 4) = lb at *
  have la32 := gcA.2.1
  have lb32 := gcB.2.1
  have ref : ∀ (c : ¬ vc_comb T cc la lb HA HB), post 0 (nI T.1, xc, nI nM, xd, nI nH, xA, xR, xK, xS, xY, xP, xE) := fun c => k0 c xA xR xK xS xP xE r1 hk_fr_r (fun _ _ => rfl)
  unfold wpX_byMkComb
  dsimp only
  refine xa_iseq ha (by omega) cA gcA (fun ea => br_f (by decide) ?_) (fun ea => br_t rfl (ref (fun c => ea c.1)))
  refine xa_iseq hb (by omega) cB gcB (fun eb => br_f (by decide) ?_) (fun eb => br_t rfl (ref (fun c => eb c.2.1)))
  refine xa_part a 0 ?_
  refine xa_part b 0 ?_
  rw [Nat.add_zero, Nat.add_zero]
  obtain ⟨t1, t2, t3, t4, t5, t6, t7⟩ := hk_ise_at gcA.1 ea
  obtain ⟨u1, u2, u3, u4, u5, u6, u7⟩ := hk_ise_at gcB.1 eb
  obtain ⟨-, -, -, -, fT, fT2, -, -⟩ := hk_ise_sides gcA ea
  obtain ⟨-, -, -, -, aT, aT2, -, -⟩ := hk_ise_sides gcB eb
  have hn := i1.2.1
  refine xa_type (p := 2) cA (by omega) (by omega) (by omega) (hk_gt_c gcA (by omega)).1 ?_
  refine xa_type (p := 2) cB (by omega) (by omega) (by omega) (hk_gt_c gcB (by omega)).1 ?_
  refine xa_takes r1 i1 fT (by omega) (fun g3 gD => br_f (by decide) ?_) (fun g3 => br_t rfl (ref (fun c => g3 ⟨c.2.2.1, c.2.2.2.1⟩)))
  have cT := (i1.2.2.2.2.2.2 _ g3 fT).2
  rw [← hcc] at cT
  have eR : xR (nI (hk_c la 2 % 256)).toNatClampNeg = nI cc := by rw [nI_clamp (by omega), (r1 _ g3 fT).2, hcc]
  refine xa_end (p := 3) cA (by omega) la32 (fun c hc => (gcA.2.2 c hc).1) t1 ?_
  refine xa_end (p := 3) cB (by omega) lb32 (fun c hc => (gcB.2.2 c hc).1) u1 ?_
  refine xa_part nH 0 ?_
  rw [Nat.add_zero]
  have V48 : vp_in (nI (hk_c la 2 % 256)) 48 := vp_in_nI (by omega) (by omega)
  refine ⟨V48, ?_⟩
  rw [eR]
  refine xa_start (by omega) (fun K1 S1 q1 f1 => ?_)
  refine xa_append (c := 196608) (by omega) q1 (by simp) rfl (fun K2 S2 q2 f2 => ?_)
  have f12 := hk_fr_t f1 f2
  refine xa_run (p := 3) (by omega) (by omega) (by omega) (by omega) (by omega) la32 q2 (hk_fr_h f12 (by omega) cA) (by simp) (fun K3 S3 q3 f3 => ?_)
  have f13 := hk_fr_t f12 f3
  have n3 : ([196608, 196608, 131072 + cc] ++ [196608] ++ hk_fm (fun q => [hk_c la q]) 3 (hk_e la 3 - 3)).length = 4 + (hk_e la 3 - 3) := by
    rw [List.length_append, hk_fm_len]; rfl
  refine xa_run (p := 3) (by omega) (by omega) (by omega) (by omega) (by omega) lb32 q3 (hk_fr_h f13 (by omega) cB) (by omega) (fun K4 S4 q4 f4 => ?_)
  have f14 := hk_fr_t f13 f4
  have n4 := congrArg (· + (hk_e lb 3 - 3)) n3
  refine xa_append (c := 196608) (by omega) q4 (by rw [List.length_append, hk_fm_len]; omega) rfl (fun K5 S5 q5 f5 => ⟨vp_in_nI (by omega) (by omega), ?_⟩)
  have f15 := hk_fr_t f14 f5
  have cA5 := hk_fr_h f15 (by omega) cA
  try dsimp only
  rw [hk_sz cA5 (by omega)]
  refine xa_run (by omega) (by omega) (by omega) (by omega) (Nat.le_refl _) la32 q5 cA5 (by rw [List.length_append, List.length_append, hk_fm_len, n3]; show 4 + (hk_e la 3 - 3) + (hk_e lb 3 - 3) + 1 < 90000; omega) (fun K6 S6 q6 f6 => ⟨vp_in_nI (by omega) (by omega), ?_⟩)
  have f16 := hk_fr_t f15 f6
  have cB6 := hk_fr_h f16 (by omega) cB
  try dsimp only
  rw [hk_sz cB6 (by omega)]
  refine xa_run (by omega) (by omega) (by omega) (by omega) (Nat.le_refl _) lb32 q6 cB6 (by rw [List.length_append, List.length_append, List.length_append, hk_fm_len, hk_fm_len, n3]; show 4 + (hk_e la 3 - 3) + (hk_e lb 3 - 3) + 1 + (la.length - hk_e la 3) < 90000; omega) (fun K7 S7 q7 f7 => ⟨vp_in_nI (by omega) (by omega), ?_⟩)
  have f17 := hk_fr_t f16 f7
  have q7 : hk_h K7 S7 (32 + nH * 4) (vl_comb cc la lb) := q7
  have F17 := hk_fr_w (V := fun s => 32 + nH * 4 ≤ s) f17 (fun s e => Nat.le_of_eq e.symm)
  try dsimp only
  rw [hk_sz q7 (by omega)]
  have big : (vl_comb cc la lb).length < 2000 := by
    unfold vl_comb
    rw [List.length_append, List.length_append, List.length_append, List.length_append, n3, hk_fm_len, hk_fm_len, hk_fm_len]
    show 4 + (hk_e la 3 - 3) + (hk_e lb 3 - 3) + 1 + (la.length - hk_e la 3) + (lb.length - hk_e lb 3) < 2000
    omega
  refine pk_lt 32 (vl_comb cc la lb).length (fun z => k0 (fun c => by have := c.2.2.2.2.1; omega) xA xR K7 S7 xP xE r1 F17 (fun _ _ => rfl)) (fun z => ?_)
  have V : ∀ s, 32 + nH * 4 + 1 ≤ s ∧ s < 32 + nH * 4 + 1 + 3 → 32 + nH * 4 ≤ s := fun s e => by omega
  refine xa_add (H := []) (wf := fun _ => true) (n := T.1) (by omega) rfl ha lA gA pA (xa_hs_fr f17 sA (fun i hi => by omega)) (Or.inl ⟨rfl, fun _ => rfl⟩) (fun i hi => absurd hi (Nat.not_lt_zero i)) hP (by decide) hk_nilm (fun h3 K8 S8 P8 h8 f8 p1 p2 => br_f (by decide) ?_) (fun h3 K8 S8 P8 f8 p2 => br_t rfl ?_)
  rotate_left
  · rw [hk_ft] at h3
    refine k0 (fun c => ?_) xA xR K8 S8 P8 xE r1 (hk_fr_t F17 (hk_fr_w f8 V)) p2
    have c5 := c.2.2.2.2.2.1
    rw [hk_un_app] at c5
    have := (hk_un_len (ts := HB) (S := hk_un [] HA)).1
    omega
  rw [hk_ft] at h3 h8 p1
  refine xa_add (H := hk_un [] HA) (wf := fun _ => true) (n := T.1) (by omega) rfl hb lB gB ((p2 b (by omega)).trans pB) (xa_hs_fr f8 (xa_hs_fr f17 sB (fun i hi => by omega)) (fun i hi => by omega)) (Or.inl ⟨rfl, fun _ => rfl⟩) h8 p1 h3 (hk_un_gt hk_nilm gA) (fun h5 K9 S9 P9 h9 f9 p3 p4 => br_f (by decide) ⟨V48, ?_⟩) (fun h5 K9 S9 P9 f9 p4 => br_t rfl ?_)
  rotate_left
  · rw [hk_ft, ← hk_un_app] at h5
    exact k0 (fun c => by have := c.2.2.2.2.2.1; omega) xA xR K9 S9 P9 xE r1 (hk_fr_t (hk_fr_t F17 (hk_fr_w f8 V)) (hk_fr_w f9 V)) (fun h hne => (p4 h hne).trans (p2 h hne))
  rw [hk_ft, ← hk_un_app] at h5 h9 p3
  have F19 := hk_fr_t (hk_fr_t F17 (hk_fr_w f8 V)) (hk_fr_w f9 V)
  dsimp only
  rw [eR]
  refine xa_internEq r1 i1 cT (fun A R hb' => ?_)
  rcases Nat.lt_or_ge 48 (T.1 + hk_nd T cc) with w | w
  · rw [hk_xe_nofit i1 (by omega)] at hb' ⊢
    exact br_t rfl (k0 (fun c => by have := c.2.2.2.2.2.2; omega) A R K9 S9 P9 xE hb' F19 (fun h hne => (p4 h hne).trans (p2 h hne)))
  · obtain ⟨e, j, hj⟩ := hk_xe_fit i1 cT w
    have hj2 := (hk_ie_ok i1 cT).2.2 j hj
    have hj3 := (hk_ie_ok i1 cT).1.2.1
    rw [e] at hb' ⊢
    rw [hj]
    exact br_f (hk_o_ne (by omega)) (k1 ⟨ea, eb, g3, gD, z, h5, w⟩ A R K9 S9 P9 xE hb' (hk_fr_h f9 (by omega) (hk_fr_h f8 (by omega) q7)) h9 F19 p3 (fun h hne => (p4 h hne).trans (p2 h hne)))
theorem xa_occh_l {post : Int32 → Prop} {v a vc n : Nat} {A : List (List Nat)} (hv : xK (nI v * 32).toNatClampNeg = nI vc) (hvc : vc < 524288) (hv98 : v < 98) (ha : a < 16) (lA : A.length ≤ 3) (gA : ∀ y, y ∈ A → hk_gt n y) (hA : hk_hs (hk_h xK xS) (32 + a * 4 + 1) A) :
    ∀ (d i : Nat), i + d = A.length → ((∃ h, h ∈ A.drop i ∧ vc ∈ h) → post 1) → ((∀ h, h ∈ A.drop i → ¬ vc ∈ h) → post 0) → wX_occursInHyps_10 post (nI v) (nI a) (nI A.length) xn xc xm xd xh xA xR xK xS xY xP xE (d + 1) (nI (i + 1)) := by
  intro d
  induction d with
  | zero =>
    intro i hi k1 k0
    refine br_t (nI_lt (by omega) (by omega)) (k0 (fun h hh => ?_))
    rw [List.drop_of_length_le (by omega)] at hh
    exact absurd hh List.not_mem_nil
  | succ d ih =>
    intro i hi k1 k0
    have il : i < A.length := by omega
    rw [hk_gd_drop il] at k1 k0
    refine br_f (nI_nlt (by omega) (by omega)) ?_
    refine xa_part a (i + 1) ?_
    rw [show 32 + a * 4 + (i + 1) = 32 + a * 4 + 1 + i by omega]
    refine xa_occ hv hvc (hA i il) (by omega) hv98 (gA _ (hk_ix_mem il)) (fun z => br_f (by decide) (k1 ⟨_, List.mem_cons_self, z⟩)) (fun z => br_t rfl (nm_r (nI_1 _) ?_))
    refine ih (i + 1) (by omega) (fun q => k1 ?_) (fun q => k0 (fun h hh => ?_))
    · obtain ⟨h, h1, h2⟩ := q
      exact ⟨h, List.mem_cons_of_mem _ h1, h2⟩
    · rcases List.mem_cons.mp hh with e | e
      · rw [e]; exact z
      · exact q h e
theorem xa_occh {post : Int32 → Prop} {v a vc n : Nat} {A : List (List Nat)} (hv : xK (nI v * 32).toNatClampNeg = nI vc) (hvc : vc < 524288) (hv98 : v < 98) (ha : a < 16) (lA : A.length ≤ 3) (gA : ∀ y, y ∈ A → hk_gt n y) (hPa : xP a = nI A.length) (hA : hk_hs (hk_h xK xS) (32 + a * 4 + 1) A)
    (k1 : (∃ h, h ∈ A ∧ vc ∈ h) → post 1) (k0 : (∀ h, h ∈ A → ¬ vc ∈ h) → post 0) : wpX_occursInHyps post (xn, xc, xm, xd, xh, xA, xR, xK, xS, xY, xP, xE) (nI v) (nI a) :=
  ⟨vp_in_nI ha (by omega), nm_r (e' := nI A.length) (by rw [nI_clamp (by omega)]; exact hPa) ⟨A.length + 1, xa_occh_l hv hvc hv98 ha lA gA hA A.length 0 (by omega) k1 k0⟩⟩
theorem xr_abs {post : Int32 → SX → Prop} {a v vc : Nat} {HA : List (List Nat)} (I : hk_I T nM TY nH HC G cM cH) (R : hk_R T nM TY nH HC G xA xR xY xP (hk_h xK xS)) (hH : nH < cH) (hP : xP nH = nI 0) (ha : a < nH) (hv : v < nM) (eA : HA = hk_H G (32 + a * 4 + 1) (HC a)) (evc : vc = hk_c (G v) 0)
    (k1 : ∀ t, (hk_xa T (vc % 256) (hk_c (G (32 + a * 4)) 2 % 256)).1 = some t → vc_abs T (G (32 + a * 4)) HA vc → xr_K post T nM nH xc xd xK xS xY xP (some (vl_abs t vc (G (32 + a * 4)), hk_un [] HA, (hk_xa T (vc % 256) (hk_c (G (32 + a * 4)) 2 % 256)).2)))
    (k0 : ¬ vc_abs T (G (32 + a * 4)) HA vc → xr_K post T nM nH xc xd xK xS xY xP none) : wpX_byAbs post (nI T.1, xc, nI nM, xd, nI nH, xA, xR, xK, xS, xY, xP, xE) (nI a) (nI v) := by
  obtain ⟨sA, pA, cA⟩ := hk_R_hs R ha
  obtain ⟨lA, gA, gcA⟩ := hk_I_hs I ha
  have vI := hk_I_var I hv
  rw [← evc] at vI
  rw [← eA] at sA pA lA gA
  obtain ⟨i1, i2, i3, i4, i5, i6, i7⟩ := I
  obtain ⟨r1, r2, r3⟩ := R
  obtain ⟨tyv, gv, -⟩ := i6 v hv
  obtain ⟨eYv, ehv⟩ := r2 v hv
  generalize G (32 + a * 4) = la at *
  have la32 := gcA.2.1
  have hn := i1.2.1
  have ref : ∀ (c : ¬ vc_abs T la HA vc), post 0 (nI T.1, xc, nI nM, xd, nI nH, xA, xR, xK, xS, xY, xP, xE) := fun c => k0 c xA xR xK xS xP xE r1 hk_fr_r (fun _ _ => rfl)
  unfold wpX_byAbs
  dsimp only
  refine xa_iseq ha (by omega) cA gcA (fun ea => br_f (by decide) ?_) (fun ea => br_t rfl (ref (fun c => ea c.1)))
  refine xa_var hv (by omega) ehv gv (fun ek => br_f (by decide) ?_) (fun ek => br_t rfl (ref (fun c => ek (by rw [← evc]; exact c.2.1))))
  rw [← evc] at ek
  obtain ⟨v1, v2, v3⟩ := vI ek
  rw [v1] at ehv
  have hvc : xK (nI v * 32).toNatClampNeg = nI vc := by
    rw [hk_ad0, nI_clamp (by omega)]
    exact ehv.2 0 (Nat.zero_lt_one) (by decide)
  refine xa_occh hvc v3 (by omega) (by omega) lA gA pA sA (fun oc => br_f (by decide) (ref (fun c => ?_))) (fun oc => br_t rfl ?_)
  · obtain ⟨h, h1, h2⟩ := oc
    exact c.2.2.1 h h1 h2
  refine xa_part a 0 ?_
  rw [Nat.add_zero]
  refine ⟨vp_in_nI (by omega) (by omega), ?_⟩
  try dsimp only
  rw [hk_sz cA (by omega)]
  have e2 : (2 : Int32) + nI la.length = nI (2 + la.length) := nI_add 2 la.length
  rw [e2]
  refine pk_lt 32 (2 + la.length) (fun z => ref (fun c => by have := c.2.2.2.1; omega)) (fun z => ?_)
  have V : ∀ s, 32 + nH * 4 + 1 ≤ s ∧ s < 32 + nH * 4 + 1 + 3 → 32 + nH * 4 ≤ s := fun s e => by omega
  have lU := (hk_un_len (ts := HA) (S := [])).2
  have lU : (hk_un [] HA).length ≤ 0 + HA.length := lU
  refine xa_add (H := []) (wf := fun _ => true) (n := T.1) (by omega) rfl ha lA gA pA sA (Or.inl ⟨rfl, fun _ => rfl⟩) (fun i hi => absurd hi (Nat.not_lt_zero i)) hP (by decide) hk_nilm (fun h3 K4 S4 P4 h4 f4 p1 p2 => br_f (by decide) ?_) (fun h3 K4 S4 P4 f4 p2 => ?_)
  rotate_left
  · rw [hk_ft] at h3
    omega
  rw [hk_ft] at h3 h4 p1
  have F4 := hk_fr_w (V := fun s => 32 + nH * 4 ≤ s) f4 V
  obtain ⟨t1, t2, t3, t4, t5, t6, t7⟩ := hk_ise_at gcA.1 ea
  obtain ⟨-, -, -, -, sT, sT2, -, -⟩ := hk_ise_sides gcA ea
  have cA4 := hk_fr_h f4 (by omega) cA
  have ehv4 := hk_fr_h f4 (by omega) ehv
  refine xa_type (p := 2) cA4 (by omega) (by omega) (by omega) (hk_gt_c gcA (by omega)).1 ⟨vp_in_nI (by omega) (by omega), ?_⟩
  dsimp only
  rw [nI_clamp (n := v) (by omega), eYv, v2]
  have dT : vc % 256 < T.1 := by rw [← v2]; exact tyv
  refine xa_internAbs r1 i1 dT sT (fun A R hb' => ?_)
  cases hx : (hk_xa T (vc % 256) (hk_c la 2 % 256)).1 with
  | none =>
    have e0 := hk_xa_none i1 dT sT hx
    rw [e0] at hb' ⊢
    refine br_t rfl (k0 (fun c => ?_) A R K4 S4 P4 xE hb' F4 p2)
    obtain ⟨t, ht⟩ := c.2.2.2.2
    rw [hx] at ht; cases ht
  | some t =>
    have ht48 := hk_xa_in i1 dT sT hx
    refine br_f (hk_o_ne (by omega)) ?_
    refine xa_part nH 0 ?_
    rw [Nat.add_zero]
    refine xa_end (p := 3) cA4 (by omega) la32 (fun c hc => (gcA.2.2 c hc).1) t1 ?_
    refine xa_start (by omega) (fun K5 S5 q5 f5 => ?_)
    have cA5 := hk_fr_h f5 (by omega) cA4
    have ehv5 := hk_fr_h f5 (by omega) ehv4
    refine xa_mark cA5 (by omega) gcA (fun E hE => ?_)
    refine xa_abs (f := 3) (by omega) (by omega) (by omega) (by omega) (by omega) gcA (by omega) (by omega) v3 (eYv.trans (congrArg nI v2)) (fun q h1 h2 => (hE q (by omega)).trans (by rw [hk_ise_dl ea h1])) q5 cA5 ehv5 (by simp) (fun K6 S6 q6 f6 => ⟨vp_in_nI (by omega) (by omega), ?_⟩)
    have cA6 := hk_fr_h f6 (by omega) cA5
    have ehv6 := hk_fr_h f6 (by omega) ehv5
    try dsimp only
    rw [hk_sz cA6 (by omega)]
    refine xa_abs (f := hk_e la 3) (by omega) (by omega) (by omega) (by omega) (by omega) gcA (by omega) (Nat.le_refl _) v3 (eYv.trans (congrArg nI v2)) (fun q h1 h2 => (hE q (by omega)).trans (by rw [hk_ise_dr ea t3 h1])) q6 cA6 ehv6 (by rw [List.length_append, hk_abl_len]; show 3 + (hk_e la 3 - 3 + 1) < 90000; omega) (fun K7 S7 q7 f7 => ?_)
    have f57 := hk_fr_t (hk_fr_t f5 f6) f7
    exact k1 t hx ⟨ea, ek, oc, by omega, t, hx⟩ A R K7 S7 P4 E hb' q7 (xa_hs_fr f57 h4 (fun i hi => by intro e; have e : 32 + nH * 4 + 1 + i = 32 + nH * 4 := e; omega)) (hk_fr_t F4 (hk_fr_w f57 (fun s e => Nat.le_of_eq e.symm))) p1 p2
theorem xr_mp {post : Int32 → SX → Prop} {a b : Nat} {HA HB : List (List Nat)} (I : hk_I T nM TY nH HC G cM cH) (R : hk_R T nM TY nH HC G xA xR xY xP (hk_h xK xS)) (hH : nH < cH) (hP : xP nH = nI 0) (ha : a < nH) (hb : b < nH) (eA : HA = hk_H G (32 + a * 4 + 1) (HC a)) (eB : HB = hk_H G (32 + b * 4 + 1) (HC b))
    (k1 : vc_mp (G (32 + a * 4)) (G (32 + b * 4)) HA HB → xr_K post T nM nH xc xd xK xS xY xP (some (vl_mp (G (32 + a * 4)), hk_un [] (HA ++ HB), T)))
    (k0 : ¬ vc_mp (G (32 + a * 4)) (G (32 + b * 4)) HA HB → xr_K post T nM nH xc xd xK xS xY xP none) : wpX_byEqMp post (nI T.1, xc, nI nM, xd, nI nH, xA, xR, xK, xS, xY, xP, xE) (nI a) (nI b) := by
  obtain ⟨sA, pA, cA⟩ := hk_R_hs R ha
  obtain ⟨sB, pB, cB⟩ := hk_R_hs R hb
  obtain ⟨lA, gA, gcA⟩ := hk_I_hs I ha
  obtain ⟨lB, gB, gcB⟩ := hk_I_hs I hb
  rw [← eA] at sA pA lA gA
  rw [← eB] at sB pB lB gB
  obtain ⟨i1, i2, i3, i4, i5, i6, i7⟩ := I
  obtain ⟨r1, r2, r3⟩ := R
  generalize G (32 + a * 4) = la at *
  generalize G (32 + b * 4) = lb at *
  have la32 := gcA.2.1
  have lb32 := gcB.2.1
  have ref : ∀ (c : ¬ vc_mp la lb HA HB), post 0 (nI T.1, xc, nI nM, xd, nI nH, xA, xR, xK, xS, xY, xP, xE) := fun c => k0 c xA xR xK xS xP xE r1 hk_fr_r (fun _ _ => rfl)
  unfold wpX_byEqMp
  dsimp only
  refine xa_iseq ha (by omega) cA gcA (fun ea => br_f (by decide) ?_) (fun ea => br_t rfl (ref (fun c => ea c.1)))
  refine hk_ok1 (by omega) hb (br_f (by decide) ?_)
  refine xa_part a 0 ?_
  refine xa_part b 0 ?_
  rw [Nat.add_zero, Nat.add_zero]
  obtain ⟨t1, t2, t3, t4, t5, t6, t7⟩ := hk_ise_at gcA.1 ea
  have hn := i1.2.1
  refine xa_end (p := 3) cA (by omega) la32 (fun c hc => (gcA.2.2 c hc).1) t1 ?_
  have VB : vp_in (nI (32 + b * 4)) 98 := vp_in_nI (by omega) (by omega)
  refine ⟨VB, ?_⟩
  have e3 : nI (hk_e la 3) - 3 = nI (hk_e la 3 - 3) := pk_sub (b := 3) (by omega)
  rw [e3, hk_sz cB (by omega)]
  have dl : (lb.drop 0).take lb.length = lb := by rw [List.drop_zero, List.take_length]
  refine pk_eq (hk_e la 3 - 3) lb.length (fun en => ⟨VB, ?_⟩) (fun en => ref (fun c => ?_))
  rotate_left
  · have := congrArg List.length c.2.1
    rw [List.length_take, List.length_drop] at this
    omega
  refine xa_same cA cB (by omega) (by omega) gcA gcB (f := 3) (g := 0) (m := lb.length) (by omega) (by omega) (fun es => br_f (by decide) ?_) (fun es => br_t rfl (ref (fun c => es ?_)))
  rotate_left
  · rw [dl, ← en]; exact c.2.1
  rw [dl, ← en] at es
  refine xa_part nH 0 ?_
  rw [Nat.add_zero]
  refine ⟨vp_in_nI (by omega) (by omega), nm_r (e' := upd xS (32 + nH * 4) 0) (by rw [nI_clamp (by omega)]) ⟨vp_in_nI (by omega) (by omega), ?_⟩⟩
  have f0 : hk_fr (fun s => s = 32 + nH * 4) xK xS xK (upd xS (32 + nH * 4) 0) := hk_fr_s
  have cA0 := hk_fr_h f0 (by omega) cA
  try dsimp only
  rw [hk_sz cA0 (by omega)]
  refine xa_run (by omega) (by omega) (by omega) (by omega) (Nat.le_refl _) la32 hk_h0 cA0 (by decide) (fun K3 S3 q3 f3 => ?_)
  have f13 := hk_fr_t f0 f3
  have q3 : hk_h K3 S3 (32 + nH * 4) (vl_mp la) := q3
  have F13 := hk_fr_w (V := fun s => 32 + nH * 4 ≤ s) f13 (fun s e => Nat.le_of_eq e.symm)
  have V : ∀ s, 32 + nH * 4 + 1 ≤ s ∧ s < 32 + nH * 4 + 1 + 3 → 32 + nH * 4 ≤ s := fun s e => by omega
  refine xa_add (H := []) (wf := fun _ => true) (n := T.1) (by omega) rfl ha lA gA pA (xa_hs_fr f13 sA (fun i hi => by omega)) (Or.inl ⟨rfl, fun _ => rfl⟩) (fun i hi => absurd hi (Nat.not_lt_zero i)) hP (by decide) hk_nilm (fun h3 K4 S4 P4 h4 f4 p1 p2 => br_f (by decide) ?_) (fun h3 K4 S4 P4 f4 p2 => br_t rfl ?_)
  rotate_left
  · rw [hk_ft] at h3
    refine k0 (fun c => ?_) xA xR K4 S4 P4 xE r1 (hk_fr_t F13 (hk_fr_w f4 V)) p2
    have c5 := c.2.2
    rw [hk_un_app] at c5
    have := (hk_un_len (ts := HB) (S := hk_un [] HA)).1
    omega
  rw [hk_ft] at h3 h4 p1
  refine xa_add (H := hk_un [] HA) (wf := fun _ => true) (n := T.1) (by omega) rfl hb lB gB ((p2 b (by omega)).trans pB) (xa_hs_fr f4 (xa_hs_fr f13 sB (fun i hi => by omega)) (fun i hi => by omega)) (Or.inl ⟨rfl, fun _ => rfl⟩) h4 p1 h3 (hk_un_gt hk_nilm gA) (fun h5 K5 S5 P5 h6 f5 p3 p4 => br_f (by decide) ?_) (fun h5 K5 S5 P5 f5 p4 => br_t rfl ?_)
  · rw [hk_ft, ← hk_un_app] at h5 h6 p3
    exact k1 ⟨ea, es, h5⟩ xA xR K5 S5 P5 xE r1 (hk_fr_h f5 (by omega) (hk_fr_h f4 (by omega) q3)) h6 (hk_fr_t (hk_fr_t F13 (hk_fr_w f4 V)) (hk_fr_w f5 V)) p3 (fun h hne => (p4 h hne).trans (p2 h hne))
  · rw [hk_ft, ← hk_un_app] at h5
    exact k0 (fun c => by have := c.2.2; omega) xA xR K5 S5 P5 xE r1 (hk_fr_t (hk_fr_t F13 (hk_fr_w f4 V)) (hk_fr_w f5 V)) (fun h hne => (p4 h hne).trans (p2 h hne))
theorem xr_ded {post : Int32 → SX → Prop} {a b : Nat} {HA HB : List (List Nat)} (I : hk_I T nM TY nH HC G cM cH) (R : hk_R T nM TY nH HC G xA xR xY xP (hk_h xK xS)) (hH : nH < cH) (hP : xP nH = nI 0) (ha : a < nH) (hb : b < nH) (eA : HA = hk_H G (32 + a * 4 + 1) (HC a)) (eB : HB = hk_H G (32 + b * 4 + 1) (HC b))
    (k1 : vc_ded (G (32 + a * 4)) (G (32 + b * 4)) HA HB → xr_K post T nM nH xc xd xK xS xY xP (some (hk_eq 0 (G (32 + a * 4)) (G (32 + b * 4)), vh_ded (G (32 + a * 4)) (G (32 + b * 4)) HA HB, T)))
    (k0 : ¬ vc_ded (G (32 + a * 4)) (G (32 + b * 4)) HA HB → xr_K post T nM nH xc xd xK xS xY xP none) : wpX_byDeductAntisym post (nI T.1, xc, nI nM, xd, nI nH, xA, xR, xK, xS, xY, xP, xE) (nI a) (nI b) := by
  obtain ⟨sA, pA, cA⟩ := hk_R_hs R ha
  obtain ⟨sB, pB, cB⟩ := hk_R_hs R hb
  obtain ⟨lA, gA, gcA⟩ := hk_I_hs I ha
  obtain ⟨lB, gB, gcB⟩ := hk_I_hs I hb
  rw [← eA] at sA pA lA gA
  rw [← eB] at sB pB lB gB
  obtain ⟨i1, i2, i3, i4, i5, i6, i7⟩ := I
  obtain ⟨r1, r2, r3⟩ := R
  generalize G (32 + a * 4) = la at *
  generalize G (32 + b * 4) = lb at *
  obtain ⟨b1, b2⟩ := hk_bool i1
  refine hk_ok1 (by omega) ha (br_f (by decide) ?_)
  refine hk_ok1 (by omega) hb (br_f (by decide) ?_)
  refine xa_part a 0 ?_
  refine xa_part b 0 ?_
  rw [Nat.add_zero, Nat.add_zero]
  have V : ∀ s, 32 + nH * 4 + 1 ≤ s ∧ s < 32 + nH * 4 + 1 + 3 → 32 + nH * 4 ≤ s := fun s e => by omega
  refine xa_add (H := []) (wf := hk_ne lb) (n := T.1) (by omega) rfl ha lA gA pA sA (Or.inr ⟨32 + b * 4, lb, rfl, by omega, by omega, gcB, cB, hk_ne_iff lb⟩) (fun i hi => absurd hi (Nat.not_lt_zero i)) hP (by decide) hk_nilm (fun h3 K4 S4 P4 h4 f4 p1 p2 => br_f (by decide) ?_) (fun h3 K4 S4 P4 f4 p2 => br_t rfl ?_)
  rotate_left
  · refine k0 (fun c => ?_) xA xR K4 S4 P4 xE r1 (hk_fr_w f4 V) p2
    have c5 := c.1
    unfold vh_ded at c5
    rw [hk_un_app] at c5
    have := (hk_un_len (ts := HB.filter (hk_ne la)) (S := hk_un [] (HA.filter (hk_ne lb)))).1
    omega
  refine xa_add (H := hk_un [] (HA.filter (hk_ne lb))) (wf := hk_ne la) (n := T.1) (by omega) rfl hb lB gB ((p2 b (by omega)).trans pB) (xa_hs_fr f4 sB (fun i hi => by omega)) (Or.inr ⟨32 + a * 4, la, rfl, by omega, by omega, gcA, hk_fr_h f4 (by omega) cA, hk_ne_iff la⟩) h4 p1 h3 (hk_un_gt hk_nilm (fun y hy => gA y ((List.mem_filter.mp hy).1))) (fun h5 K5 S5 P5 h6 f5 p3 p4 => br_f (by decide) ?_) (fun h5 K5 S5 P5 f5 p4 => br_t rfl ?_)
  rotate_left
  · rw [← hk_un_app] at h5
    refine k0 (fun c => ?_) xA xR K5 S5 P5 xE r1 (hk_fr_t (hk_fr_w f4 V) (hk_fr_w f5 V)) (fun h hne => (p4 h hne).trans (p2 h hne))
    have c5 := c.1
    unfold vh_ded at c5
    omega
  rw [← hk_un_app] at h5 h6 p3
  have F5 := hk_fr_t (hk_fr_w f4 V) (hk_fr_w f5 V)
  have f45 := hk_fr_t f4 f5
  refine xa_conc (a := 0) r1 i1 (by have := i1.1; omega) (by omega) (by omega) (by omega) (by omega) (by omega) gcA.2.1 gcB.2.1 (hk_fr_h f45 (by omega) cA) (hk_fr_h f45 (by omega) cB) (fun c A R K6 S6 hb6 q6 f6 => br_f (by decide) ?_) (fun c A R K6 S6 hb6 f6 => br_t rfl ?_)
  · rw [b2] at hb6 ⊢
    exact k1 ⟨h5, c.1⟩ A R K6 S6 P5 xE hb6 q6 (xa_hs_fr f6 h6 (fun i hi => by intro e; have e : 32 + nH * 4 + 1 + i = 32 + nH * 4 := e; omega)) (hk_fr_t F5 (hk_fr_w f6 (fun s e => Nat.le_of_eq e.symm))) p3 (fun h hne => (p4 h hne).trans (p2 h hne))
  · refine k0 (fun q => c ⟨q.2, by have := i1.2.1; omega⟩) A R K6 S6 P5 xE hb6 (hk_fr_t F5 (hk_fr_w f6 (fun s e => Nat.le_of_eq e.symm))) (fun h hne => (p4 h hne).trans (p2 h hne))
/-- the hypotheses with the term put in -/
theorem xr_inst_l {post : Int32 → SX → Prop} {a v t vc n : Nat} {A : List (List Nat)} {u : List Nat} (hH : nH < 16) (ha : a < nH) (hv : v < 32) (ht : t < 32) (lA : A.length ≤ 3) (gA : ∀ y, y ∈ A → hk_gt n y) (gu : hk_gt n u) (hvk : vc / 65536 = 1) (hvc : vc < 524288) :
    ∀ (d i : Nat) (K S P : Nat → Int32) (H : List (List Nat)), i + d = A.length → hk_hs (hk_h K S) (32 + a * 4 + 1) A → hk_h K S v [vc] → hk_h K S t u → hk_hs (hk_h K S) (32 + nH * 4 + 1) H → P nH = nI H.length → H.length ≤ 3 → (∀ y, y ∈ H → hk_gt n y) →
      ((∀ h, h ∈ A.drop i → (hk_sb h vc u).length ≤ 32) → (hk_un H (vh_inst (A.drop i) vc u)).length ≤ 3 → ∀ K' S' P' : Nat → Int32, hk_hs (hk_h K' S') (32 + nH * 4 + 1) (hk_un H (vh_inst (A.drop i) vc u)) → hk_fr (fun s => 32 + nH * 4 + 1 ≤ s) K S K' S' → P' nH = nI (hk_un H (vh_inst (A.drop i) vc u)).length → (∀ h, h ≠ nH → P' h = P h) → post 1 (xn, xc, xm, xd, nI nH, xA, xR, K', S', xY, P', xE)) →
      (¬ ((∀ h, h ∈ A.drop i → (hk_sb h vc u).length ≤ 32) ∧ (hk_un H (vh_inst (A.drop i) vc u)).length ≤ 3) → ∀ K' S' P' : Nat → Int32, hk_fr (fun s => 32 + nH * 4 + 1 ≤ s) K S K' S' → (∀ h, h ≠ nH → P' h = P h) → post 0 (xn, xc, xm, xd, nI nH, xA, xR, K', S', xY, P', xE)) →
      wX_byInst_93 post (nI a) (nI v) (nI t) (nI A.length) (d + 1) (nI (i + 1)) xn xc xm xd (nI nH) xA xR K S xY P xE := by
  intro d
  induction d with
  | zero =>
    intro i K S P H hi hA hV hU hh hP hl gH k1 k0
    rw [List.drop_of_length_le (by omega)] at k1
    exact br_t (nI_lt (by omega) (by omega)) (k1 (fun h hh => absurd hh List.not_mem_nil) hl K S P hh hk_fr_r hP (fun _ _ => rfl))
  | succ d ih =>
    intro i K S P H hi hA hV hU hh hP hl gH k1 k0
    have il : i < A.length := by omega
    have gi := gA _ (hk_ix_mem il)
    rw [hk_gd_drop il] at k1 k0
    refine br_f (nI_nlt (by omega) (by omega)) ?_
    refine xa_part a (i + 1) ?_
    rw [show 32 + a * 4 + (i + 1) = 32 + a * 4 + 1 + i by omega]
    refine xa_sub (o := 96) (by omega) (by omega) (by omega) (by omega) (by omega) (by omega) (by omega) gi gu hvc (hA i il) hV hU (fun K1 S1 h1 f1 => ?_)
    have f1' := hk_fr_w (V := fun s => 32 + nH * 4 + 1 ≤ s) f1 (fun s e => by have e : s = 96 := e; omega)
    have big := hk_sb_len gi.2.1 gu.2.1 (vc := vc)
    refine pk_lt 32 (hk_sb (A.getD i []) vc u).length (fun z => k0 (fun c => ?_) K1 S1 P f1' (fun _ _ => rfl)) (fun z => ?_) rfl h1.1
    · have := c.1 _ List.mem_cons_self
      omega
    have gs := vg_inst hvk gi gu z
    refine xa_ins (s := 96) (n := n) hH rfl (by omega) (by omega) gs gH h1 (xa_hs_fr f1 hh (fun j hj => by intro e; have e : 32 + nH * 4 + 1 + j = 96 := e; omega)) hP hl (fun h3 K2 S2 P2 h2 f2 p1 p2 => br_f (by decide) (nm_r (nI_1 _) ?_)) (fun h3 => br_t rfl (k0 (fun c => ?_) K1 S1 P f1' (fun _ _ => rfl)))
    · have f2' := hk_fr_w (V := fun s => 32 + nH * 4 + 1 ≤ s) f2 (fun s e => e.1)
      have f12 := hk_fr_t f1' f2'
      refine ih (i + 1) K2 S2 P2 (hk_ins (hk_sb (A.getD i []) vc u) H) (by omega) (xa_hs_fr f12 hA (fun j hj => by omega)) (hk_fr_h f12 (by omega) hV) (hk_fr_h f12 (by omega) hU) h2 p1 h3 (fun y hy => ?_) (fun c1 c2 K3 S3 P3 h4 f3 q1 q2 => k1 (fun h hh => ?_) c2 K3 S3 P3 h4 (hk_fr_t f12 f3) q1 (fun h hne => (q2 h hne).trans (p2 h hne))) (fun c K3 S3 P3 f3 q2 => k0 (fun q => c ⟨fun h hh => q.1 h (List.mem_cons_of_mem _ hh), q.2⟩) K3 S3 P3 (hk_fr_t f12 f3) (fun h hne => (q2 h hne).trans (p2 h hne)))
      · rcases hk_ins_mem.mp hy with e | e
        · rw [e]; exact gs
        · exact gH y e
      · rcases List.mem_cons.mp hh with e | e
        · rw [e]; exact z
        · exact c1 h e
    · have c2 : (hk_un (hk_ins (hk_sb (A.getD i []) vc u) H) (vh_inst (A.drop (i + 1)) vc u)).length ≤ 3 := c.2
      have := (hk_un_len (ts := vh_inst (A.drop (i + 1)) vc u) (S := hk_ins (hk_sb (A.getD i []) vc u) H)).1
      omega
theorem xr_inst {post : Int32 → SX → Prop} {a v t vc : Nat} {HA : List (List Nat)} (I : hk_I T nM TY nH HC G cM cH) (R : hk_R T nM TY nH HC G xA xR xY xP (hk_h xK xS)) (hH : nH < cH) (hP : xP nH = nI 0) (ha : a < nH) (hv : v < nM) (ht : t < nM) (eA : HA = hk_H G (32 + a * 4 + 1) (HC a)) (evc : vc = hk_c (G v) 0)
    (k1 : (vc / 65536 = 1 ∧ TY t = vc % 256) ∧ vc_inst (G (32 + a * 4)) (G t) HA vc → xr_K post T nM nH xc xd xK xS xY xP (some (hk_sb (G (32 + a * 4)) vc (G t), hk_un [] (vh_inst HA vc (G t)), T)))
    (k0 : ¬ ((vc / 65536 = 1 ∧ TY t = vc % 256) ∧ vc_inst (G (32 + a * 4)) (G t) HA vc) → xr_K post T nM nH xc xd xK xS xY xP none) : wpX_byInst post (nI T.1, xc, nI nM, xd, nI nH, xA, xR, xK, xS, xY, xP, xE) (nI a) (nI v) (nI t) := by
  obtain ⟨sA, pA, cA⟩ := hk_R_hs R ha
  obtain ⟨lA, gA, gcA⟩ := hk_I_hs I ha
  have vI := hk_I_var I hv
  rw [← evc] at vI
  rw [← eA] at sA pA lA gA
  obtain ⟨i1, i2, i3, i4, i5, i6, i7⟩ := I
  obtain ⟨r1, r2, r3⟩ := R
  obtain ⟨tyv, gv, -⟩ := i6 v hv
  obtain ⟨eYv, ehv⟩ := r2 v hv
  obtain ⟨tyt, gt, -⟩ := i6 t ht
  obtain ⟨eYt, eht⟩ := r2 t ht
  have hn := i1.2.1
  generalize G (32 + a * 4) = la at *
  have ref : ∀ (c : ¬ ((vc / 65536 = 1 ∧ TY t = vc % 256) ∧ vc_inst la (G t) HA vc)), post 0 (nI T.1, xc, nI nM, xd, nI nH, xA, xR, xK, xS, xY, xP, xE) := fun c => k0 c xA xR xK xS xP xE r1 hk_fr_r (fun _ _ => rfl)
  refine hk_ok1 (by omega) ha (br_f (by decide) ?_)
  refine xa_var hv (by omega) ehv gv (fun ek => br_f (by decide) ?_) (fun ek => br_t rfl (ref (fun c => ek (by rw [← evc]; exact c.1.1))))
  rw [← evc] at ek
  obtain ⟨v1, v2, v3⟩ := vI ek
  rw [v1] at ehv
  refine hk_ok1 (by omega) ht (br_f (by decide) ⟨vp_in_nI (by omega) (by omega), vp_in_nI (by omega) (by omega), ?_⟩)
  rw [nI_clamp (n := v) (by omega), nI_clamp (n := t) (by omega), eYv, eYt]
  refine pk_eq (TY v) (TY t) (fun et => ?_) (fun et => ref (fun c => et (by rw [v2, c.1.2])))
  refine xa_part a 0 ?_
  refine xa_part nH 0 ?_
  rw [Nat.add_zero, Nat.add_zero]
  have big := hk_sb_len gcA.2.1 gt.2.1 (vc := vc)
  refine xa_sub (by omega) (by omega) (by omega) (by omega) (by omega) (by omega) (by omega) gcA gt v3 cA ehv eht (fun K1 S1 h1 f1 => ⟨vp_in_nI (by omega) (by omega), ?_⟩)
  have F1 := hk_fr_w (V := fun s => 32 + nH * 4 ≤ s) f1 (fun s e => Nat.le_of_eq e.symm)
  try dsimp only
  rw [hk_sz h1 (by omega)]
  refine pk_le (hk_sb la vc (G t)).length 32 (fun z => ⟨vp_in_nI (by omega) (by omega), nm_r (e' := nI HA.length) (by rw [nI_clamp (by omega)]; exact pA) ⟨HA.length + 1, ?_⟩⟩) (fun z => k0 (fun c => by have := c.2.1; omega) xA xR K1 S1 xP xE r1 F1 (fun _ _ => rfl))
  refine xr_inst_l (by omega) ha (by omega) (by omega) lA gA gt ek v3 HA.length 0 K1 S1 xP [] (by omega) (xa_hs_fr f1 sA (fun i hi => by intro e; have e : 32 + a * 4 + 1 + i = 32 + nH * 4 := e; omega)) (hk_fr_h f1 (by omega) ehv) (hk_fr_h f1 (by omega) eht) (fun i hi => absurd hi (Nat.not_lt_zero i)) hP (by decide) hk_nilm ?_ ?_
  · rw [List.drop_zero]
    intro c1 c2 K2 S2 P2 h2 f2 q1 q2
    exact k1 ⟨⟨ek, by rw [← et, v2]⟩, z, c1, c2⟩ xA xR K2 S2 P2 xE r1 (hk_fr_h f2 (by omega) h1) h2 (hk_fr_t F1 (hk_fr_w f2 (fun s e => by have e : 32 + nH * 4 + 1 ≤ s := e; omega))) q1 q2
  · rw [List.drop_zero]
    intro c K2 S2 P2 f2 q2
    exact k0 (fun q => c ⟨q.2.2.1, q.2.2.2⟩) xA xR K2 S2 P2 xE r1 (hk_fr_t F1 (hk_fr_w f2 (fun s e => by have e : 32 + nH * 4 + 1 ≤ s := e; omega))) q2
end
end
section
/-! the reference's rules -/
section
variable {y1 y2 y3 y4 y5 yn ym yh yc yd yw yl yk ye yp yq yr ys : Int32} {yM yL yY yA yR yP : Nat → Int32} {T : hk_T} {nM nH cM cH : Nat} {TY HC : Nat → Nat} {G : Nat → List Nat}
/-- t = r, where what r is stands in slot 108 -/
theorem yr_eqt {post : Int32 → SY → Prop} {t ty : Nat} {l r : List Nat} (M0 L0 : Nat → Int32) (hb : hk_tb T yA yR) (hT : hk_ti T) (hty : ty < T.1) (hH : nH < 16) (ht : t < 32) (ll : l.length ≤ 32) (lr : r.length < 100000) (h1 : hk_hy yM yL t l) (h2 : hk_hy yM yL 108 r) (fit : T.1 + hk_nd T ty ≤ 48) (fr : hk_fr (fun s => 32 + nH * 4 ≤ s) M0 L0 yM yL)
    (k1 : (hk_eq ty l r).length ≤ 32 → yr_K post T nM nH y1 y2 y3 y4 y5 yc yd M0 L0 yY yP (some (hk_eq ty l r, [], (hk_ie T ty).2)))
    (k0 : ¬ (hk_eq ty l r).length ≤ 32 → yr_K post T nM nH y1 y2 y3 y4 y5 yc yd M0 L0 yY yP none) : wY_ruleEqTerm_215 post (nI t) (nI ty) y1 y2 y3 y4 y5 (nI T.1) (nI nM) (nI nH) yc yd yw yl yk ye yp yq yr ys yM yL yY yA yR yP := by
  have el := hk_eq_len ty l r
  refine pk_le (min r.length 33) 32 (fun z => ?_) (fun z => k0 (by omega) yA yR yM yL yw yl yk ye yp yq yr ys hb fr) h2.1 rfl
  have lr : r.length ≤ 32 := by omega
  refine ya_begin (o := 96) (by omega) (fun L1 q1 f1 => ?_)
  refine ya_head (a := ty) (by omega) q1 rfl (fun M2 L2 q2 f2 => ⟨vp_in_nI (by omega) (by omega), ?_⟩)
  have f12 := hk_fr_t f1 f2
  have t2 := hk_fr_hy f12 (s := t) (by omega) h1
  refine ya_all (by omega) (by omega) (by omega) ll q2 t2 (by simp) (hk_szy t2 (by omega) ll) (fun M3 L3 q3 f3 => ?_)
  have f13 := hk_fr_t f12 f3
  have r3 := hk_fr_hy f13 (s := 108) (by omega) h2
  refine ya_all (s := 108) (by omega) (by omega) (by omega) lr q3 r3 (by rw [List.length_append]; show 3 + l.length < 90000; omega) (hk_szc r3 lr) (fun M4 L4 q4 f4 => ?_)
  have f14 := hk_fr_t f13 f4
  have F14 := hk_fr_t fr (hk_fr_w (V := fun s => 32 + nH * 4 ≤ s) f14 (fun s e => by have e : s = 96 := e; omega))
  have q4 : hk_hy M4 L4 96 (hk_eq ty l r) := q4
  refine pk_le (min (hk_eq ty l r).length 33) 32 (fun w => ?_) (fun w => k0 (by omega) yA yR M4 L4 _ _ yk ye yp yq yr ys hb F14)
  refine ya_internEq hb hT hty (hk_fit1 fit) (fun A R hb' => ?_)
  refine ya_commit (H := []) hH (by omega) (by decide) (fun y hy => absurd hy List.not_mem_nil) q4 (fun i hi => absurd hi (Nat.not_lt_zero i)) rfl (fun M5 L5 w5 wl5 q5 h5 f5 => ?_)
  exact k1 (by omega) A R M5 L5 w5 wl5 yk ye yp yq yr ys hb' q5 h5 (hk_fr_t F14 (hk_fr_w f5 (fun s e => e.1)))
theorem yr_eq0 {post : Int32 → SY → Prop} {x kd : Int32} (hb : hk_tb T yA yR) (h : ∀ j, j < nM → x ≠ nI j) (k : yr_K post T nM nH y1 y2 y3 y4 y5 yc yd yM yL yY yP none) : wpY_ruleEqTerm post (y1, y2, y3, y4, y5, nI T.1, nI nM, nI nH, yc, yd, yw, yl, yk, ye, yp, yq, yr, ys, yM, yL, yY, yA, yR, yP) kd x :=
  hk_ok0 h (br_t rfl (k yA yR yM yL yw yl yk ye yp yq yr ys hb hk_fr_r))
theorem yr_refl {post : Int32 → SY → Prop} {t : Nat} (I : hk_I T nM TY nH HC G cM cH) (R : hk_R T nM TY nH HC G yA yR yY yP (hk_hy yM yL)) (hH : nH < cH) (ht : t < nM)
    (k1 : hk_fq T (TY t) (G t) (G t) → yr_K post T nM nH y1 y2 y3 y4 y5 yc yd yM yL yY yP (some (hk_eq (TY t) (G t) (G t), [], (hk_ie T (TY t)).2))) (k0 : ¬ hk_fq T (TY t) (G t) (G t) → yr_K post T nM nH y1 y2 y3 y4 y5 yc yd yM yL yY yP none) : wpY_ruleEqTerm post (y1, y2, y3, y4, y5, nI T.1, nI nM, nI nH, yc, yd, yw, yl, yk, ye, yp, yq, yr, ys, yM, yL, yY, yA, yR, yP) 1 (nI t) := by
  obtain ⟨i1, i2, i3, i4, i5, i6, i7⟩ := I
  obtain ⟨r1, r2, r3⟩ := R
  obtain ⟨ty, g, -⟩ := i6 t ht
  obtain ⟨eY, eh⟩ := r2 t ht
  have hn := i1.2.1
  have nd2 := hk_nd_le T (TY t)
  refine hk_ok1 (by omega) ht (br_f (by decide) ⟨vp_in_nI (by omega) (by omega), nm_r (e' := nI (TY t)) (by rw [nI_clamp (by omega)]; exact eY) ?_⟩)
  refine ya_need r1 i1 ty ?_
  rw [nI_add]
  refine pk_le (T.1 + hk_nd T (TY t)) 48 (fun fit => ?_) (fun fit => k0 (fun c => by have := c.2; omega) yA yR yM yL yw yl yk ye yp yq yr ys r1 hk_fr_r)
  refine ya_begin (o := 108) (by omega) (fun L1 q1 f1 => ⟨vp_in_nI (by omega) (by omega), ?_⟩)
  have t1 := hk_fr_hy f1 (s := t) (by omega) eh
  refine ya_all (by omega) (by omega) (by omega) g.2.1 q1 t1 (by decide) (hk_szy t1 (by omega) g.2.1) (fun M2 L2 q2 f2 => ?_)
  have f12 := hk_fr_t f1 f2
  refine br_f (by decide) (br_f (by decide) ?_)
  exact yr_eqt (r := G t) yM yL r1 i1 ty (by omega) (by omega) g.2.1 (by have := g.2.1; omega) (hk_fr_hy f12 (by omega) eh) q2 fit (hk_fr_w f12 (fun s e => by have e : s = 108 := e; omega)) (fun c => k1 ⟨c, fit⟩) (fun c => k0 (fun q => c q.1))
theorem yr_beta {post : Int32 → SY → Prop} {t : Nat} (I : hk_I T nM TY nH HC G cM cH) (R : hk_R T nM TY nH HC G yA yR yY yP (hk_hy yM yL)) (hH : nH < cH) (ht : t < nM)
    (k1 : hk_rx (G t) 0 ∧ hk_fq T (TY t) (G t) (hk_con (G t) 0) → yr_K post T nM nH y1 y2 y3 y4 y5 yc yd yM yL yY yP (some (hk_eq (TY t) (G t) (hk_con (G t) 0), [], (hk_ie T (TY t)).2))) (k0 : ¬ (hk_rx (G t) 0 ∧ hk_fq T (TY t) (G t) (hk_con (G t) 0)) → yr_K post T nM nH y1 y2 y3 y4 y5 yc yd yM yL yY yP none) : wpY_ruleEqTerm post (y1, y2, y3, y4, y5, nI T.1, nI nM, nI nH, yc, yd, yw, yl, yk, ye, yp, yq, yr, ys, yM, yL, yY, yA, yR, yP) 5 (nI t) := by
  obtain ⟨i1, i2, i3, i4, i5, i6, i7⟩ := I
  obtain ⟨r1, r2, r3⟩ := R
  obtain ⟨ty, g, -⟩ := i6 t ht
  obtain ⟨eY, eh⟩ := r2 t ht
  have hn := i1.2.1
  have nd2 := hk_nd_le T (TY t)
  have l32 := g.2.1
  refine hk_ok1 (by omega) ht (br_f (by decide) ⟨vp_in_nI (by omega) (by omega), nm_r (e' := nI (TY t)) (by rw [nI_clamp (by omega)]; exact eY) ?_⟩)
  refine ya_need r1 i1 ty ?_
  rw [nI_add]
  refine pk_le (T.1 + hk_nd T (TY t)) 48 (fun fit => ?_) (fun fit => k0 (fun c => by have := c.2.2; omega) yA yR yM yL yw yl yk ye yp yq yr ys r1 hk_fr_r)
  refine ya_begin (o := 108) (by omega) (fun L1 q1 f1 => ⟨vp_in_nI (by omega) (by omega), ?_⟩)
  have t1 := hk_fr_hy f1 (s := t) (by omega) eh
  refine ya_all (by omega) (by omega) (by omega) l32 q1 t1 (by decide) (hk_szy t1 (by omega) l32) (fun M2 L2 q2 f2 => ?_)
  have f12 := hk_fr_t f1 f2
  have F12 := hk_fr_w (V := fun s => 32 + nH * 4 ≤ s) f12 (fun s e => by have e : s = 108 := e; omega)
  have t2 := hk_fr_hy f12 (s := t) (by omega) eh
  refine br_t rfl ?_
  have l0 := hk_gt_pos g
  have c0 := (hk_gt_c g l0).1
  refine ya_nd (p := 0) t2 (by omega) l0 (by omega) ⟨by decide, ?_⟩
  rw [hk_kd c0]
  refine pk_eq (hk_c (G t) 0 / 65536) 3 (fun e0 => ?_) (fun e => k0 (fun c => e c.1.2.1) yA yR M2 L2 _ _ yk ye yp yq yr ys r1 F12)
  have a1 := hk_at_s (hk_at0 g.1)
  rw [hk_ar_3 e0] at a1
  have l1 := hk_at_lt a1
  have c1 : hk_c (G t) 1 < 524288 := (hk_gt_c g l1).1
  refine ya_nd (p := 1) t2 (by omega) l1 (by omega) ⟨by decide, ?_⟩
  rw [hk_kd c1]
  refine pk_eq (hk_c (G t) 1 / 65536) 4 (fun e1 => ?_) (fun e => k0 (fun c => e c.1.2.2) yA yR M2 L2 _ _ yk ye yp yq yr ys r1 F12)
  have rx : hk_rx (G t) 0 := ⟨l1, e0, e1⟩
  have big := hk_con_len g.1 l32 rx
  refine ya_begin (o := 108) (by omega) (fun L3 q3 f3 => ⟨vp_in_nI (by omega) (by omega), ?_⟩)
  have t3 := hk_fr_hy f3 (s := t) (by omega) t2
  refine ya_contract (r := 0) (by omega) (by omega) (by omega) g rx q3 t3 (hk_szy t3 (by omega) l32) (fun M4 L4 q4 f4 => ?_)
  have f34 := hk_fr_t f3 f4
  refine br_f (by decide) ?_
  exact yr_eqt yM yL r1 i1 ty (by omega) (by omega) l32 (by omega) (hk_fr_hy f34 (by omega) t2) q4 fit (hk_fr_t F12 (hk_fr_w f34 (fun s e => by have e : s = 108 := e; omega))) (fun c => k1 ⟨rx, c, fit⟩) (fun c => k0 (fun q => c q.2.1))
theorem yr_norm_l {post : Int32 → SY → Prop} {t ty n : Nat} (M0 L0 : Nat → Int32) :
    ∀ (d st : Nat) (M L : Nat → Int32) (w wl : Int32) (cur : List Nat), st + d = 64 → hk_gt n cur → hk_hy M L 108 cur → hk_fr (fun s => s = 108 ∨ s = 109) M0 L0 M L →
      (∀ r, hk_nf d cur = some r → ∀ (M' L' : Nat → Int32) (w' wl' : Int32), hk_hy M' L' 108 r → hk_fr (fun s => s = 108 ∨ s = 109) M0 L0 M' L' → wY_ruleEqTerm_208 post (nI t) (nI ty) 1 y1 y2 y3 y4 y5 yn ym yh yc yd w' wl' yk ye yp yq yr ys M' L' yY yA yR yP) →
      (hk_nf d cur = none → ∀ (M' L' : Nat → Int32) (w' wl' : Int32), hk_fr (fun s => s = 108 ∨ s = 109) M0 L0 M' L' → post (-1) (y1, y2, y3, y4, y5, yn, ym, yh, yc, yd, w', wl', yk, ye, yp, yq, yr, ys, M', L', yY, yA, yR, yP)) →
      wY_ruleEqTerm_115 post (nI t) (nI ty) 0 (d + 1) (nI st) y1 y2 y3 y4 y5 yn ym yh yc yd w wl yk ye yp yq yr ys M L yY yA yR yP := by
  intro d
  induction d with
  | zero =>
    intro st M L w wl cur hst g h fr kS k0
    refine br_f (nI_nlt (a := 64) (by omega) (by omega)) ?_
    refine ya_lr (s := 108) h (by omega) g ?_
    cases e : hk_lr cur cur.length 0 with
    | none => exact br_f hk_m1_nge (kS cur (hk_nf_n 0 e) M L w wl h fr)
    | some r =>
      have q := (hk_lr_in e).1
      have hl := g.2.1
      exact br_t (hk_o_ge (by omega)) (pk_eq st 64 (fun _ => k0 (hk_nf_0 e) M L w wl fr) (fun z => by omega))
  | succ d ih =>
    intro st M L w wl cur hst g h fr kS k0
    refine br_f (nI_nlt (a := 64) (by omega) (by omega)) ?_
    refine ya_lr (s := 108) h (by omega) g ?_
    cases e : hk_lr cur cur.length 0 with
    | none => exact br_f hk_m1_nge (kS cur (hk_nf_n (d + 1) e) M L w wl h fr)
    | some r =>
      have rx := hk_lr_in e
      have q := rx.1
      have hl := g.2.1
      have big := hk_con_len g.1 hl rx
      refine br_t (hk_o_ge (by omega)) (pk_eq st 64 (fun z => by omega) (fun z => ?_))
      refine ya_begin (o := 109) (by omega) (fun L1 q1 f1 => ?_)
      have h1 := hk_fr_hy f1 (s := 108) (by omega) h
      refine ya_contract (s := 108) (r := r) (by omega) (by omega) (by omega) g rx q1 h1 (hk_szc h1 hl) (fun M2 L2 q2 f2 => ?_)
      have fr2 := hk_fr_t fr (hk_fr_w (V := fun s => s = 108 ∨ s = 109) (hk_fr_t f1 f2) (fun s e => Or.inr e))
      refine pk_le (min (hk_con cur r).length 33) 32 (fun z2 => ?_) (fun z2 => k0 (hk_nf_z e (by omega)) M2 L2 _ _ fr2)
      have z3 : (hk_con cur r).length ≤ 32 := by omega
      rw [hk_nf_s e z3] at kS k0
      have g1 := hk_con_gt g rx z3
      refine ya_begin (o := 108) (by omega) (fun L3 q3 f3 => ?_)
      have h3 := hk_fr_hy f3 (s := 109) (by omega) q2
      refine ya_all (s := 109) (by omega) (by omega) (by omega) z3 q3 h3 (by decide) (hk_szc h3 z3) (fun M4 L4 q4 f4 => ?_)
      refine nm_r (nI_1 _) ?_
      exact ih (st + 1) M4 L4 _ _ (hk_con cur r) (by omega) g1 q4 (hk_fr_t fr2 (hk_fr_w (hk_fr_t f3 f4) (fun s e => Or.inl e))) kS k0
theorem yr_norm {post : Int32 → SY → Prop} {t : Nat} (I : hk_I T nM TY nH HC G cM cH) (R : hk_R T nM TY nH HC G yA yR yY yP (hk_hy yM yL)) (hH : nH < cH) (ht : t < nM)
    (k1 : ∀ r, hk_nf 64 (G t) = some r → hk_fq T (TY t) (G t) r → yr_K post T nM nH y1 y2 y3 y4 y5 yc yd yM yL yY yP (some (hk_eq (TY t) (G t) r, [], (hk_ie T (TY t)).2))) (k0 : (∀ r, hk_nf 64 (G t) = some r → ¬ hk_fq T (TY t) (G t) r) → yr_K post T nM nH y1 y2 y3 y4 y5 yc yd yM yL yY yP none) : wpY_ruleEqTerm post (y1, y2, y3, y4, y5, nI T.1, nI nM, nI nH, yc, yd, yw, yl, yk, ye, yp, yq, yr, ys, yM, yL, yY, yA, yR, yP) 6 (nI t) := by
  obtain ⟨i1, i2, i3, i4, i5, i6, i7⟩ := I
  obtain ⟨r1, r2, r3⟩ := R
  obtain ⟨ty, g, -⟩ := i6 t ht
  obtain ⟨eY, eh⟩ := r2 t ht
  have hn := i1.2.1
  have nd2 := hk_nd_le T (TY t)
  have l32 := g.2.1
  have W : ∀ s, s = 108 ∨ s = 109 → 32 + nH * 4 ≤ s := fun s e => by omega
  refine hk_ok1 (by omega) ht (br_f (by decide) ⟨vp_in_nI (by omega) (by omega), nm_r (e' := nI (TY t)) (by rw [nI_clamp (by omega)]; exact eY) ?_⟩)
  refine ya_need r1 i1 ty ?_
  rw [nI_add]
  refine pk_le (T.1 + hk_nd T (TY t)) 48 (fun fit => ?_) (fun fit => k0 (fun r _ c => by have := c.2; omega) yA yR yM yL yw yl yk ye yp yq yr ys r1 hk_fr_r)
  refine ya_begin (o := 108) (by omega) (fun L1 q1 f1 => ⟨vp_in_nI (by omega) (by omega), ?_⟩)
  have t1 := hk_fr_hy f1 (s := t) (by omega) eh
  refine ya_all (by omega) (by omega) (by omega) l32 q1 t1 (by decide) (hk_szy t1 (by omega) l32) (fun M2 L2 q2 f2 => ?_)
  have f12 := hk_fr_t f1 f2
  refine br_f (by decide) (br_t rfl ⟨65, ?_⟩)
  refine yr_norm_l yM yL 64 0 M2 L2 _ _ (G t) (by omega) g q2 (hk_fr_w f12 (fun s e => Or.inl e)) (fun r hr M3 L3 w3 wl3 h3 f3 => ?_) (fun hr M3 L3 w3 wl3 f3 => ?_)
  · have gr := hk_nf_gt g hr
    refine br_f (by decide) ?_
    refine yr_eqt yM yL r1 i1 ty (by omega) (by omega) l32 (by have := gr.2.1; omega) (hk_fr_hy f3 (by omega) eh) h3 fit (hk_fr_w f3 W) (fun c => k1 r hr ⟨c, fit⟩) (fun c => k0 (fun q hq z => ?_))
    rw [hr] at hq
    cases hq
    exact c z.1
  · refine k0 (fun q hq => ?_) yA yR M3 L3 w3 wl3 yk ye yp yq yr ys r1 (hk_fr_w f3 W)
    rw [hr] at hq; cases hq
end
end
section
/-! the reference's rules, continued -/
section
variable {y1 y2 y3 y4 y5 yn ym yh yc yd yw yl yk ye yp yq yr ys : Int32} {yM yL yY yA yR yP : Nat → Int32} {T : hk_T} {nM nH cM cH : Nat} {TY HC : Nat → Nat} {G : Nat → List Nat}
theorem yr_trans {post : Int32 → SY → Prop} {a b : Nat} {HA HB : List (List Nat)} (I : hk_I T nM TY nH HC G cM cH) (R : hk_R T nM TY nH HC G yA yR yY yP (hk_hy yM yL)) (hH : nH < cH) (ha : a < nH) (hb : b < nH) (eA : HA = hk_H G (32 + a * 4 + 1) (HC a)) (eB : HB = hk_H G (32 + b * 4 + 1) (HC b))
    (k1 : vc_trans (G (32 + a * 4)) (G (32 + b * 4)) HA HB → yr_K post T nM nH y1 y2 y3 y4 y5 yc yd yM yL yY yP (some (vl_trans (G (32 + a * 4)) (G (32 + b * 4)), hk_un [] (HA ++ HB), T)))
    (k0 : ¬ vc_trans (G (32 + a * 4)) (G (32 + b * 4)) HA HB → yr_K post T nM nH y1 y2 y3 y4 y5 yc yd yM yL yY yP none) : wpY_ruleTrans post (y1, y2, y3, y4, y5, nI T.1, nI nM, nI nH, yc, yd, yw, yl, nI 0, ye, yp, yq, yr, ys, yM, yL, yY, yA, yR, yP) (nI a) (nI b) := by
  obtain ⟨sA, pA, cA⟩ := hk_R_hs R ha
  obtain ⟨sB, pB, cB⟩ := hk_R_hs R hb
  obtain ⟨lA, gA, gcA⟩ := hk_I_hs I ha
  obtain ⟨lB, gB, gcB⟩ := hk_I_hs I hb
  rw [← eA] at sA pA lA gA
  rw [← eB] at sB pB lB gB
  obtain ⟨i1, i2, i3, i4, i5, i6, i7⟩ := I
  obtain ⟨r1, r2, r3⟩ := R
  generalize G (32 + a * 4) = la at *
  generalize G (32 + b * 4) = lb at *
  have la32 := gcA.2.1
  have lb32 := gcB.2.1
  have hn := i1.2.1
  have gAB : ∀ y, y ∈ HA ++ HB → hk_gt T.1 y := fun y hy => (List.mem_append.mp hy).elim (gA y) (gB y)
  have lAB : (HA ++ HB).length ≤ 6 := by rw [List.length_append]; omega
  refine hk_ok1 (by omega) ha (br_f (by decide) ?_)
  refine hk_ok1 (by omega) hb (br_f (by decide) ?_)
  refine ya_slot a 0 ?_
  refine ya_slot b 0 ?_
  rw [Nat.add_zero, Nat.add_zero]
  refine ya_split cB (by omega) gcB (fun eb => br_f (by decide) ?_) (fun eb => br_t rfl (k0 (fun c => eb c.2.1) yA yR yM yL yw yl _ ye yp yq yr ys r1 hk_fr_r))
  refine ya_split cA (by omega) gcA (fun ea => br_f (by decide) ?_) (fun ea => br_t rfl (k0 (fun c => ea c.1) yA yR yM yL yw yl _ _ _ _ _ _ r1 hk_fr_r))
  obtain ⟨t1, t2, t3, t4, t5, t6, t7⟩ := hk_ise_at gcA.1 ea
  obtain ⟨u1, u2, u3, u4, u5, u6, u7⟩ := hk_ise_at gcB.1 eb
  obtain ⟨-, -, -, -, ty, ty2, dA, -⟩ := hk_ise_sides gcA ea
  have dl : (la.drop (hk_e la 3)).take (la.length - hk_e la 3) = la.drop (hk_e la 3) := List.take_of_length_le (by rw [List.length_drop]; omega)
  refine ya_cmpp (oa := hk_e la 3) (ob := 3) (na := la.length - hk_e la 3) (nb := hk_e lb 3 - 3) cA cB (by omega) (by omega) gcA gcB (by omega) (by omega) rfl rfl (fun r hr => ?_)
  rw [dl] at hr
  refine br_c (fun z => ?_) (fun z => k0 (fun c => z (hr.mpr c.2.2.1)) yA yR yM yL yw yl _ _ _ _ _ _ r1 hk_fr_r)
  have es := hr.mp z
  refine ya_begin (o := 96) (by omega) (fun L1 q1 f1 => ?_)
  refine ya_head (a := hk_c la 2 % 256) (by omega) q1 rfl (fun M2 L2 q2 f2 => ?_)
  have f12 := hk_fr_t f1 f2
  refine ya_part (st := 3) (n := hk_e la 3 - 3) (by omega) (by omega) (by omega) (by omega) la32 q2 (hk_fr_hy f12 (by omega) cA) (by simp) rfl (fun M3 L3 q3 f3 => ?_)
  have f13 := hk_fr_t f12 f3
  refine ya_part (st := hk_e lb 3) (n := lb.length - hk_e lb 3) (by omega) (by omega) (by omega) (by omega) lb32 q3 (hk_fr_hy f13 (by omega) cB) (by rw [List.length_append, hk_fm_len]; show 3 + (hk_e la 3 - 3) < 90000; omega) rfl (fun M4 L4 q4 f4 => ?_)
  have FF := hk_fr_t f13 f4
  have QQ : hk_hy M4 L4 96 (vl_trans la lb) := q4
  have FG := hk_fr_w (V := fun s => 32 + nH * 4 ≤ s) FF (fun s e => by have e : s = 96 := e; omega)
  refine pk_le (min (vl_trans la lb).length 33) 32 (fun z2 => ?_) (fun z2 => k0 (fun c => by have := c.2.2.2.1; omega) yA yR M4 L4 _ _ _ _ _ _ _ _ r1 FG)
  have z3 : (vl_trans la lb).length ≤ 32 := by omega
  refine ya_add (C := []) (wf := fun _ => true) (n := T.1) (by omega) lA gA pA (ya_hs_fr FF sA (fun i hi => by omega)) (Or.inl ⟨rfl, fun _ => rfl⟩) (fun i hi => absurd hi (Nat.not_lt_zero i)) (by decide) ?_
  rw [hk_ft, List.nil_append]
  intro M6 L6 w6 wl6 h6 f6
  refine ya_add (C := HA) (wf := fun _ => true) (n := T.1) (by omega) lB gB pB (ya_hs_fr f6 (ya_hs_fr FF sB (fun i hi => by omega)) (fun i hi => by omega)) (Or.inl ⟨rfl, fun _ => rfl⟩) h6 lA ?_
  rw [hk_ft]
  intro M7 L7 w7 wl7 h7 f7
  have f67 := hk_fr_t f6 f7
  have F7 := hk_fr_t FG (hk_fr_w (V := fun s => 32 + nH * 4 ≤ s) f67 (fun s e => by have e : 100 ≤ s ∧ s < 108 := e; omega))
  have q7 := hk_fr_hy f67 (s := 96) (by omega) QQ
  refine ya_merge lAB gAB h7 (fun h3 M8 L8 w8 wl8 h8 f8 => br_t (nI_pos' (by omega)) ?_) (fun h3 M8 L8 w8 wl8 f8 => br_f hk_m1_nge (k0 (fun c => by have := c.2.2.2.2; omega) yA yR M8 L8 w8 wl8 _ _ _ _ _ _ r1 (hk_fr_t F7 (hk_fr_w f8 (fun s e => by have e : 97 ≤ s ∧ s < 100 := e; omega)))))
  refine ya_commit (by omega) z3 h3 (fun y hy => (hk_un_gt hk_nilm gAB y hy).2.1) (hk_fr_hy f8 (by omega) q7) h8 rfl (fun M9 L9 w9 wl9 h9 h10 f9 => ?_)
  exact k1 ⟨ea, eb, es, z3, h3⟩ yA yR M9 L9 w9 wl9 _ _ _ _ _ _ r1 h9 h10 (hk_fr_t (hk_fr_t F7 (hk_fr_w f8 (fun s e => by have e : 97 ≤ s ∧ s < 100 := e; omega))) (hk_fr_w f9 (fun s e => e.1)))
theorem yr_comb {post : Int32 → SY → Prop} {a b cc : Nat} {HA HB : List (List Nat)} (I : hk_I T nM TY nH HC G cM cH) (R : hk_R T nM TY nH HC G yA yR yY yP (hk_hy yM yL)) (hH : nH < cH) (ha : a < nH) (hb : b < nH) (eA : HA = hk_H G (32 + a * 4 + 1) (HC a)) (eB : HB = hk_H G (32 + b * 4 + 1) (HC b)) (hcc : cc = T.2.2 (hk_c (G (32 + a * 4)) 2 % 256))
    (k1 : vc_comb T cc (G (32 + a * 4)) (G (32 + b * 4)) HA HB → yr_K post T nM nH y1 y2 y3 y4 y5 yc yd yM yL yY yP (some (vl_comb cc (G (32 + a * 4)) (G (32 + b * 4)), hk_un [] (HA ++ HB), (hk_ie T cc).2)))
    (k0 : ¬ vc_comb T cc (G (32 + a * 4)) (G (32 + b * 4)) HA HB → yr_K post T nM nH y1 y2 y3 y4 y5 yc yd yM yL yY yP none) : wpY_ruleMkComb post (y1, y2, y3, y4, y5, nI T.1, nI nM, nI nH, yc, yd, yw, yl, nI 0, ye, yp, yq, yr, ys, yM, yL, yY, yA, yR, yP) (nI a) (nI b) := by
  obtain ⟨sA, pA, cA⟩ := hk_R_hs R ha
  obtain ⟨sB, pB, cB⟩ := hk_R_hs R hb
  obtain ⟨lA, gA, gcA⟩ := hk_I_hs I ha
  obtain ⟨lB, gB, gcB⟩ := hk_I_hs I hb
  rw [← eA] at sA pA lA gA
  rw [← eB] at sB pB lB gB
  obtain ⟨i1, i2, i3, i4, i5, i6, i7⟩ := I
  obtain ⟨r1, r2, r3⟩ := R
  generalize G (32 + a * 4) = la at *
  generalize G (32 + b * 4) = lb at *
  have la32 := gcA.2.1
  have lb32 := gcB.2.1
  have hn := i1.2.1
  have gAB : ∀ y, y ∈ HA ++ HB → hk_gt T.1 y := fun y hy => (List.mem_append.mp hy).elim (gA y) (gB y)
  have lAB : (HA ++ HB).length ≤ 6 := by rw [List.length_append]; omega
  refine hk_ok1 (by omega) ha (br_f (by decide) ?_)
  refine hk_ok1 (by omega) hb (br_f (by decide) ?_)
  refine ya_slot a 0 ?_
  refine ya_slot b 0 ?_
  rw [Nat.add_zero, Nat.add_zero]
  refine ya_split cB (by omega) gcB (fun eb => br_f (by decide) ?_) (fun eb => br_t rfl (k0 (fun c => eb c.2.1) yA yR yM yL yw yl _ ye yp yq yr ys r1 hk_fr_r))
  refine ya_split cA (by omega) gcA (fun ea => br_f (by decide) ?_) (fun ea => br_t rfl (k0 (fun c => ea c.1) yA yR yM yL yw yl _ _ _ _ _ _ r1 hk_fr_r))
  obtain ⟨t1, t2, t3, t4, t5, t6, t7⟩ := hk_ise_at gcA.1 ea
  obtain ⟨u1, u2, u3, u4, u5, u6, u7⟩ := hk_ise_at gcB.1 eb
  obtain ⟨-, -, -, -, fT, fT2, -, -⟩ := hk_ise_sides gcA ea
  obtain ⟨-, -, -, -, aT, aT2, -, -⟩ := hk_ise_sides gcB eb
  have nd2 := hk_nd_le T cc
  refine pk_lt (hk_c la 2 % 256) 3 (fun z => k0 (fun c => by have := c.2.2.1; omega) yA yR yM yL yw yl _ _ _ _ _ _ r1 hk_fr_r) (fun g3 => ?_)
  refine br_f (nI_ge fT (by omega)) ?_
  have V48 : vp_in (nI (hk_c la 2 % 256)) 48 := vp_in_nI (by omega) (by omega)
  have cT := (i1.2.2.2.2.2.2 _ g3 fT).2
  rw [← hcc] at cT
  have dT := (i1.2.2.2.2.2.2 _ g3 fT).1
  have eD : yA (nI (hk_c la 2 % 256)).toNatClampNeg = nI (T.2.1 (hk_c la 2 % 256)) := by rw [nI_clamp (by omega), (r1 _ g3 fT).1]
  have eR : yR (nI (hk_c la 2 % 256)).toNatClampNeg = nI cc := by rw [nI_clamp (by omega), (r1 _ g3 fT).2, hcc]
  refine ⟨V48, ?_⟩
  rw [eD]
  refine pk_eq (T.2.1 (hk_c la 2 % 256)) (hk_c lb 2 % 256) (fun gD => ⟨V48, nm_r eR ?_⟩) (fun gD => k0 (fun c => gD c.2.2.2.1) yA yR yM yL yw yl _ _ _ _ _ _ r1 hk_fr_r)
  refine ya_need r1 i1 cT ?_
  rw [nI_add]
  refine pk_le (T.1 + hk_nd T cc) 48 (fun fit => ?_) (fun fit => k0 (fun c => by have := c.2.2.2.2.2.2; omega) yA yR yM yL yw yl _ _ _ _ _ _ r1 hk_fr_r)
  refine ya_begin (o := 96) (by omega) (fun L1 q1 f1 => ?_)
  refine ya_head (a := cc) (by omega) q1 rfl (fun M2 L2 q2 f2 => ?_)
  have f12 := hk_fr_t f1 f2
  refine ya_emit (c := 196608) (by omega) q2 (by simp) rfl (fun M3 L3 q3 f3 => ?_)
  have f13 := hk_fr_t f12 f3
  refine ya_part (st := 3) (n := hk_e la 3 - 3) (by omega) (by omega) (by omega) (by omega) la32 q3 (hk_fr_hy f13 (by omega) cA) (by simp) rfl (fun M4 L4 q4 f4 => ?_)
  have f14 := hk_fr_t f13 f4
  have n3 : ([196608, 196608, 131072 + cc] ++ [196608] ++ hk_fm (fun q => [hk_c la q]) 3 (hk_e la 3 - 3)).length = 4 + (hk_e la 3 - 3) := by
    rw [List.length_append, hk_fm_len]; rfl
  refine ya_part (st := 3) (n := hk_e lb 3 - 3) (by omega) (by omega) (by omega) (by omega) lb32 q4 (hk_fr_hy f14 (by omega) cB) (by omega) rfl (fun M5 L5 q5 f5 => ?_)
  have f15 := hk_fr_t f14 f5
  refine ya_emit (c := 196608) (by omega) q5 (by rw [List.length_append, hk_fm_len]; omega) rfl (fun N6 P6 q6 g6 => ?_)
  have f16 := hk_fr_t f15 g6
  refine ya_part (st := hk_e la 3) (n := la.length - hk_e la 3) (by omega) (by omega) (by omega) (by omega) la32 q6 (hk_fr_hy f16 (by omega) cA) (by rw [List.length_append, List.length_append, hk_fm_len, n3]; show 4 + (hk_e la 3 - 3) + (hk_e lb 3 - 3) + 1 < 90000; omega) rfl (fun N7 P7 q7' g7 => ?_)
  have f17 := hk_fr_t f16 g7
  refine ya_part (st := hk_e lb 3) (n := lb.length - hk_e lb 3) (by omega) (by omega) (by omega) (by omega) lb32 q7' (hk_fr_hy f17 (by omega) cB) (by rw [List.length_append, List.length_append, List.length_append, hk_fm_len, hk_fm_len, n3]; show 4 + (hk_e la 3 - 3) + (hk_e lb 3 - 3) + 1 + (la.length - hk_e la 3) < 90000; omega) rfl (fun M4 L4 q4 f4 => ?_)
  have FF := hk_fr_t f17 f4
  have QQ : hk_hy M4 L4 96 (vl_comb cc la lb) := q4
  have FG := hk_fr_w (V := fun s => 32 + nH * 4 ≤ s) FF (fun s e => by have e : s = 96 := e; omega)
  refine pk_le (min (vl_comb cc la lb).length 33) 32 (fun z2 => ?_) (fun z2 => k0 (fun c => by have := c.2.2.2.2.1; omega) yA yR M4 L4 _ _ _ _ _ _ _ _ r1 FG)
  have z3 : (vl_comb cc la lb).length ≤ 32 := by omega
  refine ya_add (C := []) (wf := fun _ => true) (n := T.1) (by omega) lA gA pA (ya_hs_fr FF sA (fun i hi => by omega)) (Or.inl ⟨rfl, fun _ => rfl⟩) (fun i hi => absurd hi (Nat.not_lt_zero i)) (by decide) ?_
  rw [hk_ft, List.nil_append]
  intro M6 L6 w6 wl6 h6 f6
  refine ya_add (C := HA) (wf := fun _ => true) (n := T.1) (by omega) lB gB pB (ya_hs_fr f6 (ya_hs_fr FF sB (fun i hi => by omega)) (fun i hi => by omega)) (Or.inl ⟨rfl, fun _ => rfl⟩) h6 lA ?_
  rw [hk_ft]
  intro M7 L7 w7 wl7 h7 f7
  have f67 := hk_fr_t f6 f7
  have F7 := hk_fr_t FG (hk_fr_w (V := fun s => 32 + nH * 4 ≤ s) f67 (fun s e => by have e : 100 ≤ s ∧ s < 108 := e; omega))
  have q7 := hk_fr_hy f67 (s := 96) (by omega) QQ
  refine ya_merge lAB gAB h7 (fun h3 M8 L8 w8 wl8 h8 f8 => br_t (nI_pos' (by omega)) ?_) (fun h3 M8 L8 w8 wl8 f8 => br_f hk_m1_nge (k0 (fun c => by have := c.2.2.2.2.2.1; omega) yA yR M8 L8 w8 wl8 _ _ _ _ _ _ r1 (hk_fr_t F7 (hk_fr_w f8 (fun s e => by have e : 97 ≤ s ∧ s < 100 := e; omega)))))
  refine ya_internEq r1 i1 cT (hk_fit1 fit) (fun A R hb' => ?_)
  refine ya_commit (by omega) z3 h3 (fun y hy => (hk_un_gt hk_nilm gAB y hy).2.1) (hk_fr_hy f8 (by omega) q7) h8 rfl (fun M9 L9 w9 wl9 h9 h10 f9 => ?_)
  exact k1 ⟨ea, eb, g3, gD, z3, h3, fit⟩ A R M9 L9 w9 wl9 _ _ _ _ _ _ hb' h9 h10 (hk_fr_t (hk_fr_t F7 (hk_fr_w f8 (fun s e => by have e : 97 ≤ s ∧ s < 100 := e; omega))) (hk_fr_w f9 (fun s e => e.1)))
theorem yr_mp {post : Int32 → SY → Prop} {a b : Nat} {HA HB : List (List Nat)} (I : hk_I T nM TY nH HC G cM cH) (R : hk_R T nM TY nH HC G yA yR yY yP (hk_hy yM yL)) (hH : nH < cH) (ha : a < nH) (hb : b < nH) (eA : HA = hk_H G (32 + a * 4 + 1) (HC a)) (eB : HB = hk_H G (32 + b * 4 + 1) (HC b))
    (k1 : vc_mp (G (32 + a * 4)) (G (32 + b * 4)) HA HB → yr_K post T nM nH y1 y2 y3 y4 y5 yc yd yM yL yY yP (some (vl_mp (G (32 + a * 4)), hk_un [] (HA ++ HB), T)))
    (k0 : ¬ vc_mp (G (32 + a * 4)) (G (32 + b * 4)) HA HB → yr_K post T nM nH y1 y2 y3 y4 y5 yc yd yM yL yY yP none) : wpY_ruleEqMp post (y1, y2, y3, y4, y5, nI T.1, nI nM, nI nH, yc, yd, yw, yl, nI 0, ye, yp, yq, yr, ys, yM, yL, yY, yA, yR, yP) (nI a) (nI b) := by
  obtain ⟨sA, pA, cA⟩ := hk_R_hs R ha
  obtain ⟨sB, pB, cB⟩ := hk_R_hs R hb
  obtain ⟨lA, gA, gcA⟩ := hk_I_hs I ha
  obtain ⟨lB, gB, gcB⟩ := hk_I_hs I hb
  rw [← eA] at sA pA lA gA
  rw [← eB] at sB pB lB gB
  obtain ⟨i1, i2, i3, i4, i5, i6, i7⟩ := I
  obtain ⟨r1, r2, r3⟩ := R
  generalize G (32 + a * 4) = la at *
  generalize G (32 + b * 4) = lb at *
  have la32 := gcA.2.1
  have lb32 := gcB.2.1
  have hn := i1.2.1
  have gAB : ∀ y, y ∈ HA ++ HB → hk_gt T.1 y := fun y hy => (List.mem_append.mp hy).elim (gA y) (gB y)
  have lAB : (HA ++ HB).length ≤ 6 := by rw [List.length_append]; omega
  refine hk_ok1 (by omega) ha (br_f (by decide) ?_)
  refine hk_ok1 (by omega) hb (br_f (by decide) ?_)
  refine ya_slot a 0 ?_
  refine ya_slot b 0 ?_
  rw [Nat.add_zero, Nat.add_zero]
  refine ya_split cA (by omega) gcA (fun ea => br_f (by decide) ?_) (fun ea => br_t rfl (k0 (fun c => ea c.1) yA yR yM yL yw yl _ ye yp yq yr ys r1 hk_fr_r))
  obtain ⟨t1, t2, t3, t4, t5, t6, t7⟩ := hk_ise_at gcA.1 ea
  have dl : (lb.drop 0).take lb.length = lb := by rw [List.drop_zero, List.take_length]
  refine ⟨vp_in_nI (by omega) (by omega), ?_⟩
  refine ya_cmpp (oa := 3) (ob := 0) (na := hk_e la 3 - 3) (nb := lb.length) cA cB (by omega) (by omega) gcA gcB (by omega) (by omega) rfl (hk_szy cB (by omega) lb32) (fun r hr => ?_)
  rw [dl] at hr
  refine br_c (fun z => ?_) (fun z => k0 (fun c => z (hr.mpr c.2.1)) yA yR yM yL yw yl _ _ _ _ _ _ r1 hk_fr_r)
  have es := hr.mp z
  refine ya_begin (o := 96) (by omega) (fun L1 q1 f1 => ?_)
  refine ya_part (st := hk_e la 3) (n := la.length - hk_e la 3) (by omega) (by omega) (by omega) (by omega) la32 q1 (hk_fr_hy f1 (by omega) cA) (by decide) rfl (fun M4 L4 q4 f4 => ?_)
  have FF := hk_fr_t f1 f4
  have QQ : hk_hy M4 L4 96 (vl_mp la) := q4
  have FG := hk_fr_w (V := fun s => 32 + nH * 4 ≤ s) FF (fun s e => by have e : s = 96 := e; omega)
  have z3 := (vg_mp gcA ea).2.1
  refine ya_add (C := []) (wf := fun _ => true) (n := T.1) (by omega) lA gA pA (ya_hs_fr FF sA (fun i hi => by omega)) (Or.inl ⟨rfl, fun _ => rfl⟩) (fun i hi => absurd hi (Nat.not_lt_zero i)) (by decide) ?_
  rw [hk_ft, List.nil_append]
  intro M6 L6 w6 wl6 h6 f6
  refine ya_add (C := HA) (wf := fun _ => true) (n := T.1) (by omega) lB gB pB (ya_hs_fr f6 (ya_hs_fr FF sB (fun i hi => by omega)) (fun i hi => by omega)) (Or.inl ⟨rfl, fun _ => rfl⟩) h6 lA ?_
  rw [hk_ft]
  intro M7 L7 w7 wl7 h7 f7
  have f67 := hk_fr_t f6 f7
  have F7 := hk_fr_t FG (hk_fr_w (V := fun s => 32 + nH * 4 ≤ s) f67 (fun s e => by have e : 100 ≤ s ∧ s < 108 := e; omega))
  have q7 := hk_fr_hy f67 (s := 96) (by omega) QQ
  refine ya_merge lAB gAB h7 (fun h3 M8 L8 w8 wl8 h8 f8 => br_t (nI_pos' (by omega)) ?_) (fun h3 M8 L8 w8 wl8 f8 => br_f hk_m1_nge (k0 (fun c => by have := c.2.2; omega) yA yR M8 L8 w8 wl8 _ _ _ _ _ _ r1 (hk_fr_t F7 (hk_fr_w f8 (fun s e => by have e : 97 ≤ s ∧ s < 100 := e; omega)))))
  refine ya_commit (by omega) z3 h3 (fun y hy => (hk_un_gt hk_nilm gAB y hy).2.1) (hk_fr_hy f8 (by omega) q7) h8 rfl (fun M9 L9 w9 wl9 h9 h10 f9 => ?_)
  exact k1 ⟨ea, es, h3⟩ yA yR M9 L9 w9 wl9 _ _ _ _ _ _ r1 h9 h10 (hk_fr_t (hk_fr_t F7 (hk_fr_w f8 (fun s e => by have e : 97 ≤ s ∧ s < 100 := e; omega))) (hk_fr_w f9 (fun s e => e.1)))
theorem yr_ded {post : Int32 → SY → Prop} {a b : Nat} {HA HB : List (List Nat)} (I : hk_I T nM TY nH HC G cM cH) (R : hk_R T nM TY nH HC G yA yR yY yP (hk_hy yM yL)) (hH : nH < cH) (ha : a < nH) (hb : b < nH) (eA : HA = hk_H G (32 + a * 4 + 1) (HC a)) (eB : HB = hk_H G (32 + b * 4 + 1) (HC b))
    (k1 : vc_ded (G (32 + a * 4)) (G (32 + b * 4)) HA HB → yr_K post T nM nH y1 y2 y3 y4 y5 yc yd yM yL yY yP (some (hk_eq 0 (G (32 + a * 4)) (G (32 + b * 4)), vh_ded (G (32 + a * 4)) (G (32 + b * 4)) HA HB, T)))
    (k0 : ¬ vc_ded (G (32 + a * 4)) (G (32 + b * 4)) HA HB → yr_K post T nM nH y1 y2 y3 y4 y5 yc yd yM yL yY yP none) : wpY_ruleDeduct post (y1, y2, y3, y4, y5, nI T.1, nI nM, nI nH, yc, yd, yw, yl, nI 0, ye, yp, yq, yr, ys, yM, yL, yY, yA, yR, yP) (nI a) (nI b) := by
  obtain ⟨sA, pA, cA⟩ := hk_R_hs R ha
  obtain ⟨sB, pB, cB⟩ := hk_R_hs R hb
  obtain ⟨lA, gA, gcA⟩ := hk_I_hs I ha
  obtain ⟨lB, gB, gcB⟩ := hk_I_hs I hb
  rw [← eA] at sA pA lA gA
  rw [← eB] at sB pB lB gB
  obtain ⟨i1, i2, i3, i4, i5, i6, i7⟩ := I
  obtain ⟨r1, r2, r3⟩ := R
  generalize G (32 + a * 4) = la at *
  generalize G (32 + b * 4) = lb at *
  have la32 := gcA.2.1
  have lb32 := gcB.2.1
  have hn := i1.2.1
  have gAB : ∀ y, y ∈ HA ++ HB → hk_gt T.1 y := fun y hy => (List.mem_append.mp hy).elim (gA y) (gB y)
  have lAB : (HA ++ HB).length ≤ 6 := by rw [List.length_append]; omega
  refine hk_ok1 (by omega) ha (br_f (by decide) ?_)
  refine hk_ok1 (by omega) hb (br_f (by decide) ?_)
  refine ya_slot a 0 ?_
  refine ya_slot b 0 ?_
  rw [Nat.add_zero, Nat.add_zero]
  have VA : vp_in (nI (32 + a * 4)) 110 := vp_in_nI (by omega) (by omega)
  have VB : vp_in (nI (32 + b * 4)) 110 := vp_in_nI (by omega) (by omega)
  refine ya_begin (o := 96) (by omega) (fun L1 q1 f1 => ?_)
  refine ya_head (a := 0) (by omega) q1 rfl (fun M2 L2 q2 f2 => ⟨VA, ?_⟩)
  have f12 := hk_fr_t f1 f2
  have cA2 := hk_fr_hy f12 (s := 32 + a * 4) (by omega) cA
  refine ya_all (by omega) (by omega) (by omega) la32 q2 cA2 (by simp) (hk_szy cA2 (by omega) la32) (fun M3 L3 q3 f3 => ⟨VB, ?_⟩)
  have f13 := hk_fr_t f12 f3
  have cB3 := hk_fr_hy f13 (s := 32 + b * 4) (by omega) cB
  refine ya_all (by omega) (by omega) (by omega) lb32 q3 cB3 (by rw [List.length_append]; show 3 + la.length < 90000; omega) (hk_szy cB3 (by omega) lb32) (fun M4 L4 q4 f4 => ?_)
  have FF := hk_fr_t f13 f4
  have QQ : hk_hy M4 L4 96 (hk_eq 0 la lb) := q4
  have FG := hk_fr_w (V := fun s => 32 + nH * 4 ≤ s) FF (fun s e => by have e : s = 96 := e; omega)
  have el := hk_eq_len 0 la lb
  refine pk_le (min (hk_eq 0 la lb).length 33) 32 (fun z2 => ⟨VB, ?_⟩) (fun z2 => k0 (fun c => by have := c.2; omega) yA yR M4 L4 _ _ _ _ _ _ _ _ r1 FG)
  have z3 : (hk_eq 0 la lb).length ≤ 32 := by omega
  have cA4 := hk_fr_hy FF (s := 32 + a * 4) (by omega) cA
  have cB4 := hk_fr_hy FF (s := 32 + b * 4) (by omega) cB
  refine ya_add (C := []) (wf := hk_ne lb) (n := T.1) (by omega) lA gA pA (ya_hs_fr FF sA (fun i hi => by omega)) (Or.inr ⟨32 + b * 4, lb, rfl, rfl, hk_szy cB4 (by omega) lb32, by omega, gcB, cB4, hk_ne_iff lb⟩) (fun i hi => absurd hi (Nat.not_lt_zero i)) (by decide) ?_
  rw [List.nil_append]
  intro M6 L6 w6 wl6 h6 f6
  refine ⟨VA, ?_⟩
  have cA6 := hk_fr_hy f6 (s := 32 + a * 4) (by omega) cA4
  have lfA := List.length_filter_le (hk_ne lb) HA
  have lfB := List.length_filter_le (hk_ne la) HB
  refine ya_add (C := HA.filter (hk_ne lb)) (wf := hk_ne la) (n := T.1) (by omega) lB gB pB (ya_hs_fr f6 (ya_hs_fr FF sB (fun i hi => by omega)) (fun i hi => by omega)) (Or.inr ⟨32 + a * 4, la, rfl, rfl, hk_szy cA6 (by omega) la32, by omega, gcA, cA6, hk_ne_iff la⟩) h6 (by omega) ?_
  intro M7 L7 w7 wl7 h7 f7
  have f67 := hk_fr_t f6 f7
  have F7 := hk_fr_t FG (hk_fr_w (V := fun s => 32 + nH * 4 ≤ s) f67 (fun s e => by have e : 100 ≤ s ∧ s < 108 := e; omega))
  have q7 := hk_fr_hy f67 (s := 96) (by omega) QQ
  have gF : ∀ y, y ∈ HA.filter (hk_ne lb) ++ HB.filter (hk_ne la) → hk_gt T.1 y := fun y hy => (List.mem_append.mp hy).elim (fun z => gA y ((List.mem_filter.mp z).1)) (fun z => gB y ((List.mem_filter.mp z).1))
  have lF : (HA.filter (hk_ne lb) ++ HB.filter (hk_ne la)).length ≤ 6 := by rw [List.length_append]; omega
  refine ya_merge lF gF h7 (fun h3 M8 L8 w8 wl8 h8 f8 => br_t (nI_pos' (by omega)) ?_) (fun h3 M8 L8 w8 wl8 f8 => br_f hk_m1_nge (k0 (fun c => by have := c.1; unfold vh_ded at this; omega) yA yR M8 L8 w8 wl8 _ _ _ _ _ _ r1 (hk_fr_t F7 (hk_fr_w f8 (fun s e => by have e : 97 ≤ s ∧ s < 100 := e; omega)))))
  refine ya_commit (by omega) z3 h3 (fun y hy => (hk_un_gt hk_nilm gF y hy).2.1) (hk_fr_hy f8 (by omega) q7) h8 rfl (fun M9 L9 w9 wl9 h9 h10 f9 => ?_)
  exact k1 ⟨h3, z3⟩ yA yR M9 L9 w9 wl9 _ _ _ _ _ _ r1 h9 h10 (hk_fr_t (hk_fr_t F7 (hk_fr_w f8 (fun s e => by have e : 97 ≤ s ∧ s < 100 := e; omega))) (hk_fr_w f9 (fun s e => e.1)))
end
end
section
/-! the reference's rules, continued: ABS, INST -/
section
variable {y1 y2 y3 y4 y5 yn ym yh yc yd yw yl yk ye yp yq yr ys : Int32} {yM yL yY yA yR yP : Nat → Int32} {T : hk_T} {nM nH cM cH : Nat} {TY HC : Nat → Nat} {G : Nat → List Nat}
/-- the types fit: the equation of the abstractions -/
theorem yr_abs157 {post : Int32 → SY → Prop} {a vc t z : Nat} {la : List Nat} {HA : List (List Nat)} (hb : hk_tb T yA yR) (i1 : hk_ti T) (hH : nH < 16) (ha : a < nH) (ea : hk_ise la) (gcA : hk_gt T.1 la) (cA : hk_hy yM yL (32 + a * 4) la) (lA : HA.length ≤ 3) (gA : ∀ y, y ∈ HA → hk_gt T.1 y) (pA : yP a = nI HA.length) (sA : hk_hs (hk_hy yM yL) (32 + a * 4 + 1) HA)
    (dT : vc % 256 < T.1) (hvc : vc < 524288) (hv : vc / 65536 = 1) (hl : la.length + 2 ≤ 32) (hz : T.1 + z ≤ 48) (ht : (hk_it T (vc % 256) (hk_c la 2 % 256)).1 = some t) (hx : hk_xa T (vc % 256) (hk_c la 2 % 256) = (some t, (hk_ie (hk_it T (vc % 256) (hk_c la 2 % 256)).2 t).2)) (hne : (hk_it (hk_it T (vc % 256) (hk_c la 2 % 256)).2 t 0).1 ≠ none)
    (k1 : yr_K post T nM nH y1 y2 y3 y4 y5 yc yd yM yL yY yP (some (vl_abs t vc la, hk_un [] HA, (hk_xa T (vc % 256) (hk_c la 2 % 256)).2))) :
    wY_ruleAbs_157 post (nI a) (nI vc) (nI (32 + a * 4)) (nI (vc % 256)) (nI z) y1 y2 y3 y4 y5 (nI T.1) (nI nM) (nI nH) yc yd yw yl (nI 0) (nI (hk_c la 2 % 256)) 3 (nI (hk_e la 3 - 3)) (nI (hk_e la 3)) (nI (la.length - hk_e la 3)) yM yL yY yA yR yP := by
  obtain ⟨t1, t2, t3, t4, t5, t6, t7⟩ := hk_ise_at gcA.1 ea
  obtain ⟨-, -, -, -, sT, sT2, -, -⟩ := hk_ise_sides gcA ea
  have hn := i1.2.1
  have la32 := gcA.2.1
  obtain ⟨j1, j2, j3, j4⟩ := hk_it_ok (d := vc % 256) (c := hk_c la 2 % 256) i1 dT sT
  have tT := (j4 t ht).2
  have tT48 := j1.2.1
  have lU : (hk_un [] HA).length ≤ 0 + HA.length := (hk_un_len (ts := HA) (S := [])).2
  have e2 : (hk_xa T (vc % 256) (hk_c la 2 % 256)).2 = (hk_ie (hk_it T (vc % 256) (hk_c la 2 % 256)).2 t).2 := by rw [hx]
  rw [e2] at k1
  have gv := vg_abs (n := 48) (c := t) (Nat.le_refl _) (by omega) hv (hk_gt_mono gcA hn) ea hl
  have ez : nI T.1 + nI z = nI (T.1 + z) := nI_add _ _
  refine br_t (by rw [ez]; exact nI_le (b := 48) hz (by omega)) ?_
  refine ya_intern hb i1 dT sT (fun A R hb' => ?_)
  rw [ht]
  refine ya_internEq hb' j1 tT hne (fun A2 R2 hb2 => ?_)
  refine ya_begin (o := 96) (by omega) (fun L1 q1 f1 => ?_)
  refine ya_head (a := t) (by omega) q1 rfl (fun M2 L2 q2 f2 => ?_)
  have f12 := hk_fr_t f1 f2
  refine ya_emit (c := 262144 + vc % 256) (by omega) q2 (by simp) (nI_add 262144 _) (fun M3 L3 q3 f3 => ?_)
  have f13 := hk_fr_t f12 f3
  refine ya_abs (st := 3) (n := hk_e la 3 - 3) (by omega) (by omega) (by omega) gcA (by omega) hvc q3 (hk_fr_hy f13 (by omega) cA) (by simp) rfl (fun M4 L4 q4 f4 => ?_)
  have f14 := hk_fr_t f13 f4
  have n4 : ([196608, 196608, 131072 + t] ++ [262144 + vc % 256] ++ hk_fm (fun q => [hk_ab1 la 3 vc q]) 3 (hk_e la 3 - 3)).length = 4 + (hk_e la 3 - 3) := by
    rw [List.length_append, hk_fm_len]; rfl
  refine ya_emit (c := 262144 + vc % 256) (by omega) q4 (by omega) (nI_add 262144 _) (fun M5 L5 q5 f5 => ?_)
  have f15 := hk_fr_t f14 f5
  refine ya_abs (st := hk_e la 3) (n := la.length - hk_e la 3) (by omega) (by omega) (by omega) gcA (by omega) hvc q5 (hk_fr_hy f15 (by omega) cA) (by rw [List.length_append, n4]; show 4 + (hk_e la 3 - 3) + 1 < 90000; omega) rfl (fun M6 L6 q6 f6 => ?_)
  have FF := hk_fr_t f15 f6
  have el : [196608, 196608, 131072 + t] ++ [262144 + vc % 256] ++ hk_fm (fun q => [hk_ab1 la 3 vc q]) 3 (hk_e la 3 - 3) ++ [262144 + vc % 256] ++ hk_fm (fun q => [hk_ab1 la (hk_e la 3) vc q]) (hk_e la 3) (la.length - hk_e la 3) = vl_abs t vc la := by
    unfold vl_abs hk_abl
    simp
  have QQ : hk_hy M6 L6 96 (vl_abs t vc la) := by rw [← el]; exact q6
  have FG := hk_fr_w (V := fun s => 32 + nH * 4 ≤ s) FF (fun s e => by have e : s = 96 := e; omega)
  refine ya_add (C := []) (wf := fun _ => true) (n := T.1) (by omega) lA gA pA (ya_hs_fr FF sA (fun i hi => by omega)) (Or.inl ⟨rfl, fun _ => rfl⟩) (fun i hi => absurd hi (Nat.not_lt_zero i)) (by decide) ?_
  rw [hk_ft, List.nil_append]
  intro M7 L7 w7 wl7 h7 f7
  have F7 := hk_fr_t FG (hk_fr_w (V := fun s => 32 + nH * 4 ≤ s) f7 (fun s e => by have e : 100 ≤ s ∧ s < 108 := e; omega))
  have q7 := hk_fr_hy f7 (s := 96) (by omega) QQ
  refine ya_merge (by omega) gA h7 (fun h3 M8 L8 w8 wl8 h8 f8 => ?_) (fun h3 M8 L8 w8 wl8 f8 => by omega)
  refine ya_commit (by omega) gv.2.1 h3 (fun y hy => (hk_un_gt hk_nilm gA y hy).2.1) (hk_fr_hy f8 (by omega) q7) h8 rfl (fun M9 L9 w9 wl9 h9 h10 f9 => ?_)
  exact k1 A2 R2 M9 L9 w9 wl9 _ _ _ _ _ _ hb2 h9 h10 (hk_fr_t (hk_fr_t F7 (hk_fr_w f8 (fun s e => by have e : 97 ≤ s ∧ s < 100 := e; omega))) (hk_fr_w f9 (fun s e => e.1)))
theorem yr_abs_l {post : Int32 → SY → Prop} {a vc n : Nat} {A : List (List Nat)} (ha : a < 16) (hvc : vc < 524288) (lA : A.length ≤ 3) (gA : ∀ y, y ∈ A → hk_gt n y) (pA : yP a = nI A.length) (sA : hk_hs (hk_hy yM yL) (32 + a * 4 + 1) A) :
    ∀ (d i : Nat), i + d = A.length → ((∀ h, h ∈ A.drop i → ¬ vc ∈ h) → wY_ruleAbs_88 post (nI a) (nI vc) y1 y2 y3 y4 y5 yn ym yh yc yd yw yl yk ye yp yq yr ys yM yL yY yA yR yP) → (¬ (∀ h, h ∈ A.drop i → ¬ vc ∈ h) → post (-1) (y1, y2, y3, y4, y5, yn, ym, yh, yc, yd, yw, yl, yk, ye, yp, yq, yr, ys, yM, yL, yY, yA, yR, yP)) → wY_ruleAbs_48 post (nI a) (nI vc) y1 y2 y3 y4 y5 yn ym yh yc yd yw yl yk ye yp yq yr ys yM yL yY yA yR yP (d + 1) (nI (i + 1)) := by
  intro d
  induction d with
  | zero =>
    intro i hi k1 k0
    refine ⟨vp_in_nI ha (by omega), ?_⟩
    rw [nI_clamp (by omega), pA]
    refine br_t (nI_lt (by omega) (by omega)) (k1 (fun h hh => ?_))
    rw [List.drop_of_length_le (by omega)] at hh
    exact absurd hh List.not_mem_nil
  | succ d ih =>
    intro i hi k1 k0
    have il : i < A.length := by omega
    rw [hk_gd_drop il] at k1 k0
    refine ⟨vp_in_nI ha (by omega), ?_⟩
    rw [nI_clamp (by omega), pA]
    refine br_f (nI_nlt (by omega) (by omega)) (br_f (nI_nlt (b := i + 1) (a := 3) (by omega) (by omega)) ?_)
    refine ya_slot a (i + 1) ?_
    rw [show 32 + a * 4 + (i + 1) = 32 + a * 4 + 1 + i by omega]
    refine ya_has (sA i il) (by omega) (gA _ (hk_ix_mem il)) hvc (fun z => br_f (by decide) (k0 (fun c => c _ List.mem_cons_self z))) (fun z => br_t rfl (nm_r (nI_1 _) ?_))
    refine ih (i + 1) (by omega) (fun q => k1 (fun h hh => ?_)) (fun q => k0 (fun c => q (fun h hh => c h (List.mem_cons_of_mem _ hh))))
    rcases List.mem_cons.mp hh with e | e
    · rw [e]; exact z
    · exact q h e
theorem yr_abs {post : Int32 → SY → Prop} {a v vc : Nat} {HA : List (List Nat)} (I : hk_I T nM TY nH HC G cM cH) (R : hk_R T nM TY nH HC G yA yR yY yP (hk_hy yM yL)) (hH : nH < cH) (ha : a < nH) (hv : v < nM) (eA : HA = hk_H G (32 + a * 4 + 1) (HC a)) (evc : vc = hk_c (G v) 0)
    (k1 : ∀ t, (hk_xa T (vc % 256) (hk_c (G (32 + a * 4)) 2 % 256)).1 = some t → vc_abs T (G (32 + a * 4)) HA vc → yr_K post T nM nH y1 y2 y3 y4 y5 yc yd yM yL yY yP (some (vl_abs t vc (G (32 + a * 4)), hk_un [] HA, (hk_xa T (vc % 256) (hk_c (G (32 + a * 4)) 2 % 256)).2)))
    (k0 : ¬ vc_abs T (G (32 + a * 4)) HA vc → yr_K post T nM nH y1 y2 y3 y4 y5 yc yd yM yL yY yP none) : wpY_ruleAbs post (y1, y2, y3, y4, y5, nI T.1, nI nM, nI nH, yc, yd, yw, yl, nI 0, ye, yp, yq, yr, ys, yM, yL, yY, yA, yR, yP) (nI a) (nI v) := by
  obtain ⟨sA, pA, cA⟩ := hk_R_hs R ha
  obtain ⟨lA, gA, gcA⟩ := hk_I_hs I ha
  have vI := hk_I_var I hv
  rw [← evc] at vI
  rw [← eA] at sA pA lA gA
  obtain ⟨i1, i2, i3, i4, i5, i6, i7⟩ := I
  obtain ⟨r1, r2, r3⟩ := R
  obtain ⟨tyv, gv, -⟩ := i6 v hv
  obtain ⟨eYv, ehv⟩ := r2 v hv
  generalize G (32 + a * 4) = la at *
  have la32 := gcA.2.1
  have hn := i1.2.1
  have lv := gv.2.1
  have hvc : vc < 524288 := by rw [evc]; exact (hk_gt_c gv (hk_gt_pos gv)).1
  have ref : ∀ (c : ¬ vc_abs T la HA vc), post (-1) (y1, y2, y3, y4, y5, nI T.1, nI nM, nI nH, yc, yd, yw, yl, nI 0, ye, yp, yq, yr, ys, yM, yL, yY, yA, yR, yP) := fun c => k0 c yA yR yM yL yw yl _ ye yp yq yr ys r1 hk_fr_r
  refine hk_ok1 (by omega) ha (br_f (by decide) ?_)
  refine hk_ok1 (by omega) hv (br_f (by decide) ?_)
  refine ya_nd (p := 0) ehv (by omega) (hk_gt_pos gv) (by omega) ⟨vp_in_nI (by omega) (by omega), ?_⟩
  try dsimp only
  rw [hk_szy ehv (by omega) lv, ← evc]
  refine pk_eq (G v).length 1 (fun el => ⟨by decide, ?_⟩) (fun el => ref (fun c => el ?_))
  rotate_left
  · have := (vI c.2.1).1
    rw [this]; rfl
  rw [hk_kd hvc]
  refine pk_eq (vc / 65536) 1 (fun ek => ⟨HA.length + 1, ?_⟩) (fun ek => ref (fun c => ek c.2.1))
  obtain ⟨v1, v2, v3⟩ := vI ek
  have dT : vc % 256 < T.1 := by rw [← v2]; exact tyv
  refine yr_abs_l (by omega) hvc lA gA pA sA HA.length 0 (by omega) (fun oc => ?_) (fun oc => ref (fun c => oc (by rw [List.drop_zero]; exact c.2.2.1)))
  rw [List.drop_zero] at oc
  refine ya_slot a 0 ?_
  rw [Nat.add_zero]
  refine ya_split cA (by omega) gcA (fun ea => br_f (by decide) ?_) (fun ea => br_t rfl (ref (fun c => ea c.1)))
  obtain ⟨t1, t2, t3, t4, t5, t6, t7⟩ := hk_ise_at gcA.1 ea
  obtain ⟨-, -, -, -, sT, sT2, -, -⟩ := hk_ise_sides gcA ea
  have e5 : (5 : Int32) + nI (hk_e la 3 - 3) + nI (la.length - hk_e la 3) = nI (la.length + 2) := by
    rw [show (5 : Int32) = nI 5 from rfl, nI_add, nI_add, show 5 + (hk_e la 3 - 3) + (la.length - hk_e la 3) = la.length + 2 by omega]
  rw [e5]
  have ref2 : ∀ (c : ¬ vc_abs T la HA vc), post (-1) (y1, y2, y3, y4, y5, nI T.1, nI nM, nI nH, yc, yd, yw, yl, nI 0, nI (hk_c la 2 % 256), 3, nI (hk_e la 3 - 3), nI (hk_e la 3), nI (la.length - hk_e la 3), yM, yL, yY, yA, yR, yP) := fun c => k0 c yA yR yM yL yw yl _ _ _ _ _ _ r1 hk_fr_r
  refine pk_le (la.length + 2) 32 (fun zl => ⟨by decide, nm_r (hk_tyn hvc) ?_⟩) (fun zl => ref2 (fun c => by have := c.2.2.2.1; omega))
  refine ya_find r1 i1 (by omega) (by omega) ?_
  cases hf : hk_find T (vc % 256) (hk_c la 2 % 256) with
  | none =>
    refine br_f hk_m1_nge ?_
    by_cases z3 : T.1 + 3 ≤ 48
    · obtain ⟨x1, x2, x3⟩ := hk_xa_n i1 dT sT hf z3
      have hx : (hk_xa T (vc % 256) (hk_c la 2 % 256)).1 = some T.1 := by rw [x2]
      exact yr_abs157 (z := 3) r1 i1 (by omega) ha ea gcA cA lA gA pA sA dT hvc ek zl z3 x1 x2 x3 (k1 T.1 hx ⟨ea, ek, oc, zl, T.1, hx⟩)
    · refine br_f (fun y => ?_) (ref2 (fun c => ?_))
      · have e3 : nI T.1 + 3 = nI (T.1 + 3) := nI_add T.1 3
        rw [e3] at y
        exact nI_ge (b := T.1 + 3) (a := 48) (by omega) (by omega) y
      · obtain ⟨t, h⟩ := c.2.2.2.2
        rw [hk_xa_nz hf z3] at h; cases h
  | some t =>
    have w := hk_find_in hf (by have := i1.1; omega)
    have nd2 := hk_nd_le T t
    refine br_t (hk_o_ge (by omega)) ?_
    refine ya_need (a := t) r1 i1 w.2 ?_
    by_cases z3 : T.1 + hk_nd T t ≤ 48
    · obtain ⟨x1, x2, x3⟩ := hk_xa_s i1 hf z3
      have hx : (hk_xa T (vc % 256) (hk_c la 2 % 256)).1 = some t := by rw [x2]
      have x1a : (hk_it T (vc % 256) (hk_c la 2 % 256)).1 = some t := by rw [x1]
      have x1b : (hk_it T (vc % 256) (hk_c la 2 % 256)).2 = T := by rw [x1]
      exact yr_abs157 (z := hk_nd T t) r1 i1 (by omega) ha ea gcA cA lA gA pA sA dT hvc ek zl z3 x1a (by rw [x1b]; exact x2) (by rw [x1b]; exact x3) (k1 t hx ⟨ea, ek, oc, zl, t, hx⟩)
    · refine br_f (fun y => ?_) (ref2 (fun c => ?_))
      · rw [nI_add] at y
        exact nI_ge (b := T.1 + hk_nd T t) (a := 48) (by omega) (by omega) y
      · obtain ⟨q, h⟩ := c.2.2.2.2
        rw [hk_xa_sz i1 hf z3] at h; cases h
theorem yr_inst_l {post : Int32 → SY → Prop} {a t vc n : Nat} {A : List (List Nat)} {u : List Nat} (ha : a < 16) (ht : t < 32) (hvc : vc < 524288) (lA : A.length ≤ 3) (gA : ∀ y, y ∈ A → hk_gt n y) (gu : hk_gt n u) (pA : yP a = nI A.length) :
    ∀ (d i : Nat) (M L : Nat → Int32) (w wl : Int32) (C : List (List Nat)), i + d = A.length → C.length = i → hk_hs (hk_hy M L) (32 + a * 4 + 1) A → hk_hy M L t u → hk_hs (hk_hy M L) 100 C →
      ((∀ h, h ∈ A.drop i → (hk_sb h vc u).length ≤ 32) → ∀ (M' L' : Nat → Int32) (w' wl' : Int32), hk_hs (hk_hy M' L') 100 (C ++ vh_inst (A.drop i) vc u) → hk_fr (fun s => 100 ≤ s ∧ s < 108) M L M' L' → wY_ruleInst_172 post y1 y2 y3 y4 y5 yn ym yh yc yd w' wl' (nI (C ++ vh_inst (A.drop i) vc u).length) ye yp yq yr ys M' L' yY yA yR yP) →
      (¬ (∀ h, h ∈ A.drop i → (hk_sb h vc u).length ≤ 32) → ∀ (M' L' : Nat → Int32) (w' wl' w3 : Int32), hk_fr (fun s => 100 ≤ s ∧ s < 108) M L M' L' → post (-1) (y1, y2, y3, y4, y5, yn, ym, yh, yc, yd, w', wl', w3, ye, yp, yq, yr, ys, M', L', yY, yA, yR, yP)) →
      wY_ruleInst_103 post (nI a) (nI t) (nI vc) (d + 1) (nI (i + 1)) y1 y2 y3 y4 y5 yn ym yh yc yd w wl (nI C.length) ye yp yq yr ys M L yY yA yR yP := by
  intro d
  induction d with
  | zero =>
    intro i M L w wl C hi hCi hA hU hC k1 k0
    rw [List.drop_of_length_le (by omega)] at k1
    have e : C ++ vh_inst [] vc u = C := List.append_nil C
    rw [e] at k1
    refine ⟨vp_in_nI ha (by omega), ?_⟩
    rw [nI_clamp (by omega), pA]
    exact br_t (nI_lt (by omega) (by omega)) (k1 (fun h hh => absurd hh List.not_mem_nil) M L w wl hC hk_fr_r)
  | succ d ih =>
    intro i M L w wl C hi hCi hA hU hC k1 k0
    have il : i < A.length := by omega
    have gi := gA _ (hk_ix_mem il)
    rw [hk_gd_drop il] at k1 k0
    refine ⟨vp_in_nI ha (by omega), ?_⟩
    rw [nI_clamp (by omega), pA]
    refine br_f (nI_nlt (by omega) (by omega)) (br_f (nI_nlt (b := i + 1) (a := 3) (by omega) (by omega)) ?_)
    have e1 : (100 : Int32) + nI C.length = nI (100 + C.length) := nI_add 100 _
    rw [e1]
    refine ya_begin (by omega) (fun L1 q1 f1 => ?_)
    refine ya_slot a (i + 1) ?_
    rw [show 32 + a * 4 + (i + 1) = 32 + a * 4 + 1 + i by omega]
    have hi1 := hk_fr_hy f1 (s := 32 + a * 4 + 1 + i) (by omega) (hA i il)
    have hU1 := hk_fr_hy f1 (s := t) (by omega) hU
    have big := hk_sb_len gi.2.1 gu.2.1 (vc := vc)
    refine ya_sub (by omega) (by omega) (by omega) (by omega) (by omega) gi gu hvc q1 hi1 hU1 (fun M2 L2 q2 f2 => ?_)
    have f12 := hk_fr_t f1 f2
    have F12 := hk_fr_w (V := fun s => 100 ≤ s ∧ s < 108) f12 (fun s e => by have e : s = 100 + C.length := e; omega)
    refine pk_le (min (hk_sb (A.getD i []) vc u).length 33) 32 (fun z => nm_r (nI_1 _) (nm_r (nI_1 _) ?_)) (fun z => k0 (fun c => ?_) M2 L2 _ _ _ F12)
    · have el : C.length + 1 = (C ++ [hk_sb (A.getD i []) vc u]).length := by rw [List.length_append]; rfl
      have ev : C ++ vh_inst (A.getD i [] :: A.drop (i + 1)) vc u = C ++ [hk_sb (A.getD i []) vc u] ++ vh_inst (A.drop (i + 1)) vc u := by
        rw [List.append_assoc]; rfl
      rw [ev] at k1
      rw [el]
      refine ih (i + 1) M2 L2 _ _ (C ++ [hk_sb (A.getD i []) vc u]) (by omega) (by omega) (ya_hs_fr F12 hA (fun j hj => by omega)) (hk_fr_hy F12 (by omega) hU) ?_ (fun c M3 L3 w3 wl3 h3 f3 => k1 (fun h hh => ?_) M3 L3 w3 wl3 h3 (hk_fr_t F12 f3)) (fun c M3 L3 w3 wl3 x3 f3 => k0 (fun q => c (fun h hh => q h (List.mem_cons_of_mem _ hh))) M3 L3 w3 wl3 x3 (hk_fr_t F12 f3))
      · refine hk_hs_app (ya_hs_fr f12 hC (fun j hj e => ?_)) q2
        have e : 100 + j = 100 + C.length := e
        omega
      · rcases List.mem_cons.mp hh with e | e
        · rw [e]; omega
        · exact c h e
    · have := c _ List.mem_cons_self
      omega
theorem yr_inst {post : Int32 → SY → Prop} {a v t vc : Nat} {HA : List (List Nat)} (I : hk_I T nM TY nH HC G cM cH) (R : hk_R T nM TY nH HC G yA yR yY yP (hk_hy yM yL)) (hH : nH < cH) (ha : a < nH) (hv : v < nM) (ht : t < nM) (eA : HA = hk_H G (32 + a * 4 + 1) (HC a)) (evc : vc = hk_c (G v) 0)
    (k1 : (vc / 65536 = 1 ∧ TY t = vc % 256) ∧ vc_inst (G (32 + a * 4)) (G t) HA vc → yr_K post T nM nH y1 y2 y3 y4 y5 yc yd yM yL yY yP (some (hk_sb (G (32 + a * 4)) vc (G t), hk_un [] (vh_inst HA vc (G t)), T)))
    (k0 : ¬ ((vc / 65536 = 1 ∧ TY t = vc % 256) ∧ vc_inst (G (32 + a * 4)) (G t) HA vc) → yr_K post T nM nH y1 y2 y3 y4 y5 yc yd yM yL yY yP none) : wpY_ruleInst post (y1, y2, y3, y4, y5, nI T.1, nI nM, nI nH, yc, yd, yw, yl, nI 0, ye, yp, yq, yr, ys, yM, yL, yY, yA, yR, yP) (nI a) (nI v) (nI t) := by
  obtain ⟨sA, pA, cA⟩ := hk_R_hs R ha
  obtain ⟨lA, gA, gcA⟩ := hk_I_hs I ha
  have vI := hk_I_var I hv
  rw [← evc] at vI
  rw [← eA] at sA pA lA gA
  obtain ⟨i1, i2, i3, i4, i5, i6, i7⟩ := I
  obtain ⟨r1, r2, r3⟩ := R
  obtain ⟨tyv, gv, -⟩ := i6 v hv
  obtain ⟨eYv, ehv⟩ := r2 v hv
  obtain ⟨tyt, gt, -⟩ := i6 t ht
  obtain ⟨eYt, eht⟩ := r2 t ht
  have hn := i1.2.1
  have lv := gv.2.1
  generalize G (32 + a * 4) = la at *
  have hvc : vc < 524288 := by rw [evc]; exact (hk_gt_c gv (hk_gt_pos gv)).1
  have ref : ∀ (c : ¬ ((vc / 65536 = 1 ∧ TY t = vc % 256) ∧ vc_inst la (G t) HA vc)), post (-1) (y1, y2, y3, y4, y5, nI T.1, nI nM, nI nH, yc, yd, yw, yl, nI 0, ye, yp, yq, yr, ys, yM, yL, yY, yA, yR, yP) := fun c => k0 c yA yR yM yL yw yl _ ye yp yq yr ys r1 hk_fr_r
  refine hk_ok1 (by omega) ha (br_f (by decide) ?_)
  refine hk_ok1 (by omega) hv (br_f (by decide) ?_)
  refine hk_ok1 (by omega) ht (br_f (by decide) ?_)
  refine ya_nd (p := 0) ehv (by omega) (hk_gt_pos gv) (by omega) ⟨vp_in_nI (by omega) (by omega), ?_⟩
  try dsimp only
  rw [hk_szy ehv (by omega) lv, ← evc]
  refine pk_eq (G v).length 1 (fun el => ⟨by decide, ?_⟩) (fun el => ref (fun c => el ?_))
  rotate_left
  · have := (vI c.1.1).1
    rw [this]; rfl
  rw [hk_kd hvc]
  refine pk_eq (vc / 65536) 1 (fun ek => ⟨vp_in_nI (by omega) (by omega), by decide, ?_⟩) (fun ek => ref (fun c => ek c.1.1))
  have md : vc % 256 < 256 := Nat.mod_lt _ (by decide)
  rw [hk_tyn hvc, nI_clamp (n := t) (by omega), eYt]
  refine pk_eq (TY t) (vc % 256) (fun et => ?_) (fun et => ref (fun c => et c.1.2))
  refine ya_begin (o := 96) (by omega) (fun L1 q1 f1 => ?_)
  refine ya_slot a 0 ?_
  rw [Nat.add_zero]
  have big := hk_sb_len gcA.2.1 gt.2.1 (vc := vc)
  refine ya_sub (by omega) (by omega) (by omega) (by omega) (by omega) gcA gt hvc q1 (hk_fr_hy f1 (by omega) cA) (hk_fr_hy f1 (by omega) eht) (fun M2 L2 q2 f2 => ?_)
  have f12 := hk_fr_t f1 f2
  have F12 := hk_fr_w (V := fun s => 32 + nH * 4 ≤ s) f12 (fun s e => by have e : s = 96 := e; omega)
  refine pk_le (min (hk_sb la vc (G t)).length 33) 32 (fun z => ⟨HA.length + 1, ?_⟩) (fun z => k0 (fun c => by have := c.2.1; omega) yA yR M2 L2 _ _ _ _ _ _ _ _ r1 F12)
  have z3 : (hk_sb la vc (G t)).length ≤ 32 := by omega
  have W : ∀ s, 100 ≤ s ∧ s < 108 → 32 + nH * 4 ≤ s := fun s e => by omega
  refine yr_inst_l (n := T.1) (by omega) (by omega) hvc lA gA gt pA HA.length 0 M2 L2 _ _ [] (by omega) rfl (ya_hs_fr f12 sA (fun i hi e => by have e : 32 + a * 4 + 1 + i = 96 := e; omega)) (hk_fr_hy f12 (by omega) eht) (fun i hi => absurd hi (Nat.not_lt_zero i)) ?_ ?_
  · rw [List.drop_zero, List.nil_append]
    intro c M3 L3 w3 wl3 h3 f3
    have gI : ∀ y, y ∈ vh_inst HA vc (G t) → hk_gt T.1 y := by
      intro y hy
      obtain ⟨h, hh, rfl⟩ := List.mem_map.mp hy
      exact vg_inst ek (gA h hh) gt (c h hh)
    have lI : (vh_inst HA vc (G t)).length ≤ 6 := by unfold vh_inst; rw [List.length_map]; omega
    have F3 := hk_fr_t F12 (hk_fr_w f3 W)
    refine ya_merge lI gI h3 (fun hu M8 L8 w8 wl8 h8 f8 => br_t (nI_pos' (by omega)) ?_) (fun hu M8 L8 w8 wl8 f8 => br_f hk_m1_nge (k0 (fun q => by have := q.2.2.2; omega) yA yR M8 L8 w8 wl8 _ _ _ _ _ _ r1 (hk_fr_t F3 (hk_fr_w f8 (fun s e => by have e : 97 ≤ s ∧ s < 100 := e; omega)))))
    refine ya_commit (by omega) z3 hu (fun y hy => (hk_un_gt hk_nilm gI y hy).2.1) (hk_fr_hy f8 (by omega) (hk_fr_hy f3 (by omega) q2)) h8 rfl (fun M9 L9 w9 wl9 h9 h10 f9 => ?_)
    exact k1 ⟨⟨ek, et⟩, z3, c, hu⟩ yA yR M9 L9 w9 wl9 _ _ _ _ _ _ r1 h9 h10 (hk_fr_t (hk_fr_t F3 (hk_fr_w f8 (fun s e => by have e : 97 ≤ s ∧ s < 100 := e; omega))) (hk_fr_w f9 (fun s e => e.1)))
  · rw [List.drop_zero]
    intro c M3 L3 w3 wl3 x3 f3
    exact k0 (fun q => c q.2.2.1) yA yR M3 L3 w3 wl3 x3 _ _ _ _ _ r1 (hk_fr_t F12 (hk_fr_w f3 W))
end
end
section
/-! the relation, the constructors, the methods on types and terms -/
def hk_RX (T : hk_T) (nM : Nat) (TY : Nat → Nat) (nH : Nat) (HC : Nat → Nat) (G : Nat → List Nat) (cM cH : Nat) (u : SX) : Prop :=
  ∃ xA xR xK xS xY xP xE : Nat → Int32, u = (nI T.1, nI cM, nI nM, nI cH, nI nH, xA, xR, xK, xS, xY, xP, xE) ∧ hk_R T nM TY nH HC G xA xR xY xP (hk_h xK xS)
def hk_RY (T : hk_T) (nM : Nat) (TY : Nat → Nat) (nH : Nat) (HC : Nat → Nat) (G : Nat → List Nat) (cM cH : Nat) (v : SY) : Prop :=
  ∃ (y1 y2 y3 y4 y5 yw yl yk ye yp yq yr ys : Int32) (yM yL yY yA yR yP : Nat → Int32), v = (y1, y2, y3, y4, y5, nI T.1, nI nM, nI nH, nI cM, nI cH, yw, yl, yk, ye, yp, yq, yr, ys, yM, yL, yY, yA, yR, yP) ∧ hk_R T nM TY nH HC G yA yR yY yP (hk_hy yM yL)
def i_Rel (k : Nat) (u : SX) (v : SY) : Prop :=
  ∃ (T : hk_T) (nM : Nat) (TY : Nat → Nat) (nH : Nat) (HC : Nat → Nat) (G : Nat → List Nat) (cM cH : Nat), hk_I T nM TY nH HC G cM cH ∧ hk_RX T nM TY nH HC G cM cH u ∧ hk_RY T nM TY nH HC G cM cH v
theorem i_up {k : Nat} {u : SX} {v : SY} (h : i_Rel k u v) : i_Rel (k + 5) u v := h
theorem hk_clamp (x : Int32) (lo hi : Nat) (h : lo ≤ hi) (hh : hi < 2 ^ 31) : ∃ c, lo ≤ c ∧ c ≤ hi ∧ ∀ A : Int32 → Prop, A (nI c) → ((nI lo ≤ x → ((x ≤ nI hi → A x) ∧ (¬ x ≤ nI hi → A (nI hi)))) ∧ (¬ nI lo ≤ x → A (nI lo))) := by
  by_cases h1 : nI lo ≤ x
  · by_cases h2 : x ≤ nI hi
    · have h0 : ¬ x < 0 := Int32.not_lt.mpr (Int32.le_trans (nI_pos' (by omega)) h1)
      obtain ⟨j, hj, rfl⟩ := nI_of h0
      rw [nI_leI (by omega) hj] at h1
      have h2' := h2
      rw [nI_leI hj hh] at h2'
      exact ⟨j, h1, h2', fun A a => br_t (nI_le h1 hj) (br_t h2 a)⟩
    · exact ⟨hi, h, Nat.le_refl _, fun A a => br_t h1 (br_f h2 a)⟩
  · exact ⟨lo, Nat.le_refl _, h, fun A a => br_f h1 a⟩
theorem hk_cx {P : Int32 → Prop} {x : Int32} {a b c : Nat} (h : ∀ A : Int32 → Prop, A (nI c) → ((nI a ≤ x → ((x ≤ nI b → A x) ∧ (¬ x ≤ nI b → A (nI b)))) ∧ (¬ nI a ≤ x → A (nI a)))) (k : P (nI c)) : wpX_clamp P x (nI a) (nI b) := h P k
theorem hk_cy {post : SY → Prop} {k0 k1 : Int32} {cM cH : Nat} (hM : ∀ A : Int32 → Prop, A (nI cM) → ((nI 8 ≤ k0 → ((k0 ≤ nI 32 → A k0) ∧ (¬ k0 ≤ nI 32 → A (nI 32)))) ∧ (¬ nI 8 ≤ k0 → A (nI 8)))) (hT : ∀ A : Int32 → Prop, A (nI cH) → ((nI 4 ≤ k1 → ((k1 ≤ nI 16 → A k1) ∧ (¬ k1 ≤ nI 16 → A (nI 16)))) ∧ (¬ nI 4 ≤ k1 → A (nI 4))))
    (k : wY_init_132 post (nI cH) 96 97 100 108 109 0 0 0 (nI cM) 0 0 0 0 0 0 0 0 0 (fun _ => 0) (fun _ => 0) (fun _ => 0) (fun _ => 0) (fun _ => 0) (fun _ => 0)) : wpY_init post k0 k1 :=
  hM (fun z => wY_init_107 post k1 z 96 97 100 108 109 0 0 0 0 0 0 0 0 0 0 0 0 0 (fun _ => 0) (fun _ => 0) (fun _ => 0) (fun _ => 0) (fun _ => 0) (fun _ => 0)) (hT (fun z => wY_init_132 post z 96 97 100 108 109 0 0 0 (nI cM) 0 0 0 0 0 0 0 0 0 (fun _ => 0) (fun _ => 0) (fun _ => 0) (fun _ => 0) (fun _ => 0) (fun _ => 0)) k)
theorem i_vc0 (k0 : Int32) (k1 : Int32) : wpX_init (fun u => wpY_init (fun v => i_Rel 2 u v) k0 k1) k0 k1 := by
  obtain ⟨cM, c1, c2, hM⟩ := hk_clamp k0 8 32 (by omega) (by omega)
  obtain ⟨cH, d1, d2, hT⟩ := hk_clamp k1 4 16 (by omega) (by omega)
  unfold wpX_init
  refine hk_cx hM ?_
  refine hk_cx hT ?_
  refine nm_e (nm_e (nm_e (nm_e ?_)))
  refine hk_cy hM hT (nm_e (nm_e (nm_e (nm_e (nm_e (nm_e (nm_e (nm_e (nm_e (nm_e ?_))))))))))
  refine ⟨(5, fun _ => 0, fun i => if i = 4 then 3 else 0), 0, fun _ => 0, 0, fun _ => 0, fun _ => [], cM, cH, ?_, ?_, ?_⟩
  · refine ⟨⟨by decide, by decide, rfl, rfl, rfl, rfl, fun i h3 hi => ⟨by show 0 < 5; decide, ?_⟩⟩, by omega, by omega, by omega, by omega, fun t ht => absurd ht (Nat.not_lt_zero t), fun h hh => absurd hh (Nat.not_lt_zero h)⟩
    show (if i = 4 then 3 else 0) < 5
    split <;> decide
  · refine ⟨_, _, _, _, _, _, _, rfl, fun i h3 hi => ?_, fun t ht => absurd ht (Nat.not_lt_zero t), fun h hh => absurd hh (Nat.not_lt_zero h)⟩
    have hi : i < 5 := hi
    have : i = 3 ∨ i = 4 := by omega
    rcases this with rfl | rfl
    · exact ⟨rfl, rfl⟩
    · exact ⟨rfl, rfl⟩
  · refine ⟨_, _, _, _, _, _, _, _, _, _, _, _, _, _, _, _, _, _, _, rfl, fun i h3 hi => ?_, fun t ht => absurd ht (Nat.not_lt_zero t), fun h hh => absurd hh (Nat.not_lt_zero h)⟩
    have hi : i < 5 := hi
    have : i = 3 ∨ i = 4 := by omega
    rcases this with rfl | rfl
    · exact ⟨rfl, rfl⟩
    · exact ⟨rfl, rfl⟩
theorem hk_I_types {T T' : hk_T} {nM : Nat} {TY : Nat → Nat} {nH : Nat} {HC : Nat → Nat} {G : Nat → List Nat} {cM cH : Nat} (h : hk_I T nM TY nH HC G cM cH) (ht : hk_ti T') (hn : T.1 ≤ T'.1) : hk_I T' nM TY nH HC G cM cH := by
  obtain ⟨h1, h2, h3, h4, h5, h6, h7⟩ := h
  refine ⟨ht, h2, h3, h4, h5, fun t q => ?_, fun q hq => ⟨(h7 q hq).1, fun p hp => hk_gt_mono ((h7 q hq).2 p hp) hn⟩⟩
  obtain ⟨a, b, c⟩ := h6 t q
  exact ⟨by omega, hk_gt_mono b hn, c⟩
section
variable {xn xc xm xd xh : Int32} {xA xR xK xS xY xP xE : Nat → Int32} {y1 y2 y3 y4 y5 yn ym yh yc yd yw yl yk ye yp yq yr ys : Int32} {yM yL yY yA yR yP : Nat → Int32} {T T' : hk_T} {nM nH cM cH : Nat} {TY HC : Nat → Nat} {G : Nat → List Nat}
theorem hk_keep {k : Nat} (J : hk_I T nM TY nH HC G cM cH) (RX : hk_R T nM TY nH HC G xA xR xY xP (hk_h xK xS)) (RY : hk_R T nM TY nH HC G yA yR yY yP (hk_hy yM yL)) :
    i_Rel k (nI T.1, nI cM, nI nM, nI cH, nI nH, xA, xR, xK, xS, xY, xP, xE) (y1, y2, y3, y4, y5, nI T.1, nI nM, nI nH, nI cM, nI cH, yw, yl, yk, ye, yp, yq, yr, ys, yM, yL, yY, yA, yR, yP) :=
  ⟨T, nM, TY, nH, HC, G, cM, cH, J, ⟨xA, xR, xK, xS, xY, xP, xE, rfl, RX⟩, ⟨y1, y2, y3, y4, y5, yw, yl, yk, ye, yp, yq, yr, ys, yM, yL, yY, yA, yR, yP, rfl, RY⟩⟩
/-- a new term -/
theorem hk_new {k ty : Nat} {l : List Nat} {A R K S A2 R2 M L : Nat → Int32} (J : hk_I T nM TY nH HC G cM cH) (RX : hk_R T nM TY nH HC G xA xR xY xP (hk_h xK xS)) (RY : hk_R T nM TY nH HC G yA yR yY yP (hk_hy yM yL)) (hc : nM < cM) (ht : hk_ti T') (hn : T.1 ≤ T'.1)
    (bX : hk_tb T' A R) (bY : hk_tb T' A2 R2) (fX : hk_fr (fun s => s = nM) xK xS K S) (hX : hk_h K S nM l) (fY : hk_fr (fun s => s = nM) yM yL M L) (hY : hk_hy M L nM l) (hty : ty < T'.1) (g : hk_gt T'.1 l) (hv : hk_c l 0 / 65536 = 1 → ty = hk_c l 0 % 256) :
    i_Rel k (nI T'.1, nI cM, nI (nM + 1), nI cH, nI nH, A, R, K, S, upd xY nM (nI ty), xP, xE) (y1, y2, y3, y4, y5, nI T'.1, nI (nM + 1), nI nH, nI cM, nI cH, yw, yl, yk, ye, yp, yq, yr, ys, M, L, upd yY nM (nI ty), A2, R2, yP) := by
  have h32 : nM < 32 := by have := J.2.2.1; omega
  exact hk_keep (hk_I_term J ht hn hc hty g hv) (hk_R_term RX bX (fun s l' hs h => hk_fr_h fX hs h) hX pk_us (fun t hne => pk_un hne) h32) (hk_R_term RY bY (fun s l' hs h => hk_fr_hy fY hs h) hY pk_us (fun t hne => pk_un hne) h32)
theorem xa_keep {post : Int32 → SX → Prop} {ty : Nat} (h : nM < 32) (k : post (nI nM) (xn, xc, nI (nM + 1), xd, xh, xA, xR, xK, xS, upd xY nM (nI ty), xP, xE)) : wpX_keepTerm post (xn, xc, nI nM, xd, xh, xA, xR, xK, xS, xY, xP, xE) (nI ty) := by
  refine ⟨vp_in_nI h (by omega), nm_r (e' := upd xY nM (nI ty)) (by rw [nI_clamp (by omega)]) (nm_r (nI_1 _) ?_)⟩
  rw [nI_pred]; exact k
end
theorem hk_id0 {A B : Prop} {x : Int32} (h : ∀ j, j < 16 → x ≠ nI j) (a : A) : (x < 0 → A) ∧ (¬ x < 0 → ((15 < x → A) ∧ (¬ 15 < x → B))) := by
  refine br_c (fun _ => a) (fun z => ?_)
  obtain ⟨j, hj, rfl⟩ := nI_of z
  refine br_t (nI_lt (a := 15) ?_ hj) a
  rcases Nat.lt_or_ge 15 j with q | q
  · exact q
  · exact absurd rfl (h j (by omega))
theorem hk_id1 {A B : Prop} {j : Nat} (hj : j < 16) (b : B) : (nI j < 0 → A) ∧ (¬ nI j < 0 → ((15 < nI j → A) ∧ (¬ 15 < nI j → B))) :=
  br_f (nI_pos (by omega)) (br_f (nI_nlt (a := 15) (by omega) (by omega)) b)
theorem i_vc_mkFun {k : Nat} {u : SX} {v : SY} (I : i_Rel k u v) (hk : k + 5 ≤ 2562) (v1 : Int32) (v2 : Int32) : wpX_mkFun (fun r u' => wpY_mkFun (fun r' v' => r' = r ∧ i_Rel (k + 5) u' v') v v1 v2) u v1 v2 := by
  obtain ⟨T, nM, TY, nH, HC, G, cM, cH, J, ⟨xA, xR, xK, xS, xY, xP, xE, rfl, RX⟩, ⟨y1, y2, y3, y4, y5, yw, yl, yk, ye, yp, yq, yr, ys, yM, yL, yY, yA, yR, yP, rfl, RY⟩⟩ := I
  have hn := J.1.2.1
  rcases hk_val v1 T.1 with h1 | ⟨d, hd, rfl⟩
  · exact hk_ok0 h1 (br_t rfl (hk_ok0 h1 (br_t rfl ⟨rfl, hk_keep J RX RY⟩)))
  · rcases hk_val v2 T.1 with h2 | ⟨c, hc, rfl⟩
    · exact hk_ok1 (by omega) hd (br_f (by decide) (hk_ok0 h2 (br_t rfl (hk_ok1 (by omega) hd (br_f (by decide) (hk_ok0 h2 (br_t rfl ⟨rfl, hk_keep J RX RY⟩)))))))
    · obtain ⟨i1, i2, i3, i4⟩ := hk_it_ok J.1 hd hc
      refine hk_ok1 (by omega) hd (br_f (by decide) (hk_ok1 (by omega) hc (br_f (by decide) (xa_intern RX.1 J.1 hd hc (fun A R hb => ?_)))))
      refine hk_ok1 (by omega) hd (br_f (by decide) (hk_ok1 (by omega) hc (br_f (by decide) (ya_intern RY.1 J.1 hd hc (fun A2 R2 hb2 => ⟨rfl, ?_⟩)))))
      exact hk_keep (hk_I_types J i1 i2) ⟨hb, RX.2⟩ ⟨hb2, RY.2⟩
theorem i_vc_typeArg {k : Nat} {u : SX} {v : SY} (I : i_Rel k u v) (hk : k + 5 ≤ 2562) (v1 : Int32) (v2 : Int32) : wpX_typeArg (fun r => wpY_typeArg (fun r' => r' = r ∧ i_Rel (k + 5) u v) v v1 v2) u v1 v2 := by
  have K := i_up I
  obtain ⟨T, nM, TY, nH, HC, G, cM, cH, J, ⟨xA, xR, xK, xS, xY, xP, xE, rfl, RX⟩, ⟨y1, y2, y3, y4, y5, yw, yl, yk, ye, yp, yq, yr, ys, yM, yL, yY, yA, yR, yP, rfl, RY⟩⟩ := I
  have hn := J.1.2.1
  have h5 := J.1.1
  rcases hk_val v1 T.1 with h1 | ⟨t, ht, rfl⟩
  · refine hk_ok0 h1 (br_t rfl (br_c (fun _ => ⟨rfl, K⟩) (fun z => br_t ?_ ⟨rfl, K⟩)))
    have h0 : ¬ v1 < 0 := fun y => z (Int32.lt_trans y (by decide))
    obtain ⟨j, hj, rfl⟩ := nI_of h0
    refine nI_le ?_ hj
    rcases Nat.lt_or_ge j T.1 with q | q
    · exact absurd rfl (h1 j q)
    · exact q
  · refine hk_ok1 (by omega) ht (br_f (by decide) ?_)
    have V : vp_in (nI t) 48 := vp_in_nI (by omega) (by omega)
    refine pk_le 3 t (fun z => ?_) (fun z => br_t (nI_lt (b := 3) z (by omega)) ⟨rfl, K⟩)
    have n3 : ¬ nI t < 3 := nI_nlt (b := 3) z (by omega)
    have nT : ¬ nI T.1 ≤ nI t := nI_ge ht (by omega)
    have ec : (nI t).toNatClampNeg = t := nI_clamp (by omega)
    by_cases e0 : v2 = 0
    · refine br_t e0 ⟨V, br_f n3 (br_f nT (br_t e0 (br_t e0 ⟨V, ?_, K⟩)))⟩
      rw [ec, (RX.1 t z ht).1, (RY.1 t z ht).1]
    · by_cases e1 : v2 = 1
      · refine br_f e0 (br_t e1 ⟨V, br_f n3 (br_f nT (br_f e0 (br_t e1 (br_f e0 ⟨V, ?_, K⟩))))⟩)
        rw [ec, (RX.1 t z ht).2, (RY.1 t z ht).2]
      · exact br_f e0 (br_f e1 (br_f n3 (br_f nT (br_f e0 (br_f e1 ⟨rfl, K⟩)))))
theorem i_vc_typeCount {k : Nat} {u : SX} {v : SY} (I : i_Rel k u v) (hk : k + 5 ≤ 2562) : wpX_typeCount (fun r => wpY_typeCount (fun r' => r' = r ∧ i_Rel (k + 5) u v) v) u := by
  have K := i_up I
  obtain ⟨T, nM, TY, nH, HC, G, cM, cH, J, ⟨xA, xR, xK, xS, xY, xP, xE, rfl, RX⟩, ⟨y1, y2, y3, y4, y5, yw, yl, yk, ye, yp, yq, yr, ys, yM, yL, yY, yA, yR, yP, rfl, RY⟩⟩ := I
  exact ⟨rfl, K⟩
theorem hk_gt_1 {n c : Nat} (h : hk_ar c = 0) (hc : hk_gc n c) : hk_gt n [c] :=
  ⟨by rw [hk_run_s, h]; rfl, by show 1 ≤ 32; decide, fun x hx => by rw [List.mem_singleton.mp hx]; exact hc⟩
theorem i_vc_mkVar {k : Nat} {u : SX} {v : SY} (I : i_Rel k u v) (hk : k + 5 ≤ 2562) (v1 : Int32) (v2 : Int32) : wpX_mkVar (fun r u' => wpY_mkVar (fun r' v' => r' = r ∧ i_Rel (k + 5) u' v') v v1 v2) u v1 v2 := by
  obtain ⟨T, nM, TY, nH, HC, G, cM, cH, J, ⟨xA, xR, xK, xS, xY, xP, xE, rfl, RX⟩, ⟨y1, y2, y3, y4, y5, yw, yl, yk, ye, yp, yq, yr, ys, yM, yL, yY, yA, yR, yP, rfl, RY⟩⟩ := I
  have hn := J.1.2.1
  have h32 := J.2.2.1
  rcases hk_val v1 16 with h1 | ⟨i, hi, rfl⟩
  · exact hk_id0 h1 (hk_id0 h1 ⟨rfl, hk_keep J RX RY⟩)
  · rcases hk_val v2 T.1 with h2 | ⟨t, ht, rfl⟩
    · exact hk_id1 hi (hk_ok0 h2 (br_t rfl (hk_id1 hi (hk_ok0 h2 (br_t rfl ⟨rfl, hk_keep J RX RY⟩)))))
    · have ec : (65536 : Int32) + nI i * 256 + nI t = nI (65536 + i * 256 + t) := by
        rw [show (256 : Int32) = nI 256 from rfl, show (65536 : Int32) = nI 65536 from rfl, pk_mul, nI_add, nI_add]
      refine hk_id1 hi (hk_ok1 (by omega) ht (br_f (by decide) ?_))
      have h2 := J.2.1
      refine pk_lt nM cM (fun z => ?_) (fun z => hk_id1 hi (hk_ok1 (by omega) ht (br_f (by decide) (br_f (nI_nlt z (by omega)) ⟨rfl, hk_keep J RX RY⟩))))
      refine ⟨vp_in_nI (by omega) (by omega), nm_r (e' := upd xS nM 0) (by rw [nI_clamp (by omega)]) ?_⟩
      have f0 : hk_fr (fun s => s = nM) xK xS xK (upd xS nM 0) := hk_fr_s
      refine xa_append (l := []) (c := 65536 + i * 256 + t) (by omega) hk_h0 (by decide) ec (fun K1 S1 q1 f1 => ?_)
      refine xa_keep (by omega) ?_
      refine hk_id1 hi (hk_ok1 (by omega) ht (br_f (by decide) (br_t (nI_lt z (by omega)) ?_)))
      refine ya_begin (by omega) (fun L1 p1 g1 => ?_)
      refine ya_emit (l := []) (c := 65536 + i * 256 + t) (by omega) p1 (by decide) ec (fun M2 L2 p2 g2 => ?_)
      refine ⟨vp_in_nI (by omega) (by omega), nm_r (e' := upd yY nM (nI t)) (by rw [nI_clamp (by omega)]) (nm_r (nI_1 _) ⟨by rw [nI_pred], ?_⟩)⟩
      have kc : (65536 + i * 256 + t) / 65536 = 1 := by omega
      exact hk_new J RX RY z J.1 (Nat.le_refl _) RX.1 RY.1 (hk_fr_t f0 f1) q1 (hk_fr_t g1 g2) p2 ht (hk_gt_1 (hk_ar_k kc (by decide) (by decide)) ⟨by omega, fun y => by omega⟩) (fun _ => by show t = (65536 + i * 256 + t) % 256; omega)
theorem i_vc_mkEq {k : Nat} {u : SX} {v : SY} (I : i_Rel k u v) (hk : k + 5 ≤ 2562) (v1 : Int32) : wpX_mkEq (fun r u' => wpY_mkEq (fun r' v' => r' = r ∧ i_Rel (k + 5) u' v') v v1) u v1 := by
  obtain ⟨T, nM, TY, nH, HC, G, cM, cH, J, ⟨xA, xR, xK, xS, xY, xP, xE, rfl, RX⟩, ⟨y1, y2, y3, y4, y5, yw, yl, yk, ye, yp, yq, yr, ys, yM, yL, yY, yA, yR, yP, rfl, RY⟩⟩ := I
  have hn := J.1.2.1
  have h32 := J.2.2.1
  have h2 := J.2.1
  rcases hk_val v1 T.1 with h1 | ⟨a, ha, rfl⟩
  · exact hk_ok0 h1 (br_t rfl (hk_ok0 h1 (br_t rfl ⟨rfl, hk_keep J RX RY⟩)))
  · have nd2 := hk_nd_le T a
    refine hk_ok1 (by omega) ha (br_f (by decide) ?_)
    refine pk_lt nM cM (fun z => ?_) (fun z => hk_ok1 (by omega) ha (br_f (by decide) (br_t (nI_le z (by omega)) ⟨rfl, hk_keep J RX RY⟩)))
    refine xa_internEq RX.1 J.1 ha (fun A R hb => ?_)
    rcases Nat.lt_or_ge 48 (T.1 + hk_nd T a) with w | w
    · rw [hk_xe_nofit J.1 (by omega)] at hb ⊢
      refine br_t rfl (hk_ok1 (by omega) ha (br_f (by decide) (br_f (nI_ge z (by omega)) ?_)))
      refine ya_need RY.1 J.1 ha ?_
      rw [nI_add]
      exact br_f (nI_ge (a := 48) w (by omega)) ⟨rfl, hk_keep J ⟨hb, RX.2⟩ RY⟩
    · obtain ⟨e, j, hj⟩ := hk_xe_fit J.1 ha w
      obtain ⟨i1, i2, i3⟩ := hk_ie_ok J.1 ha
      have hj2 := i3 j hj
      have hj3 := i1.2.1
      rw [e] at hb ⊢
      rw [hj]
      refine br_f (hk_o_ne (by omega)) ⟨vp_in_nI (by omega) (by omega), nm_r (e' := upd xS nM 0) (by rw [nI_clamp (by omega)]) ?_⟩
      have f0 : hk_fr (fun s => s = nM) xK xS xK (upd xS nM 0) := hk_fr_s
      have ec : (131072 : Int32) + nI a = nI (131072 + a) := nI_add 131072 a
      refine xa_append (l := []) (c := 131072 + a) (by omega) hk_h0 (by decide) ec (fun K1 S1 q1 f1 => ?_)
      refine xa_keep (ty := j) (by omega) ?_
      refine hk_ok1 (by omega) ha (br_f (by decide) (br_f (nI_ge z (by omega)) ?_))
      refine ya_need RY.1 J.1 ha ?_
      rw [nI_add]
      refine br_t (nI_le (b := 48) w (by omega)) ?_
      refine ya_internEq RY.1 J.1 ha (hk_fit1 w) (fun A2 R2 hb2 => ?_)
      rw [hj]
      refine ya_begin (by omega) (fun L1 p1 g1 => ?_)
      refine ya_emit (l := []) (c := 131072 + a) (by omega) p1 (by decide) ec (fun M2 L2 p2 g2 => ?_)
      refine ⟨vp_in_nI (by omega) (by omega), nm_r (e' := upd yY nM (nI j)) (by rw [nI_clamp (by omega)]; rfl) (nm_r (nI_1 _) ⟨by rw [nI_pred], ?_⟩)⟩
      have kc : (131072 + a) / 65536 = 2 := by omega
      exact hk_new J RX RY z i1 i2 hb hb2 (hk_fr_t f0 f1) q1 (hk_fr_t g1 g2) p2 hj2.2 (hk_gt_1 (hk_ar_k kc (by decide) (by decide)) ⟨by omega, fun y => by omega⟩) (fun y => by have y : (131072 + a) / 65536 = 1 := y; omega)
end
section
/-! mkComb, mkAbs, reading -/
theorem hk_comb_gt {n : Nat} {a b : List Nat} (ga : hk_gt n a) (gb : hk_gt n b) (hl : 1 + a.length + b.length ≤ 32) : hk_gt n ([196608] ++ a ++ b) := by
  refine ⟨?_, by rw [List.length_append, List.length_append]; exact hl, fun c hc => ?_⟩
  · show hk_run 1 (196608 :: (a ++ b)) = some 0
    rw [hk_run_s, hk_ar_3 (by decide)]
    show hk_run 2 (a ++ b) = _
    rw [hk_run_app _ _ _ _ (hk_run1 ga.1 1)]; exact gb.1
  · rcases List.mem_append.mp hc with z | z
    · rcases List.mem_append.mp z with z | z
      · rw [List.mem_singleton.mp z]; exact ⟨by omega, fun y => by omega⟩
      · exact ga.2.2 c z
    · exact gb.2.2 c z
theorem i_vc_mkComb {k : Nat} {u : SX} {v : SY} (I : i_Rel k u v) (hk : k + 5 ≤ 2562) (v1 : Int32) (v2 : Int32) : wpX_mkComb (fun r u' => wpY_mkComb (fun r' v' => r' = r ∧ i_Rel (k + 5) u' v') v v1 v2) u v1 v2 := by
  obtain ⟨T, nM, TY, nH, HC, G, cM, cH, J, ⟨xA, xR, xK, xS, xY, xP, xE, rfl, RX⟩, ⟨y1, y2, y3, y4, y5, yw, yl, yk, ye, yp, yq, yr, ys, yM, yL, yY, yA, yR, yP, rfl, RY⟩⟩ := I
  have hn := J.1.2.1
  have h32 := J.2.2.1
  have h2 := J.2.1
  rcases hk_val v1 nM with h1 | ⟨f, hf, rfl⟩
  · exact hk_ok0 h1 (br_t rfl (hk_ok0 h1 (br_t rfl ⟨rfl, hk_keep J RX RY⟩)))
  rcases hk_val v2 nM with h1 | ⟨x, hx, rfl⟩
  · exact hk_ok1 (by omega) hf (br_f (by decide) (hk_ok0 h1 (br_t rfl (hk_ok1 (by omega) hf (br_f (by decide) (hk_ok0 h1 (br_t rfl ⟨rfl, hk_keep J RX RY⟩)))))))
  obtain ⟨tf, gf, -⟩ := J.2.2.2.2.2.1 f hf
  obtain ⟨tx, gx, -⟩ := J.2.2.2.2.2.1 x hx
  obtain ⟨xYf, xhf⟩ := RX.2.1 f hf
  obtain ⟨xYx, xhx⟩ := RX.2.1 x hx
  obtain ⟨yYf, yhf⟩ := RY.2.1 f hf
  obtain ⟨yYx, yhx⟩ := RY.2.1 x hx
  have lf := gf.2.1
  have lx := gx.2.1
  have cf : (nI f).toNatClampNeg = f := nI_clamp (by omega)
  have cx : (nI x).toNatClampNeg = x := nI_clamp (by omega)
  have ct : (nI (TY f)).toNatClampNeg = TY f := nI_clamp (by omega)
  have V32f : vp_in (nI f) 32 := vp_in_nI (by omega) (by omega)
  have V32x : vp_in (nI x) 32 := vp_in_nI (by omega) (by omega)
  have V98f : vp_in (nI f) 98 := vp_in_nI (by omega) (by omega)
  have V98x : vp_in (nI x) 98 := vp_in_nI (by omega) (by omega)
  have V110f : vp_in (nI f) 110 := vp_in_nI (by omega) (by omega)
  have V110x : vp_in (nI x) 110 := vp_in_nI (by omega) (by omega)
  have V48 : vp_in (nI (TY f)) 48 := vp_in_nI (by omega) (by omega)
  refine hk_ok1 (by omega) hf (br_f (by decide) (hk_ok1 (by omega) hx (br_f (by decide) ?_)))
  refine pk_lt nM cM (fun z => ?_) (fun z => hk_ok1 (by omega) hf (br_f (by decide) (hk_ok1 (by omega) hx (br_f (by decide) (br_f (nI_nlt z (by omega)) ⟨rfl, hk_keep J RX RY⟩)))))
  have zz : nI nM < nI cM := nI_lt z (by omega)
  refine ⟨V32f, nm_r (e' := nI (TY f)) (by rw [cf]; exact xYf) ⟨V32x, ?_⟩⟩
  have ex : xY (nI x).toNatClampNeg = nI (TY x) := by rw [cx]; exact xYx
  rw [ex]
  refine xa_takes RX.1 J.1 tf (by omega) (fun g3 gD => br_f (by decide) ⟨V98f, V98x, ?_⟩) (fun g3 => br_t rfl ?_)
  · have cT := (J.1.2.2.2.2.2.2 _ g3 tf).2
    try dsimp only
    rw [hk_sz xhf (by omega), hk_sz xhx (by omega), show (1 : Int32) = nI 1 from rfl, nI_add, nI_add]
    have n3 : ¬ nI (TY f) < 3 := nI_nlt (b := 3) g3 (by omega)
    have eD : yA (nI (TY f)).toNatClampNeg = yY (nI x).toNatClampNeg := by rw [ct, cx, (RY.1 _ g3 tf).1, yYx, gD]
    have eL : (1 : Int32) + yL (nI f).toNatClampNeg + yL (nI x).toNatClampNeg = nI (1 + (G f).length + (G x).length) := by
      try dsimp only
      rw [hk_szy yhf (by omega) lf, hk_szy yhx (by omega) lx, show (1 : Int32) = nI 1 from rfl, nI_add, nI_add]
    refine pk_le (1 + (G f).length + (G x).length) 32 (fun w => ?_) (fun w => ?_)
    · refine ⟨vp_in_nI (by omega) (by omega), nm_r (e' := upd xS nM 0) (by rw [nI_clamp (by omega)]) ?_⟩
      have f0 : hk_fr (fun s => s = nM) xK xS xK (upd xS nM 0) := hk_fr_s
      refine xa_append (l := []) (c := 196608) (by omega) hk_h0 (by decide) rfl (fun K1 S1 q1 f1 => ⟨V98f, ?_⟩)
      have f01 := hk_fr_t f0 f1
      have xf1 := hk_fr_h f01 (s := f) (by omega) xhf
      refine xa_all (by omega) (by omega) (by omega) lf q1 xf1 (by decide) (hk_sz xf1 (by omega)) (fun K2 S2 q2 f2 => ⟨V98x, ?_⟩)
      have f02 := hk_fr_t f01 f2
      have xx2 := hk_fr_h f02 (s := x) (by omega) xhx
      refine xa_all (by omega) (by omega) (by omega) lx q2 xx2 (by rw [List.length_append]; show 1 + (G f).length < 90000; omega) (hk_sz xx2 (by omega)) (fun K3 S3 q3 f3 => ⟨V48, ?_⟩)
      have f03 := hk_fr_t f02 f3
      dsimp only
      rw [ct, (RX.1 _ g3 tf).2]
      refine xa_keep (by omega) ?_
      refine hk_ok1 (by omega) hf (br_f (by decide) (hk_ok1 (by omega) hx (br_f (by decide) (br_t zz ⟨V32f, nm_r (e' := nI (TY f)) (by rw [cf]; exact yYf) (br_f n3 ⟨V48, V32x, br_t eD ⟨V110f, V110x, br_t (by rw [eL]; exact nI_le (b := 32) w (by omega)) ?_⟩⟩)⟩))))
      refine ya_begin (by omega) (fun L1 p1 g1 => ?_)
      refine ya_emit (l := []) (c := 196608) (by omega) p1 (by decide) rfl (fun M2 L2 p2 g2 => ⟨V110f, ?_⟩)
      have g12 := hk_fr_t g1 g2
      have yf2 := hk_fr_hy g12 (s := f) (by omega) yhf
      refine ya_all (by omega) (by omega) (by omega) lf p2 yf2 (by decide) (hk_szy yf2 (by omega) lf) (fun M3 L3 p3 g3' => ⟨V110x, ?_⟩)
      have g13 := hk_fr_t g12 g3'
      have yx3 := hk_fr_hy g13 (s := x) (by omega) yhx
      refine ya_all (by omega) (by omega) (by omega) lx p3 yx3 (by rw [List.length_append]; show 1 + (G f).length < 90000; omega) (hk_szy yx3 (by omega) lx) (fun M4 L4 p4 g4 => ⟨V48, vp_in_nI (by omega) (by omega), ?_⟩)
      have g14 := hk_fr_t g13 g4
      refine nm_r (e' := upd yY nM (nI (T.2.2 (TY f)))) (by rw [ct, (RY.1 _ g3 tf).2, nI_clamp (by omega)]) (nm_r (nI_1 _) ⟨by rw [nI_pred], ?_⟩)
      exact hk_new J RX RY z J.1 (Nat.le_refl _) RX.1 RY.1 f03 q3 g14 p4 cT (hk_comb_gt gf gx w) (fun y => by have y : (196608 : Nat) / 65536 = 1 := y; omega)
    · refine hk_ok1 (by omega) hf (br_f (by decide) (hk_ok1 (by omega) hx (br_f (by decide) (br_t zz ⟨V32f, nm_r (e' := nI (TY f)) (by rw [cf]; exact yYf) (br_f n3 ⟨V48, V32x, br_t eD ⟨V110f, V110x, br_f (by rw [eL]; exact nI_ge (a := 32) w (by omega)) ⟨rfl, hk_keep J RX RY⟩⟩⟩)⟩))))
  · refine hk_ok1 (by omega) hf (br_f (by decide) (hk_ok1 (by omega) hx (br_f (by decide) (br_t zz ⟨V32f, nm_r (e' := nI (TY f)) (by rw [cf]; exact yYf) ?_⟩))))
    refine pk_lt (TY f) 3 (fun w => ⟨rfl, hk_keep J RX RY⟩) (fun w => ⟨V48, V32x, ?_⟩)
    have w1 := (J.1.2.2.2.2.2.2 _ w tf).1
    rw [ct, cx, (RY.1 _ w tf).1, yYx]
    exact br_f (fun y => g3 ⟨w, (nI_eq (by omega) (by omega)).mp y⟩) ⟨rfl, hk_keep J RX RY⟩
theorem hk_abl_gt {n vc : Nat} {l : List Nat} (hv : vc / 65536 = 1) (g : hk_gt n l) (hl : 1 + l.length ≤ 32) : hk_gt n (hk_abl l 0 l.length vc) :=
  ⟨hk_abl_run (by have := g.2.1; omega) hv (by rw [hk_fm_all]; exact g.1), by rw [hk_abl_len]; omega, hk_abl_gc (by omega) g.2.1 g.2.2⟩
section
variable {xn xc xm xd xh : Int32} {xA xR xK xS xY xP xE : Nat → Int32} {y1 y2 y3 y4 y5 yn ym yh yc yd yw yl yk ye yp yq yr ys : Int32} {yM yL yY yA yR yP : Nat → Int32} {T : hk_T} {nM nH cM cH : Nat} {TY HC : Nat → Nat} {G : Nat → List Nat}
def vc_mka (T : hk_T) (nM cM vc tx : Nat) (l : List Nat) : Prop := nM < cM ∧ vc / 65536 = 1 ∧ 1 + l.length ≤ 32 ∧ ∃ j, (hk_it T (vc % 256) tx).1 = some j
theorem xm_abs {post : Int32 → SX → Prop} {f x vc : Nat} (J : hk_I T nM TY nH HC G cM cH) (RX : hk_R T nM TY nH HC G xA xR xY xP (hk_h xK xS)) (hf : f < nM) (hx : x < nM) (evc : vc = hk_c (G f) 0)
    (k1 : vc_mka T nM cM vc (TY x) (G x) → ∀ (j : Nat) (A R K S E : Nat → Int32), (hk_it T (vc % 256) (TY x)).1 = some j → hk_tb (hk_it T (vc % 256) (TY x)).2 A R → hk_h K S nM (hk_abl (G x) 0 (G x).length vc) → hk_fr (fun s => s = nM) xK xS K S → post (nI nM) (nI (hk_it T (vc % 256) (TY x)).2.1, nI cM, nI (nM + 1), xd, xh, A, R, K, S, upd xY nM (nI j), xP, E))
    (k0 : ¬ vc_mka T nM cM vc (TY x) (G x) → ∀ A R : Nat → Int32, hk_tb T A R → post (-1) (nI T.1, nI cM, nI nM, xd, xh, A, R, xK, xS, xY, xP, xE)) : wpX_mkAbs post (nI T.1, nI cM, nI nM, xd, xh, xA, xR, xK, xS, xY, xP, xE) (nI f) (nI x) := by
  have vI := hk_I_var J hf
  rw [← evc] at vI
  obtain ⟨i1, i2, i3, i4, i5, i6, i7⟩ := J
  obtain ⟨r1, r2, r3⟩ := RX
  obtain ⟨tf, gf, -⟩ := i6 f hf
  obtain ⟨tx, gx, -⟩ := i6 x hx
  obtain ⟨Yf, hf1⟩ := r2 f hf
  obtain ⟨Yx, hx1⟩ := r2 x hx
  have hn := i1.2.1
  have lx := gx.2.1
  have ref : ∀ (c : ¬ vc_mka T nM cM vc (TY x) (G x)), post (-1) (nI T.1, nI cM, nI nM, xd, xh, xA, xR, xK, xS, xY, xP, xE) := fun c => k0 c xA xR r1
  unfold wpX_mkAbs
  dsimp only
  refine xa_var hf (by omega) hf1 gf (fun ek => br_f (by decide) ?_) (fun ek => br_t rfl (ref (fun c => ek (by rw [← evc]; exact c.2.1))))
  rw [← evc] at ek
  obtain ⟨v1, v2, v3⟩ := vI ek
  rw [v1] at hf1
  refine hk_ok1 (by omega) hx (br_f (by decide) ?_)
  refine pk_le cM nM (fun z => ref (fun c => by have := c.1; omega)) (fun z => ⟨vp_in_nI (by omega) (by omega), ?_⟩)
  try dsimp only
  rw [hk_sz hx1 (by omega), show (1 : Int32) = nI 1 from rfl, nI_add]
  refine pk_le (1 + (G x).length) 32 (fun w => ⟨vp_in_nI (by omega) (by omega), vp_in_nI (by omega) (by omega), ?_⟩) (fun w => ref (fun c => by have := c.2.2.1; omega))
  rw [nI_clamp (n := f) (by omega), nI_clamp (n := x) (by omega), Yf, Yx, v2]
  have dT : vc % 256 < T.1 := by rw [← v2]; exact tf
  obtain ⟨j1, j2, j3, j4⟩ := hk_it_ok (d := vc % 256) (c := TY x) i1 dT tx
  refine xa_intern r1 i1 dT tx (fun A R hb => ?_)
  cases hj : (hk_it T (vc % 256) (TY x)).1 with
  | none =>
    have e : (hk_it T (vc % 256) (TY x)).2 = T := hk_it_none hj
    rw [e] at hb ⊢
    refine br_t rfl (k0 (fun c => ?_) A R hb)
    obtain ⟨j, h⟩ := c.2.2.2
    rw [hj] at h; cases h
  | some j =>
    have w1 := j4 j hj
    have w2 := j1.2.1
    refine br_f (hk_o_ne (by omega)) ⟨vp_in_nI (by omega) (by omega), nm_r (e' := upd xS nM 0) (by rw [nI_clamp (by omega)]) ?_⟩
    have f0 : hk_fr (fun s => s = nM) xK xS xK (upd xS nM 0) := hk_fr_s
    have hx2 := hk_fr_h f0 (s := x) (by omega) hx1
    refine xa_mark hx2 (by omega) gx (fun E hE => ⟨vp_in_nI (by omega) (by omega), ?_⟩)
    try dsimp only
    rw [show upd xS nM 0 x = nI (G x).length from hx2.1]
    refine xa_abs (f := 0) (l0 := []) (by omega) (by omega) (by omega) (by omega) (by omega) gx (Nat.zero_le _) (Nat.le_refl _) v3 (Yf.trans (congrArg nI v2)) (fun q h1 h2 => hE q h2) hk_h0 hx2 (hk_fr_h f0 (by omega) hf1) (by decide) (fun K1 S1 q1 f1 => ?_)
    refine xa_keep (by omega) ?_
    exact k1 ⟨by omega, ek, w, j, hj⟩ j A R K1 S1 E hj hb q1 (hk_fr_t f0 f1)
theorem ym_abs {post : Int32 → SY → Prop} {f x vc : Nat} (J : hk_I T nM TY nH HC G cM cH) (RY : hk_R T nM TY nH HC G yA yR yY yP (hk_hy yM yL)) (hf : f < nM) (hx : x < nM) (evc : vc = hk_c (G f) 0)
    (k1 : vc_mka T nM cM vc (TY x) (G x) → ∀ (j : Nat) (A R M L : Nat → Int32) (w wl : Int32), (hk_it T (vc % 256) (TY x)).1 = some j → hk_tb (hk_it T (vc % 256) (TY x)).2 A R → hk_hy M L nM (hk_abl (G x) 0 (G x).length vc) → hk_fr (fun s => s = nM) yM yL M L → post (nI nM) (y1, y2, y3, y4, y5, nI (hk_it T (vc % 256) (TY x)).2.1, nI (nM + 1), yh, nI cM, yd, w, wl, yk, ye, yp, yq, yr, ys, M, L, upd yY nM (nI j), A, R, yP))
    (k0 : ¬ vc_mka T nM cM vc (TY x) (G x) → post (-1) (y1, y2, y3, y4, y5, nI T.1, nI nM, yh, nI cM, yd, yw, yl, yk, ye, yp, yq, yr, ys, yM, yL, yY, yA, yR, yP)) : wpY_mkAbs post (y1, y2, y3, y4, y5, nI T.1, nI nM, yh, nI cM, yd, yw, yl, yk, ye, yp, yq, yr, ys, yM, yL, yY, yA, yR, yP) (nI f) (nI x) := by
  have vI := hk_I_var J hf
  rw [← evc] at vI
  obtain ⟨i1, i2, i3, i4, i5, i6, i7⟩ := J
  obtain ⟨r1, r2, r3⟩ := RY
  obtain ⟨tf, gf, -⟩ := i6 f hf
  obtain ⟨tx, gx, -⟩ := i6 x hx
  obtain ⟨Yf, hf1⟩ := r2 f hf
  obtain ⟨Yx, hx1⟩ := r2 x hx
  have hn := i1.2.1
  have lx := gx.2.1
  have lf := gf.2.1
  have hvc : vc < 524288 := by rw [evc]; exact (hk_gt_c gf (hk_gt_pos gf)).1
  refine hk_ok1 (by omega) hf (br_f (by decide) (hk_ok1 (by omega) hx (br_f (by decide) ?_)))
  refine pk_lt nM cM (fun z => ?_) (fun z => k0 (fun c => by have := c.1; omega))
  refine ya_nd (p := 0) hf1 (by omega) (hk_gt_pos gf) (by omega) ⟨vp_in_nI (by omega) (by omega), ?_⟩
  try dsimp only
  rw [hk_szy hf1 (by omega) lf, ← evc]
  refine pk_eq (G f).length 1 (fun el => ⟨by decide, ?_⟩) (fun el => k0 (fun c => el (by rw [(vI c.2.1).1]; rfl)))
  rw [hk_kd hvc]
  refine pk_eq (vc / 65536) 1 (fun ek => ⟨vp_in_nI (by omega) (by omega), ?_⟩) (fun ek => k0 (fun c => ek c.2.1))
  obtain ⟨v1, v2, v3⟩ := vI ek
  try dsimp only
  rw [hk_szy hx1 (by omega) lx, nI_1]
  refine pk_le ((G x).length + 1) 32 (fun w => ⟨by decide, nm_r (hk_tyn hvc) ⟨vp_in_nI (by omega) (by omega), ?_⟩⟩) (fun w => k0 (fun c => by have := c.2.2.1; omega))
  have dT : vc % 256 < T.1 := by rw [← v2]; exact tf
  obtain ⟨j1, j2, j3, j4⟩ := hk_it_ok (d := vc % 256) (c := TY x) i1 dT tx
  have ex : yY (nI x).toNatClampNeg = nI (TY x) := by rw [nI_clamp (by omega)]; exact Yx
  rw [ex]
  have go : ∀ j, (hk_it T (vc % 256) (TY x)).1 = some j → wY_mkAbs_102 post (nI x) (nI vc) (nI (vc % 256)) y1 y2 y3 y4 y5 (nI T.1) (nI nM) yh (nI cM) yd yw yl yk ye yp yq yr ys yM yL yY yA yR yP := by
    intro j hj
    have w1 := j4 j hj
    have w2 := j1.2.1
    refine ⟨vp_in_nI (by omega) (by omega), ?_⟩
    rw [ex]
    refine ya_intern r1 i1 dT tx (fun A R hb => ?_)
    rw [hj]
    refine ya_begin (by omega) (fun L1 q1 f1 => ?_)
    refine ya_emit (l := []) (c := 262144 + vc % 256) (by omega) q1 (by decide) (nI_add 262144 _) (fun M2 L2 q2 f2 => ⟨vp_in_nI (by omega) (by omega), ?_⟩)
    have f12 := hk_fr_t f1 f2
    have hx2 := hk_fr_hy f12 (s := x) (by omega) hx1
    refine ya_abs (st := 0) (n := (G x).length) (by omega) (by omega) (by omega) gx (by omega) hvc q2 hx2 (by simp) (hk_szy hx2 (by omega) lx) (fun M3 L3 q3 f3 => ⟨vp_in_nI (by omega) (by omega), ?_⟩)
    refine nm_r (e' := upd yY nM (nI j)) (by rw [nI_clamp (by omega)]; rfl) (nm_r (nI_1 _) ?_)
    rw [nI_pred]
    exact k1 ⟨z, ek, by omega, j, hj⟩ j A R M3 L3 _ _ hj hb q3 (hk_fr_t f12 f3)
  refine ya_find r1 i1 (by omega) (by omega) ?_
  cases hfd : hk_find T (vc % 256) (TY x) with
  | some j => exact br_t (hk_o_ge (by have := hk_find_in hfd (by have := i1.1; omega); omega)) (go j (by rw [hk_it_f hfd]))
  | none =>
    refine br_f hk_m1_nge (pk_lt T.1 48 (fun w2 => go T.1 (by rw [hk_it_a hfd (by omega)])) (fun w2 => k0 (fun c => ?_)))
    obtain ⟨j, h⟩ := c.2.2.2
    rw [hk_it_z hfd w2] at h; cases h
end
theorem i_vc_mkAbs {k : Nat} {u : SX} {v : SY} (I : i_Rel k u v) (hk : k + 5 ≤ 2562) (v1 : Int32) (v2 : Int32) : wpX_mkAbs (fun r u' => wpY_mkAbs (fun r' v' => r' = r ∧ i_Rel (k + 5) u' v') v v1 v2) u v1 v2 := by
  obtain ⟨T, nM, TY, nH, HC, G, cM, cH, J, ⟨xA, xR, xK, xS, xY, xP, xE, rfl, RX⟩, ⟨y1, y2, y3, y4, y5, yw, yl, yk, ye, yp, yq, yr, ys, yM, yL, yY, yA, yR, yP, rfl, RY⟩⟩ := I
  have h32 := J.2.2.1
  have h2 := J.2.1
  rcases hk_val v1 nM with h1 | ⟨f, hf, rfl⟩
  · unfold wpX_mkAbs
    dsimp only
    refine xa_var0 h1 (br_t rfl ?_)
    exact hk_ok0 h1 (br_t rfl ⟨rfl, hk_keep J RX RY⟩)
  rcases hk_val v2 nM with h1 | ⟨x, hx, rfl⟩
  · obtain ⟨tf, gf, -⟩ := J.2.2.2.2.2.1 f hf
    unfold wpX_mkAbs
    dsimp only
    refine xa_var hf (by omega) (RX.2.1 f hf).2 gf (fun ek => br_f (by decide) (hk_ok0 h1 (br_t rfl ?_))) (fun ek => br_t rfl ?_)
    · exact hk_ok1 (by omega) hf (br_f (by decide) (hk_ok0 h1 (br_t rfl ⟨rfl, hk_keep J RX RY⟩)))
    · exact hk_ok1 (by omega) hf (br_f (by decide) (hk_ok0 h1 (br_t rfl ⟨rfl, hk_keep J RX RY⟩)))
  have vI := hk_I_var J hf
  refine xm_abs J RX hf hx rfl (fun c j A R K S E hj hb h fX => ?_) (fun c A R hb => ?_)
  · refine ym_abs J RY hf hx rfl (fun _ j' A2 R2 M L w wl hj' hb2 h' f' => ⟨rfl, ?_⟩) (fun c' => absurd c c')
    rw [hj] at hj'
    cases hj'
    have dT : hk_c (G f) 0 % 256 < T.1 := by rw [← (vI c.2.1).2.1]; exact (J.2.2.2.2.2.1 f hf).1
    obtain ⟨j1, j2, j3, j4⟩ := hk_it_ok (d := hk_c (G f) 0 % 256) (c := TY x) J.1 dT (J.2.2.2.2.2.1 x hx).1
    have md : hk_c (G f) 0 % 256 < 256 := Nat.mod_lt _ (by decide)
    exact hk_new J RX RY c.1 j1 j2 hb hb2 fX h f' h' (j4 j hj).2 (hk_gt_mono (hk_abl_gt c.2.1 (J.2.2.2.2.2.1 x hx).2.1 c.2.2.1) j2) (fun y => by have y : (262144 + hk_c (G f) 0 % 256) / 65536 = 1 := y; omega)
  · refine ym_abs J RY hf hx rfl (fun c' => absurd c' c) (fun _ => ⟨rfl, hk_keep J ⟨hb, RX.2⟩ RY⟩)
theorem i_vc_termType {k : Nat} {u : SX} {v : SY} (I : i_Rel k u v) (hk : k + 5 ≤ 2562) (v1 : Int32) : wpX_termType (fun r => wpY_termType (fun r' => r' = r ∧ i_Rel (k + 5) u v) v v1) u v1 := by
  have K := i_up I
  obtain ⟨T, nM, TY, nH, HC, G, cM, cH, J, ⟨xA, xR, xK, xS, xY, xP, xE, rfl, RX⟩, ⟨y1, y2, y3, y4, y5, yw, yl, yk, ye, yp, yq, yr, ys, yM, yL, yY, yA, yR, yP, rfl, RY⟩⟩ := I
  have h32 := J.2.2.1
  have h2 := J.2.1
  rcases hk_val v1 nM with h1 | ⟨t, ht, rfl⟩
  · exact hk_ok0 h1 (br_t rfl (hk_ok0 h1 (br_t rfl ⟨rfl, K⟩)))
  · have V : vp_in (nI t) 32 := vp_in_nI (by omega) (by omega)
    refine hk_ok1 (by omega) ht (br_f (by decide) ⟨V, hk_ok1 (by omega) ht (br_f (by decide) ⟨V, ?_, K⟩)⟩)
    rw [nI_clamp (by omega), (RX.2.1 t ht).1, (RY.2.1 t ht).1]
theorem i_vc_termSize {k : Nat} {u : SX} {v : SY} (I : i_Rel k u v) (hk : k + 5 ≤ 2562) (v1 : Int32) : wpX_termSize (fun r => wpY_termSize (fun r' => r' = r ∧ i_Rel (k + 5) u v) v v1) u v1 := by
  have K := i_up I
  obtain ⟨T, nM, TY, nH, HC, G, cM, cH, J, ⟨xA, xR, xK, xS, xY, xP, xE, rfl, RX⟩, ⟨y1, y2, y3, y4, y5, yw, yl, yk, ye, yp, yq, yr, ys, yM, yL, yY, yA, yR, yP, rfl, RY⟩⟩ := I
  have h32 := J.2.2.1
  have h2 := J.2.1
  rcases hk_val v1 nM with h1 | ⟨t, ht, rfl⟩
  · exact hk_ok0 h1 (br_t rfl (hk_ok0 h1 (br_t rfl ⟨rfl, K⟩)))
  · obtain ⟨ty, g, -⟩ := J.2.2.2.2.2.1 t ht
    refine hk_ok1 (by omega) ht (br_f (by decide) ⟨vp_in_nI (by omega) (by omega), hk_ok1 (by omega) ht (br_f (by decide) ⟨vp_in_nI (by omega) (by omega), ?_, K⟩)⟩)
    try dsimp only
    rw [hk_sz (RX.2.1 t ht).2 (by omega), hk_szy (RY.2.1 t ht).2 (by omega) g.2.1]
theorem i_vc_termNode {k : Nat} {u : SX} {v : SY} (I : i_Rel k u v) (hk : k + 5 ≤ 2562) (v1 : Int32) (v2 : Int32) : wpX_termNode (fun r => wpY_termNode (fun r' => r' = r ∧ i_Rel (k + 5) u v) v v1 v2) u v1 v2 := by
  have K := i_up I
  obtain ⟨T, nM, TY, nH, HC, G, cM, cH, J, ⟨xA, xR, xK, xS, xY, xP, xE, rfl, RX⟩, ⟨y1, y2, y3, y4, y5, yw, yl, yk, ye, yp, yq, yr, ys, yM, yL, yY, yA, yR, yP, rfl, RY⟩⟩ := I
  have h32 := J.2.2.1
  have h2 := J.2.1
  rcases hk_val v1 nM with h1 | ⟨t, ht, rfl⟩
  · exact hk_ok0 h1 (br_t rfl (hk_ok0 h1 (br_t rfl ⟨rfl, K⟩)))
  · obtain ⟨ty, g, -⟩ := J.2.2.2.2.2.1 t ht
    have yh := (RY.2.1 t ht).2
    have ys := hk_szy yh (by omega) g.2.1
    have l32 := g.2.1
    have V : vp_in (nI t) 110 := vp_in_nI (by omega) (by omega)
    refine hk_ok1 (by omega) ht (br_f (by decide) (xa_con (RX.2.1 t ht).2 (by omega) g (fun z => ?_) (fun j hj e => ?_)))
    · refine hk_ok1 (by omega) ht (br_f (by decide) (br_c (fun _ => ⟨rfl, K⟩) (fun q => ⟨V, br_f ?_ ⟨rfl, K⟩⟩)))
      rw [ys]
      obtain ⟨j, hj, rfl⟩ := nI_of q
      refine nI_nlt ?_ hj
      rcases Nat.lt_or_ge j (G t).length with w | w
      · exact absurd rfl (z j w)
      · exact w
    · subst e
      refine hk_ok1 (by omega) ht (br_f (by decide) (br_f (nI_pos (by omega)) ⟨V, br_t (by rw [ys]; exact nI_lt hj (by omega)) ?_⟩))
      exact ya_nd yh (by omega) hj (by omega) ⟨rfl, K⟩
theorem i_vc_hypCount {k : Nat} {u : SX} {v : SY} (I : i_Rel k u v) (hk : k + 5 ≤ 2562) (v1 : Int32) : wpX_hypCount (fun r => wpY_hypCount (fun r' => r' = r ∧ i_Rel (k + 5) u v) v v1) u v1 := by
  have K := i_up I
  obtain ⟨T, nM, TY, nH, HC, G, cM, cH, J, ⟨xA, xR, xK, xS, xY, xP, xE, rfl, RX⟩, ⟨y1, y2, y3, y4, y5, yw, yl, yk, ye, yp, yq, yr, ys, yM, yL, yY, yA, yR, yP, rfl, RY⟩⟩ := I
  have h4 := J.2.2.2.1
  have h5 := J.2.2.2.2.1
  rcases hk_val v1 nH with h1 | ⟨t, ht, rfl⟩
  · exact hk_ok0 h1 (br_t rfl (hk_ok0 h1 (br_t rfl ⟨rfl, K⟩)))
  · have V : vp_in (nI t) 16 := vp_in_nI (by omega) (by omega)
    refine hk_ok1 (by omega) ht (br_f (by decide) ⟨V, hk_ok1 (by omega) ht (br_f (by decide) ⟨V, ?_, K⟩)⟩)
    rw [nI_clamp (by omega), (RX.2.2 t ht).1, (RY.2.2 t ht).1]
section
variable {xn xc xm xd xh : Int32} {xA xR xK xS xY xP xE : Nat → Int32} {y1 y2 y3 y4 y5 yn ym yh yc yd yw yl yk ye yp yq yr ys : Int32} {yM yL yY yA yR yP : Nat → Int32} {T : hk_T} {nM nH cM cH : Nat} {TY HC : Nat → Nat} {G : Nat → List Nat}
theorem xa_isPart {post : Int32 → Prop} {t n : Nat} {x : Int32} (ht : t < nH) (hH : nH ≤ 16) (hP : xP t = nI n) (hn : n ≤ 3) (k0 : (∀ j, j < n + 1 → x ≠ nI j) → post 0) (k1 : ∀ j, j < n + 1 → x = nI j → post 1) : wpX_isPart post (xn, xc, xm, xd, nI nH, xA, xR, xK, xS, xY, xP, xE) (nI t) x := by
  refine hk_ok1 (by omega) ht (br_f (by decide) ?_)
  rcases hk_val x (n + 1) with z | ⟨j, hj, rfl⟩
  · refine br_c (fun _ => k0 z) (fun q => ⟨vp_in_nI (by omega) (by omega), ?_⟩)
    rw [nI_clamp (by omega), hP]
    obtain ⟨j, hj, rfl⟩ := nI_of q
    refine br_t (nI_lt ?_ hj) (k0 z)
    rcases Nat.lt_or_ge n j with w | w
    · exact w
    · exact absurd rfl (z j (by omega))
  · refine br_f (nI_pos (by omega)) ⟨vp_in_nI (by omega) (by omega), ?_⟩
    rw [nI_clamp (by omega), hP]
    exact br_f (nI_nlt (by omega) (by omega)) (k1 j hj rfl)
end
theorem i_vc_thmSize {k : Nat} {u : SX} {v : SY} (I : i_Rel k u v) (hk : k + 5 ≤ 2562) (v1 : Int32) (v2 : Int32) : wpX_thmSize (fun r => wpY_thmSize (fun r' => r' = r ∧ i_Rel (k + 5) u v) v v1 v2) u v1 v2 := by
  have K := i_up I
  obtain ⟨T, nM, TY, nH, HC, G, cM, cH, J, ⟨xA, xR, xK, xS, xY, xP, xE, rfl, RX⟩, ⟨y1, y2, y3, y4, y5, yw, yl, yk, ye, yp, yq, yr, ys, yM, yL, yY, yA, yR, yP, rfl, RY⟩⟩ := I
  have h4 := J.2.2.2.1
  have h5 := J.2.2.2.2.1
  rcases hk_val v1 nH with h1 | ⟨t, ht, rfl⟩
  · exact hk_ok0 h1 (br_t rfl (br_t rfl (hk_ok0 h1 (br_t rfl ⟨rfl, K⟩))))
  · obtain ⟨hc, gp⟩ := J.2.2.2.2.2.2 t ht
    obtain ⟨yPt, yh⟩ := RY.2.2 t ht
    obtain ⟨xPt, xh⟩ := RX.2.2 t ht
    have V : vp_in (nI t) 16 := vp_in_nI (by omega) (by omega)
    unfold wpX_thmSize
    dsimp only
    refine xa_isPart ht (by omega) xPt hc (fun z => br_t rfl ?_) (fun p hp e => br_f (by decide) ?_)
    · refine hk_ok1 (by omega) ht (br_f (by decide) (br_c (fun _ => ⟨rfl, K⟩) (fun q => ⟨V, br_f ?_ ⟨rfl, K⟩⟩)))
      rw [nI_clamp (by omega), yPt]
      obtain ⟨j, hj, rfl⟩ := nI_of q
      refine nI_ge ?_ hj
      rcases Nat.lt_or_ge (HC t) j with w | w
      · exact w
      · exact absurd rfl (z j (by omega))
    · subst e
      refine xa_part t p ⟨vp_in_nI (by omega) (by omega), ?_⟩
      refine hk_ok1 (by omega) ht (br_f (by decide) (br_f (nI_pos (by omega)) ⟨V, br_t (by rw [nI_clamp (by omega), yPt]; exact nI_le (by omega) (by omega)) (ya_slot t p ⟨vp_in_nI (by omega) (by omega), ?_, K⟩)⟩))
      try dsimp only
      rw [hk_sz (xh p (by omega)) (by omega), hk_szy (yh p (by omega)) (by omega) (gp p (by omega)).2.1]
theorem i_vc_thmNode {k : Nat} {u : SX} {v : SY} (I : i_Rel k u v) (hk : k + 5 ≤ 2562) (v1 : Int32) (v2 : Int32) (v3 : Int32) : wpX_thmNode (fun r => wpY_thmNode (fun r' => r' = r ∧ i_Rel (k + 5) u v) v v1 v2 v3) u v1 v2 v3 := by
  have K := i_up I
  obtain ⟨T, nM, TY, nH, HC, G, cM, cH, J, ⟨xA, xR, xK, xS, xY, xP, xE, rfl, RX⟩, ⟨y1, y2, y3, y4, y5, yw, yl, yk, ye, yp, yq, yr, ys, yM, yL, yY, yA, yR, yP, rfl, RY⟩⟩ := I
  have h4 := J.2.2.2.1
  have h5 := J.2.2.2.2.1
  rcases hk_val v1 nH with h1 | ⟨t, ht, rfl⟩
  · exact hk_ok0 h1 (br_t rfl (br_t rfl (hk_ok0 h1 (br_t rfl ⟨rfl, K⟩))))
  · obtain ⟨hc, gp⟩ := J.2.2.2.2.2.2 t ht
    obtain ⟨yPt, yh⟩ := RY.2.2 t ht
    obtain ⟨xPt, xh⟩ := RX.2.2 t ht
    have V : vp_in (nI t) 16 := vp_in_nI (by omega) (by omega)
    unfold wpX_thmNode
    dsimp only
    refine xa_isPart ht (by omega) xPt hc (fun z => br_t rfl ?_) (fun p hp e => br_f (by decide) ?_)
    · refine hk_ok1 (by omega) ht (br_f (by decide) (br_c (fun _ => ⟨rfl, K⟩) (fun q => ⟨V, br_f ?_ ⟨rfl, K⟩⟩)))
      rw [nI_clamp (by omega), yPt]
      obtain ⟨j, hj, rfl⟩ := nI_of q
      refine nI_ge ?_ hj
      rcases Nat.lt_or_ge (HC t) j with w | w
      · exact w
      · exact absurd rfl (z j (by omega))
    · subst e
      have g := gp p (by omega)
      have l32 := g.2.1
      have yhp := yh p (by omega)
      have yz := hk_szy yhp (by omega) l32
      have VS : vp_in (nI (32 + t * 4 + p)) 110 := vp_in_nI (by omega) (by omega)
      have yle : nI p ≤ yP (nI t).toNatClampNeg := by rw [nI_clamp (by omega), yPt]; exact nI_le (by omega) (by omega)
      refine xa_part t p ?_
      refine xa_con (xh p (by omega)) (by omega) g (fun z => ?_) (fun j hj e => ?_)
      · refine hk_ok1 (by omega) ht (br_f (by decide) (br_f (nI_pos (by omega)) ⟨V, br_t yle (ya_slot t p (br_c (fun _ => ⟨rfl, K⟩) (fun q => ⟨VS, br_f ?_ ⟨rfl, K⟩⟩)))⟩))
        rw [yz]
        obtain ⟨j, hj, rfl⟩ := nI_of q
        refine nI_nlt ?_ hj
        rcases Nat.lt_or_ge j (G (32 + t * 4 + p)).length with w | w
        · exact absurd rfl (z j w)
        · exact w
      · subst e
        refine hk_ok1 (by omega) ht (br_f (by decide) (br_f (nI_pos (by omega)) ⟨V, br_t yle (ya_slot t p (br_f (nI_pos (by omega)) ⟨VS, br_t (by rw [yz]; exact nI_lt hj (by omega)) ?_⟩))⟩))
        exact ya_nd yhp (by omega) hj (by omega) ⟨rfl, K⟩
theorem i_vc_thmPartIs {k : Nat} {u : SX} {v : SY} (I : i_Rel k u v) (hk : k + 5 ≤ 2562) (v1 : Int32) (v2 : Int32) (v3 : Int32) : wpX_thmPartIs (fun r => wpY_thmPartIs (fun r' => r' = r ∧ i_Rel (k + 5) u v) v v1 v2 v3) u v1 v2 v3 := by
  have K := i_up I
  obtain ⟨T, nM, TY, nH, HC, G, cM, cH, J, ⟨xA, xR, xK, xS, xY, xP, xE, rfl, RX⟩, ⟨y1, y2, y3, y4, y5, yw, yl, yk, ye, yp, yq, yr, ys, yM, yL, yY, yA, yR, yP, rfl, RY⟩⟩ := I
  have h4 := J.2.2.2.1
  have h5 := J.2.2.2.2.1
  have h32 := J.2.2.1
  have h2 := J.2.1
  rcases hk_val v1 nH with h1 | ⟨t, ht, rfl⟩
  · exact hk_ok0 h1 (br_t rfl (br_t rfl (hk_ok0 h1 (br_t rfl ⟨rfl, K⟩))))
  · obtain ⟨hc, gp⟩ := J.2.2.2.2.2.2 t ht
    obtain ⟨yPt, yh⟩ := RY.2.2 t ht
    obtain ⟨xPt, xh⟩ := RX.2.2 t ht
    have V : vp_in (nI t) 16 := vp_in_nI (by omega) (by omega)
    unfold wpX_thmPartIs
    dsimp only
    refine xa_isPart ht (by omega) xPt hc (fun z => br_t rfl ?_) (fun p hp e => br_f (by decide) ?_)
    · refine hk_ok1 (by omega) ht (br_f (by decide) (br_c (fun _ => ⟨rfl, K⟩) (fun q => ⟨V, br_t ?_ ⟨rfl, K⟩⟩)))
      rw [nI_clamp (by omega), yPt]
      obtain ⟨j, hj, rfl⟩ := nI_of q
      refine nI_lt ?_ hj
      rcases Nat.lt_or_ge (HC t) j with w | w
      · exact w
      · exact absurd rfl (z j (by omega))
    · subst e
      have g := gp p (by omega)
      have ynlt : ¬ yP (nI t).toNatClampNeg < nI p := by rw [nI_clamp (by omega), yPt]; exact nI_nlt (by omega) (by omega)
      rcases hk_val v3 nM with h3 | ⟨x, hx, rfl⟩
      · exact hk_ok0 h3 (br_t rfl (hk_ok1 (by omega) ht (br_f (by decide) (br_f (nI_pos (by omega)) ⟨V, br_f ynlt (hk_ok0 h3 (br_t rfl ⟨rfl, K⟩))⟩))))
      · obtain ⟨tx, gx, -⟩ := J.2.2.2.2.2.1 x hx
        have yhp := yh p (by omega)
        have yhx := (RY.2.1 x hx).2
        refine hk_ok1 (by omega) hx (br_f (by decide) (xa_part t p ?_))
        refine xa_cmp (xh p (by omega)) (RX.2.1 x hx).2 (by omega) (by omega) g gx (fun r q1 q2 => ?_)
        have yy : ∀ z : Int32, (z = 1 ↔ G (32 + t * 4 + p) = G x) → (z = 0 ∨ z = 1) → wpY_thmPartIs (fun r' => r' = z ∧ i_Rel (k + 5) (nI T.1, nI cM, nI nM, nI cH, nI nH, xA, xR, xK, xS, xY, xP, xE) (y1, y2, y3, y4, y5, nI T.1, nI nM, nI nH, nI cM, nI cH, yw, yl, yk, ye, yp, yq, yr, ys, yM, yL, yY, yA, yR, yP)) (y1, y2, y3, y4, y5, nI T.1, nI nM, nI nH, nI cM, nI cH, yw, yl, yk, ye, yp, yq, yr, ys, yM, yL, yY, yA, yR, yP) (nI t) (nI p) (nI x) := by
          intro z hz hz2
          refine hk_ok1 (by omega) ht (br_f (by decide) (br_f (nI_pos (by omega)) ⟨V, br_f ynlt (hk_ok1 (by omega) hx (br_f (by decide) (ya_slot t p ⟨vp_in_nI (by omega) (by omega), vp_in_nI (by omega) (by omega), ?_⟩)))⟩))
          refine ya_cmp yhp yhx (by omega) (by omega) g gx (hk_szy yhp (by omega) g.2.1) (hk_szy yhx (by omega) gx.2.1) (fun r' q3 q4 => br_c (fun w => ⟨?_, K⟩) (fun w => ⟨?_, K⟩))
          · exact (hz.mpr (q4.mp w)).symm
          · rcases hz2 with e | e
            · exact e.symm
            · exact absurd (q4.mpr (hz.mp e)) w
        refine br_c (fun w => yy 1 ⟨fun _ => q2.mp w, fun _ => rfl⟩ (Or.inr rfl)) (fun w => yy 0 ⟨fun e => absurd e (by decide), fun e => absurd (q2.mpr e) w⟩ (Or.inl rfl))
end
section
/-! refused: a handle that isn't one -/
section
variable {xn xc xm xd xh : Int32} {xA xR xK xS xY xP xE : Nat → Int32} {T : hk_T} {nM nH cM cH : Nat} {TY HC : Nat → Nat} {G : Nat → List Nat}
theorem xz_trans0 {post : Int32 → SX → Prop} {x y : Int32} (hb : hk_tb T xA xR) (h : ∀ j, j < nH → x ≠ nI j) (k : xr_K post T nM nH xc xd xK xS xY xP none) : wpX_byTrans post (nI T.1, xc, nI nM, xd, nI nH, xA, xR, xK, xS, xY, xP, xE) x y := by
  have K := k xA xR xK xS xP xE hb hk_fr_r (fun _ _ => rfl)
  unfold wpX_byTrans
  dsimp only
  exact xa_iseq0 h (br_t rfl K)
theorem xz_trans1 {post : Int32 → SX → Prop} {y : Int32} {a n : Nat} {l : List Nat} (hb : hk_tb T xA xR) (hH : nH ≤ 16) (ha : a < nH) (cA : hk_h xK xS (32 + a * 4) l) (gA : hk_gt n l) (h : ∀ j, j < nH → y ≠ nI j) (k : xr_K post T nM nH xc xd xK xS xY xP none) : wpX_byTrans post (nI T.1, xc, nI nM, xd, nI nH, xA, xR, xK, xS, xY, xP, xE) (nI a) y := by
  have K := k xA xR xK xS xP xE hb hk_fr_r (fun _ _ => rfl)
  unfold wpX_byTrans
  dsimp only
  refine xa_iseq ha hH cA gA (fun _ => br_f (by decide) ?_) (fun _ => br_t rfl K)
  exact xa_iseq0 h (br_t rfl K)
theorem xz_comb0 {post : Int32 → SX → Prop} {x y : Int32} (hb : hk_tb T xA xR) (h : ∀ j, j < nH → x ≠ nI j) (k : xr_K post T nM nH xc xd xK xS xY xP none) : wpX_byMkComb post (nI T.1, xc, nI nM, xd, nI nH, xA, xR, xK, xS, xY, xP, xE) x y := by
  have K := k xA xR xK xS xP xE hb hk_fr_r (fun _ _ => rfl)
  unfold wpX_byMkComb
  dsimp only
  exact xa_iseq0 h (br_t rfl K)
theorem xz_comb1 {post : Int32 → SX → Prop} {y : Int32} {a n : Nat} {l : List Nat} (hb : hk_tb T xA xR) (hH : nH ≤ 16) (ha : a < nH) (cA : hk_h xK xS (32 + a * 4) l) (gA : hk_gt n l) (h : ∀ j, j < nH → y ≠ nI j) (k : xr_K post T nM nH xc xd xK xS xY xP none) : wpX_byMkComb post (nI T.1, xc, nI nM, xd, nI nH, xA, xR, xK, xS, xY, xP, xE) (nI a) y := by
  have K := k xA xR xK xS xP xE hb hk_fr_r (fun _ _ => rfl)
  unfold wpX_byMkComb
  dsimp only
  refine xa_iseq ha hH cA gA (fun _ => br_f (by decide) ?_) (fun _ => br_t rfl K)
  exact xa_iseq0 h (br_t rfl K)
theorem xz_mp0 {post : Int32 → SX → Prop} {x y : Int32} (hb : hk_tb T xA xR) (h : ∀ j, j < nH → x ≠ nI j) (k : xr_K post T nM nH xc xd xK xS xY xP none) : wpX_byEqMp post (nI T.1, xc, nI nM, xd, nI nH, xA, xR, xK, xS, xY, xP, xE) x y := by
  have K := k xA xR xK xS xP xE hb hk_fr_r (fun _ _ => rfl)
  unfold wpX_byEqMp
  dsimp only
  exact xa_iseq0 h (br_t rfl K)
theorem xz_mp1 {post : Int32 → SX → Prop} {y : Int32} {a n : Nat} {l : List Nat} (hb : hk_tb T xA xR) (hH : nH ≤ 16) (ha : a < nH) (cA : hk_h xK xS (32 + a * 4) l) (gA : hk_gt n l) (h : ∀ j, j < nH → y ≠ nI j) (k : xr_K post T nM nH xc xd xK xS xY xP none) : wpX_byEqMp post (nI T.1, xc, nI nM, xd, nI nH, xA, xR, xK, xS, xY, xP, xE) (nI a) y := by
  have K := k xA xR xK xS xP xE hb hk_fr_r (fun _ _ => rfl)
  unfold wpX_byEqMp
  dsimp only
  refine xa_iseq ha hH cA gA (fun _ => br_f (by decide) ?_) (fun _ => br_t rfl K)
  exact hk_ok0 h (br_t rfl K)
theorem xz_ded0 {post : Int32 → SX → Prop} {x y : Int32} (hb : hk_tb T xA xR) (h : ∀ j, j < nH → x ≠ nI j) (k : xr_K post T nM nH xc xd xK xS xY xP none) : wpX_byDeductAntisym post (nI T.1, xc, nI nM, xd, nI nH, xA, xR, xK, xS, xY, xP, xE) x y := by
  have K := k xA xR xK xS xP xE hb hk_fr_r (fun _ _ => rfl)
  unfold wpX_byDeductAntisym
  dsimp only
  exact hk_ok0 h (br_t rfl K)
theorem xz_ded1 {post : Int32 → SX → Prop} {y : Int32} {a n : Nat} {l : List Nat} (hb : hk_tb T xA xR) (hH : nH ≤ 16) (ha : a < nH) (cA : hk_h xK xS (32 + a * 4) l) (gA : hk_gt n l) (h : ∀ j, j < nH → y ≠ nI j) (k : xr_K post T nM nH xc xd xK xS xY xP none) : wpX_byDeductAntisym post (nI T.1, xc, nI nM, xd, nI nH, xA, xR, xK, xS, xY, xP, xE) (nI a) y := by
  have K := k xA xR xK xS xP xE hb hk_fr_r (fun _ _ => rfl)
  unfold wpX_byDeductAntisym
  dsimp only
  refine hk_ok1 (by omega) ha (br_f (by decide) ?_)
  exact hk_ok0 h (br_t rfl K)
theorem xz_abs0 {post : Int32 → SX → Prop} {x y : Int32} (hb : hk_tb T xA xR) (h : ∀ j, j < nH → x ≠ nI j) (k : xr_K post T nM nH xc xd xK xS xY xP none) : wpX_byAbs post (nI T.1, xc, nI nM, xd, nI nH, xA, xR, xK, xS, xY, xP, xE) x y := by
  have K := k xA xR xK xS xP xE hb hk_fr_r (fun _ _ => rfl)
  unfold wpX_byAbs
  dsimp only
  exact xa_iseq0 h (br_t rfl K)
theorem xz_abs1 {post : Int32 → SX → Prop} {y : Int32} {a n : Nat} {l : List Nat} (hb : hk_tb T xA xR) (hH : nH ≤ 16) (ha : a < nH) (cA : hk_h xK xS (32 + a * 4) l) (gA : hk_gt n l) (h : ∀ j, j < nM → y ≠ nI j) (k : xr_K post T nM nH xc xd xK xS xY xP none) : wpX_byAbs post (nI T.1, xc, nI nM, xd, nI nH, xA, xR, xK, xS, xY, xP, xE) (nI a) y := by
  have K := k xA xR xK xS xP xE hb hk_fr_r (fun _ _ => rfl)
  unfold wpX_byAbs
  dsimp only
  refine xa_iseq ha hH cA gA (fun _ => br_f (by decide) ?_) (fun _ => br_t rfl K)
  exact xa_var0 h (br_t rfl K)
theorem xz_inst0 {post : Int32 → SX → Prop} {x y z : Int32} (hb : hk_tb T xA xR) (h : ∀ j, j < nH → x ≠ nI j) (k : xr_K post T nM nH xc xd xK xS xY xP none) : wpX_byInst post (nI T.1, xc, nI nM, xd, nI nH, xA, xR, xK, xS, xY, xP, xE) x y z := by
  have K := k xA xR xK xS xP xE hb hk_fr_r (fun _ _ => rfl)
  unfold wpX_byInst
  dsimp only
  exact hk_ok0 h (br_t rfl K)
theorem xz_inst1 {post : Int32 → SX → Prop} {y z : Int32} {a n : Nat} {l : List Nat} (hb : hk_tb T xA xR) (hH : nH ≤ 16) (ha : a < nH) (cA : hk_h xK xS (32 + a * 4) l) (gA : hk_gt n l) (h : ∀ j, j < nM → y ≠ nI j) (k : xr_K post T nM nH xc xd xK xS xY xP none) : wpX_byInst post (nI T.1, xc, nI nM, xd, nI nH, xA, xR, xK, xS, xY, xP, xE) (nI a) y z := by
  have K := k xA xR xK xS xP xE hb hk_fr_r (fun _ _ => rfl)
  unfold wpX_byInst
  dsimp only
  refine hk_ok1 (by omega) ha (br_f (by decide) ?_)
  exact xa_var0 h (br_t rfl K)
theorem xz_inst2 {post : Int32 → SX → Prop} {z : Int32} {a v n : Nat} {l : List Nat} (hb : hk_tb T xA xR) (hH : nH ≤ 16) (h32 : nM ≤ 32) (ha : a < nH) (hv : v < nM) (cv : hk_h xK xS v l) (gv : hk_gt n l) (h : ∀ j, j < nM → z ≠ nI j) (k : xr_K post T nM nH xc xd xK xS xY xP none) : wpX_byInst post (nI T.1, xc, nI nM, xd, nI nH, xA, xR, xK, xS, xY, xP, xE) (nI a) (nI v) z := by
  have K := k xA xR xK xS xP xE hb hk_fr_r (fun _ _ => rfl)
  unfold wpX_byInst
  dsimp only
  refine hk_ok1 (by omega) ha (br_f (by decide) ?_)
  refine xa_var hv h32 cv gv (fun _ => br_f (by decide) ?_) (fun _ => br_t rfl K)
  exact hk_ok0 h (br_t rfl K)
end
section
variable {y1 y2 y3 y4 y5 yn ym yh yc yd yw yl yk ye yp yq yr ys : Int32} {yM yL yY yA yR yP : Nat → Int32} {T : hk_T} {nM nH cM cH : Nat} {TY HC : Nat → Nat} {G : Nat → List Nat}
theorem yz_trans0 {post : Int32 → SY → Prop} {x y : Int32} (hb : hk_tb T yA yR) (h : ∀ j, j < nH → x ≠ nI j) (k : yr_K post T nM nH y1 y2 y3 y4 y5 yc yd yM yL yY yP none) : wpY_ruleTrans post (y1, y2, y3, y4, y5, nI T.1, nI nM, nI nH, yc, yd, yw, yl, yk, ye, yp, yq, yr, ys, yM, yL, yY, yA, yR, yP) x y := by
  have K := k yA yR yM yL yw yl yk ye yp yq yr ys hb hk_fr_r
  unfold wpY_ruleTrans
  dsimp only
  exact hk_ok0 h (br_t rfl K)
theorem yz_trans1 {post : Int32 → SY → Prop} {y : Int32} {a : Nat} (hb : hk_tb T yA yR) (hH : nH ≤ 16) (ha : a < nH) (h : ∀ j, j < nH → y ≠ nI j) (k : yr_K post T nM nH y1 y2 y3 y4 y5 yc yd yM yL yY yP none) : wpY_ruleTrans post (y1, y2, y3, y4, y5, nI T.1, nI nM, nI nH, yc, yd, yw, yl, yk, ye, yp, yq, yr, ys, yM, yL, yY, yA, yR, yP) (nI a) y := by
  have K := k yA yR yM yL yw yl yk ye yp yq yr ys hb hk_fr_r
  unfold wpY_ruleTrans
  dsimp only
  refine hk_ok1 (by omega) ha (br_f (by decide) ?_)
  exact hk_ok0 h (br_t rfl K)
theorem yz_comb0 {post : Int32 → SY → Prop} {x y : Int32} (hb : hk_tb T yA yR) (h : ∀ j, j < nH → x ≠ nI j) (k : yr_K post T nM nH y1 y2 y3 y4 y5 yc yd yM yL yY yP none) : wpY_ruleMkComb post (y1, y2, y3, y4, y5, nI T.1, nI nM, nI nH, yc, yd, yw, yl, yk, ye, yp, yq, yr, ys, yM, yL, yY, yA, yR, yP) x y := by
  have K := k yA yR yM yL yw yl yk ye yp yq yr ys hb hk_fr_r
  unfold wpY_ruleMkComb
  dsimp only
  exact hk_ok0 h (br_t rfl K)
theorem yz_comb1 {post : Int32 → SY → Prop} {y : Int32} {a : Nat} (hb : hk_tb T yA yR) (hH : nH ≤ 16) (ha : a < nH) (h : ∀ j, j < nH → y ≠ nI j) (k : yr_K post T nM nH y1 y2 y3 y4 y5 yc yd yM yL yY yP none) : wpY_ruleMkComb post (y1, y2, y3, y4, y5, nI T.1, nI nM, nI nH, yc, yd, yw, yl, yk, ye, yp, yq, yr, ys, yM, yL, yY, yA, yR, yP) (nI a) y := by
  have K := k yA yR yM yL yw yl yk ye yp yq yr ys hb hk_fr_r
  unfold wpY_ruleMkComb
  dsimp only
  refine hk_ok1 (by omega) ha (br_f (by decide) ?_)
  exact hk_ok0 h (br_t rfl K)
theorem yz_mp0 {post : Int32 → SY → Prop} {x y : Int32} (hb : hk_tb T yA yR) (h : ∀ j, j < nH → x ≠ nI j) (k : yr_K post T nM nH y1 y2 y3 y4 y5 yc yd yM yL yY yP none) : wpY_ruleEqMp post (y1, y2, y3, y4, y5, nI T.1, nI nM, nI nH, yc, yd, yw, yl, yk, ye, yp, yq, yr, ys, yM, yL, yY, yA, yR, yP) x y := by
  have K := k yA yR yM yL yw yl yk ye yp yq yr ys hb hk_fr_r
  unfold wpY_ruleEqMp
  dsimp only
  exact hk_ok0 h (br_t rfl K)
theorem yz_mp1 {post : Int32 → SY → Prop} {y : Int32} {a : Nat} (hb : hk_tb T yA yR) (hH : nH ≤ 16) (ha : a < nH) (h : ∀ j, j < nH → y ≠ nI j) (k : yr_K post T nM nH y1 y2 y3 y4 y5 yc yd yM yL yY yP none) : wpY_ruleEqMp post (y1, y2, y3, y4, y5, nI T.1, nI nM, nI nH, yc, yd, yw, yl, yk, ye, yp, yq, yr, ys, yM, yL, yY, yA, yR, yP) (nI a) y := by
  have K := k yA yR yM yL yw yl yk ye yp yq yr ys hb hk_fr_r
  unfold wpY_ruleEqMp
  dsimp only
  refine hk_ok1 (by omega) ha (br_f (by decide) ?_)
  exact hk_ok0 h (br_t rfl K)
theorem yz_ded0 {post : Int32 → SY → Prop} {x y : Int32} (hb : hk_tb T yA yR) (h : ∀ j, j < nH → x ≠ nI j) (k : yr_K post T nM nH y1 y2 y3 y4 y5 yc yd yM yL yY yP none) : wpY_ruleDeduct post (y1, y2, y3, y4, y5, nI T.1, nI nM, nI nH, yc, yd, yw, yl, yk, ye, yp, yq, yr, ys, yM, yL, yY, yA, yR, yP) x y := by
  have K := k yA yR yM yL yw yl yk ye yp yq yr ys hb hk_fr_r
  unfold wpY_ruleDeduct
  dsimp only
  exact hk_ok0 h (br_t rfl K)
theorem yz_ded1 {post : Int32 → SY → Prop} {y : Int32} {a : Nat} (hb : hk_tb T yA yR) (hH : nH ≤ 16) (ha : a < nH) (h : ∀ j, j < nH → y ≠ nI j) (k : yr_K post T nM nH y1 y2 y3 y4 y5 yc yd yM yL yY yP none) : wpY_ruleDeduct post (y1, y2, y3, y4, y5, nI T.1, nI nM, nI nH, yc, yd, yw, yl, yk, ye, yp, yq, yr, ys, yM, yL, yY, yA, yR, yP) (nI a) y := by
  have K := k yA yR yM yL yw yl yk ye yp yq yr ys hb hk_fr_r
  unfold wpY_ruleDeduct
  dsimp only
  refine hk_ok1 (by omega) ha (br_f (by decide) ?_)
  exact hk_ok0 h (br_t rfl K)
theorem yz_abs0 {post : Int32 → SY → Prop} {x y : Int32} (hb : hk_tb T yA yR) (h : ∀ j, j < nH → x ≠ nI j) (k : yr_K post T nM nH y1 y2 y3 y4 y5 yc yd yM yL yY yP none) : wpY_ruleAbs post (y1, y2, y3, y4, y5, nI T.1, nI nM, nI nH, yc, yd, yw, yl, yk, ye, yp, yq, yr, ys, yM, yL, yY, yA, yR, yP) x y := by
  have K := k yA yR yM yL yw yl yk ye yp yq yr ys hb hk_fr_r
  unfold wpY_ruleAbs
  dsimp only
  exact hk_ok0 h (br_t rfl K)
theorem yz_abs1 {post : Int32 → SY → Prop} {y : Int32} {a : Nat} (hb : hk_tb T yA yR) (hH : nH ≤ 16) (ha : a < nH) (h : ∀ j, j < nM → y ≠ nI j) (k : yr_K post T nM nH y1 y2 y3 y4 y5 yc yd yM yL yY yP none) : wpY_ruleAbs post (y1, y2, y3, y4, y5, nI T.1, nI nM, nI nH, yc, yd, yw, yl, yk, ye, yp, yq, yr, ys, yM, yL, yY, yA, yR, yP) (nI a) y := by
  have K := k yA yR yM yL yw yl yk ye yp yq yr ys hb hk_fr_r
  unfold wpY_ruleAbs
  dsimp only
  refine hk_ok1 (by omega) ha (br_f (by decide) ?_)
  exact hk_ok0 h (br_t rfl K)
theorem yz_inst0 {post : Int32 → SY → Prop} {x y z : Int32} (hb : hk_tb T yA yR) (h : ∀ j, j < nH → x ≠ nI j) (k : yr_K post T nM nH y1 y2 y3 y4 y5 yc yd yM yL yY yP none) : wpY_ruleInst post (y1, y2, y3, y4, y5, nI T.1, nI nM, nI nH, yc, yd, yw, yl, yk, ye, yp, yq, yr, ys, yM, yL, yY, yA, yR, yP) x y z := by
  have K := k yA yR yM yL yw yl yk ye yp yq yr ys hb hk_fr_r
  unfold wpY_ruleInst
  dsimp only
  exact hk_ok0 h (br_t rfl K)
theorem yz_inst1 {post : Int32 → SY → Prop} {y z : Int32} {a : Nat} (hb : hk_tb T yA yR) (hH : nH ≤ 16) (ha : a < nH) (h : ∀ j, j < nM → y ≠ nI j) (k : yr_K post T nM nH y1 y2 y3 y4 y5 yc yd yM yL yY yP none) : wpY_ruleInst post (y1, y2, y3, y4, y5, nI T.1, nI nM, nI nH, yc, yd, yw, yl, yk, ye, yp, yq, yr, ys, yM, yL, yY, yA, yR, yP) (nI a) y z := by
  have K := k yA yR yM yL yw yl yk ye yp yq yr ys hb hk_fr_r
  unfold wpY_ruleInst
  dsimp only
  refine hk_ok1 (by omega) ha (br_f (by decide) ?_)
  exact hk_ok0 h (br_t rfl K)
theorem yz_inst2 {post : Int32 → SY → Prop} {z : Int32} {a v : Nat} (hb : hk_tb T yA yR) (hH : nH ≤ 16) (h32 : nM ≤ 32) (ha : a < nH) (hv : v < nM) (h : ∀ j, j < nM → z ≠ nI j) (k : yr_K post T nM nH y1 y2 y3 y4 y5 yc yd yM yL yY yP none) : wpY_ruleInst post (y1, y2, y3, y4, y5, nI T.1, nI nM, nI nH, yc, yd, yw, yl, yk, ye, yp, yq, yr, ys, yM, yL, yY, yA, yR, yP) (nI a) (nI v) z := by
  have K := k yA yR yM yL yw yl yk ye yp yq yr ys hb hk_fr_r
  unfold wpY_ruleInst
  dsimp only
  refine hk_ok1 (by omega) ha (br_f (by decide) ?_)
  refine hk_ok1 (by omega) hv (br_f (by decide) ?_)
  exact hk_ok0 h (br_t rfl K)
end
end
section
/-! rule -/
section
variable {xn xc xm xd xh : Int32} {xA xR xK xS xY xP xE : Nat → Int32} {y1 y2 y3 y4 y5 yn ym yh yc yd yw yl yk ye yp yq yr ys : Int32} {yM yL yY yA yR yP : Nat → Int32} {T : hk_T} {nM nH cM cH : Nat} {TY HC : Nat → Nat} {G : Nat → List Nat}
def zx_K (post : Int32 → SX → Prop) (T : hk_T) (nM nH : Nat) (xc xd : Int32) (xK xS xY xP : Nat → Int32) : hk_O → Prop
  | none => ∀ A R K S P E : Nat → Int32, hk_tb T A R → hk_fr (fun s => 32 + nH * 4 ≤ s) xK xS K S → (∀ h, h ≠ nH → P h = xP h) → post (-1) (nI T.1, xc, nI nM, xd, nI nH, A, R, K, S, xY, P, E)
  | some (Cn, H, T') => ∀ A R K S P E : Nat → Int32, hk_tb T' A R → hk_h K S (32 + nH * 4) Cn → hk_hs (hk_h K S) (32 + nH * 4 + 1) H → hk_fr (fun s => 32 + nH * 4 ≤ s) xK xS K S → P nH = nI H.length → (∀ h, h ≠ nH → P h = xP h) →
      post (nI nH) (nI T'.1, xc, nI nM, xd, nI (nH + 1), A, R, K, S, xY, P, E)
theorem zx_up {post Q : Int32 → SX → Prop} {o : hk_O} (hQ : ∀ (r : Int32) (xn xc xm xd xh : Int32) (xA xR xK xS xY xP xE : Nat → Int32), wX_rule_188 post r xn xc xm xd xh xA xR xK xS xY xP xE → Q r (xn, xc, xm, xd, xh, xA, xR, xK, xS, xY, xP, xE)) (k : zx_K post T nM nH xc xd xK xS xY xP o) : xr_K Q T nM nH xc xd xK xS xY (upd xP nH 0) o := by
  cases o with
  | none =>
    intro A R K S P E hb f p
    exact hQ _ _ _ _ _ _ _ _ _ _ _ _ _ (br_t rfl (k A R K S P E hb f (fun h hne => (p h hne).trans (pk_un hne))))
  | some q =>
    obtain ⟨Cn, H, T'⟩ := q
    intro A R K S P E hb h1 h2 f p1 p2
    refine hQ _ _ _ _ _ _ _ _ _ _ _ _ _ (br_f (by decide) (nm_r (nI_1 _) ?_))
    rw [nI_pred]
    exact k A R K S P E hb h1 h2 f p1 (fun h hne => (p2 h hne).trans (pk_un hne))
theorem zy_up {post Q : Int32 → SY → Prop} {o : hk_O} (hQ : ∀ (r : Int32) (y1 y2 y3 y4 y5 yn ym yh yc yd yw yl yk ye yp yq yr ys : Int32) (yM yL yY yA yR yP : Nat → Int32), post r (y1, y2, y3, y4, y5, yn, ym, yh, yc, yd, yw, yl, yk, ye, yp, yq, yr, ys, yM, yL, yY, yA, yR, yP) → Q r (y1, y2, y3, y4, y5, yn, ym, yh, yc, yd, yw, yl, yk, ye, yp, yq, yr, ys, yM, yL, yY, yA, yR, yP)) (k : yr_K post T nM nH y1 y2 y3 y4 y5 yc yd yM yL yY yP o) : yr_K Q T nM nH y1 y2 y3 y4 y5 yc yd yM yL yY yP o := by
  cases o with
  | none =>
    intro A R M L w1 w2 w3 w4 w5 w6 w7 w8 hb f
    exact hQ _ _ _ _ _ _ _ _ _ _ _ _ _ _ _ _ _ _ _ _ _ _ _ _ _ (k A R M L w1 w2 w3 w4 w5 w6 w7 w8 hb f)
  | some q =>
    obtain ⟨Cn, H, T'⟩ := q
    intro A R M L w1 w2 w3 w4 w5 w6 w7 w8 hb h1 h2 f
    exact hQ _ _ _ _ _ _ _ _ _ _ _ _ _ _ _ _ _ _ _ _ _ _ _ _ _ (k A R M L w1 w2 w3 w4 w5 w6 w7 w8 hb h1 h2 f)
theorem hk_R_zero (J : hk_I T nM TY nH HC G cM cH) (RX : hk_R T nM TY nH HC G xA xR xY xP (hk_h xK xS)) : hk_R T nM TY nH HC G xA xR xY (upd xP nH 0) (hk_h xK xS) :=
  hk_R_keep RX RX.1 (fun s l _ h => h) (fun h hne => pk_un hne) (by have := J.2.1; have := J.2.2.1; omega) (fun h hh => (J.2.2.2.2.2.2 h hh).1)
theorem vr_refl (J : hk_I T nM TY nH HC G cM cH) (RX : hk_R T nM TY nH HC G xA xR xY xP (hk_h xK xS)) (RY : hk_R T nM TY nH HC G yA yR yY yP (hk_hy yM yL)) (hH : nH < cH) (v2 v3 v4 : Int32) :
    ∃ o : hk_O, hk_good T o ∧ (∀ post : Int32 → SX → Prop, zx_K post T nM nH (nI cM) (nI cH) xK xS xY xP o → wpX_rule post (nI T.1, nI cM, nI nM, nI cH, nI nH, xA, xR, xK, xS, xY, xP, xE) 1 v2 v3 v4) ∧ (∀ post : Int32 → SY → Prop, yr_K post T nM nH y1 y2 y3 y4 y5 (nI cM) (nI cH) yM yL yY yP o → wpY_rule post (y1, y2, y3, y4, y5, nI T.1, nI nM, nI nH, nI cM, nI cH, yw, yl, yk, ye, yp, yq, yr, ys, yM, yL, yY, yA, yR, yP) 1 v2 v3 v4) := by
  have h5 := J.2.2.2.2.1
  have h32 := J.2.2.1
  have h2 := J.2.1
  have hn := J.1.2.1
  have R0 := hk_R_zero J RX
  rcases hk_val v2 nM with h | ⟨t, ht, rfl⟩
  · exact ⟨none, trivial, fun post k => br_t (nI_lt hH (by omega)) ⟨vp_in_nI (by omega) (by omega), nm_r (e' := upd xP nH 0) (by rw [nI_clamp (by omega)]) (br_f (by decide) (br_f (by decide) (br_t rfl (xr_refl0 RX.1 h (zx_up (fun _ _ _ _ _ _ _ _ _ _ _ _ _ h => h) k)))))⟩, fun post k => br_t (nI_lt hH (by omega)) (br_t rfl (yr_eq0 RY.1 h (zy_up (fun _ _ _ _ _ _ _ _ _ _ _ _ _ _ _ _ _ _ _ _ _ _ _ _ _ h => h) k)))⟩
  · obtain ⟨ty, g, -⟩ := J.2.2.2.2.2.1 t ht
    by_cases c : hk_fq T (TY t) (G t) (G t)
    · exact ⟨some (hk_eq (TY t) (G t) (G t), [], (hk_ie T (TY t)).2), hk_fq_good J.1 ty g g.1 g.2.2 c, fun post k => br_t (nI_lt hH (by omega)) ⟨vp_in_nI (by omega) (by omega), nm_r (e' := upd xP nH 0) (by rw [nI_clamp (by omega)]) (br_f (by decide) (br_f (by decide) (br_t rfl (xr_refl J R0 hH pk_us ht (fun _ => (zx_up (fun _ _ _ _ _ _ _ _ _ _ _ _ _ h => h) k)) (fun n => absurd c n)))))⟩, fun post k => br_t (nI_lt hH (by omega)) (br_t rfl (yr_refl J RY hH ht (fun _ => (zy_up (fun _ _ _ _ _ _ _ _ _ _ _ _ _ _ _ _ _ _ _ _ _ _ _ _ _ h => h) k)) (fun n => absurd c n)))⟩
    · exact ⟨none, trivial, fun post k => br_t (nI_lt hH (by omega)) ⟨vp_in_nI (by omega) (by omega), nm_r (e' := upd xP nH 0) (by rw [nI_clamp (by omega)]) (br_f (by decide) (br_f (by decide) (br_t rfl (xr_refl J R0 hH pk_us ht (fun c' => absurd c' c) (fun _ => (zx_up (fun _ _ _ _ _ _ _ _ _ _ _ _ _ h => h) k))))))⟩, fun post k => br_t (nI_lt hH (by omega)) (br_t rfl (yr_refl J RY hH ht (fun c' => absurd c' c) (fun _ => (zy_up (fun _ _ _ _ _ _ _ _ _ _ _ _ _ _ _ _ _ _ _ _ _ _ _ _ _ h => h) k))))⟩
theorem vr_beta (J : hk_I T nM TY nH HC G cM cH) (RX : hk_R T nM TY nH HC G xA xR xY xP (hk_h xK xS)) (RY : hk_R T nM TY nH HC G yA yR yY yP (hk_hy yM yL)) (hH : nH < cH) (v2 v3 v4 : Int32) :
    ∃ o : hk_O, hk_good T o ∧ (∀ post : Int32 → SX → Prop, zx_K post T nM nH (nI cM) (nI cH) xK xS xY xP o → wpX_rule post (nI T.1, nI cM, nI nM, nI cH, nI nH, xA, xR, xK, xS, xY, xP, xE) 5 v2 v3 v4) ∧ (∀ post : Int32 → SY → Prop, yr_K post T nM nH y1 y2 y3 y4 y5 (nI cM) (nI cH) yM yL yY yP o → wpY_rule post (y1, y2, y3, y4, y5, nI T.1, nI nM, nI nH, nI cM, nI cH, yw, yl, yk, ye, yp, yq, yr, ys, yM, yL, yY, yA, yR, yP) 5 v2 v3 v4) := by
  have h5 := J.2.2.2.2.1
  have h32 := J.2.2.1
  have h2 := J.2.1
  have hn := J.1.2.1
  have R0 := hk_R_zero J RX
  rcases hk_val v2 nM with h | ⟨t, ht, rfl⟩
  · exact ⟨none, trivial, fun post k => br_t (nI_lt hH (by omega)) ⟨vp_in_nI (by omega) (by omega), nm_r (e' := upd xP nH 0) (by rw [nI_clamp (by omega)]) (br_f (by decide) (br_f (by decide) (br_f (by decide) (br_f (by decide) (br_f (by decide) (br_f (by decide) (br_t rfl (xr_beta0 RX.1 h (zx_up (fun _ _ _ _ _ _ _ _ _ _ _ _ _ h => h) k)))))))))⟩, fun post k => br_t (nI_lt hH (by omega)) (br_f (by decide) (br_t rfl (yr_eq0 RY.1 h (zy_up (fun _ _ _ _ _ _ _ _ _ _ _ _ _ _ _ _ _ _ _ _ _ _ _ _ _ h => h) k))))⟩
  · obtain ⟨ty, g, -⟩ := J.2.2.2.2.2.1 t ht
    by_cases c : hk_rx (G t) 0 ∧ hk_fq T (TY t) (G t) (hk_con (G t) 0)
    · exact ⟨some (hk_eq (TY t) (G t) (hk_con (G t) 0), [], (hk_ie T (TY t)).2), hk_fq_good J.1 ty g (hk_con_run g.1 g.2.1 c.1) (hk_con_gc g.1 g.2.1 c.1 g.2.2) c.2, fun post k => br_t (nI_lt hH (by omega)) ⟨vp_in_nI (by omega) (by omega), nm_r (e' := upd xP nH 0) (by rw [nI_clamp (by omega)]) (br_f (by decide) (br_f (by decide) (br_f (by decide) (br_f (by decide) (br_f (by decide) (br_f (by decide) (br_t rfl (xr_beta J R0 hH pk_us ht (fun _ => (zx_up (fun _ _ _ _ _ _ _ _ _ _ _ _ _ h => h) k)) (fun n => absurd c n)))))))))⟩, fun post k => br_t (nI_lt hH (by omega)) (br_f (by decide) (br_t rfl (yr_beta J RY hH ht (fun _ => (zy_up (fun _ _ _ _ _ _ _ _ _ _ _ _ _ _ _ _ _ _ _ _ _ _ _ _ _ h => h) k)) (fun n => absurd c n))))⟩
    · exact ⟨none, trivial, fun post k => br_t (nI_lt hH (by omega)) ⟨vp_in_nI (by omega) (by omega), nm_r (e' := upd xP nH 0) (by rw [nI_clamp (by omega)]) (br_f (by decide) (br_f (by decide) (br_f (by decide) (br_f (by decide) (br_f (by decide) (br_f (by decide) (br_t rfl (xr_beta J R0 hH pk_us ht (fun c' => absurd c' c) (fun _ => (zx_up (fun _ _ _ _ _ _ _ _ _ _ _ _ _ h => h) k))))))))))⟩, fun post k => br_t (nI_lt hH (by omega)) (br_f (by decide) (br_t rfl (yr_beta J RY hH ht (fun c' => absurd c' c) (fun _ => (zy_up (fun _ _ _ _ _ _ _ _ _ _ _ _ _ _ _ _ _ _ _ _ _ _ _ _ _ h => h) k)))))⟩
theorem vr_norm (J : hk_I T nM TY nH HC G cM cH) (RX : hk_R T nM TY nH HC G xA xR xY xP (hk_h xK xS)) (RY : hk_R T nM TY nH HC G yA yR yY yP (hk_hy yM yL)) (hH : nH < cH) (v2 v3 v4 : Int32) :
    ∃ o : hk_O, hk_good T o ∧ (∀ post : Int32 → SX → Prop, zx_K post T nM nH (nI cM) (nI cH) xK xS xY xP o → wpX_rule post (nI T.1, nI cM, nI nM, nI cH, nI nH, xA, xR, xK, xS, xY, xP, xE) 6 v2 v3 v4) ∧ (∀ post : Int32 → SY → Prop, yr_K post T nM nH y1 y2 y3 y4 y5 (nI cM) (nI cH) yM yL yY yP o → wpY_rule post (y1, y2, y3, y4, y5, nI T.1, nI nM, nI nH, nI cM, nI cH, yw, yl, yk, ye, yp, yq, yr, ys, yM, yL, yY, yA, yR, yP) 6 v2 v3 v4) := by
  have h5 := J.2.2.2.2.1
  have h32 := J.2.2.1
  have h2 := J.2.1
  have hn := J.1.2.1
  have R0 := hk_R_zero J RX
  rcases hk_val v2 nM with h | ⟨t, ht, rfl⟩
  · exact ⟨none, trivial, fun post k => br_t (nI_lt hH (by omega)) ⟨vp_in_nI (by omega) (by omega), nm_r (e' := upd xP nH 0) (by rw [nI_clamp (by omega)]) (br_f (by decide) (br_f (by decide) (br_f (by decide) (br_f (by decide) (br_f (by decide) (br_f (by decide) (br_f (by decide) (br_t rfl (xr_norm0 RX.1 h (zx_up (fun _ _ _ _ _ _ _ _ _ _ _ _ _ h => h) k))))))))))⟩, fun post k => br_t (nI_lt hH (by omega)) (br_f (by decide) (br_f (by decide) (br_t rfl (yr_eq0 RY.1 h (zy_up (fun _ _ _ _ _ _ _ _ _ _ _ _ _ _ _ _ _ _ _ _ _ _ _ _ _ h => h) k)))))⟩
  · obtain ⟨ty, g, -⟩ := J.2.2.2.2.2.1 t ht
    by_cases c : ∃ r, hk_nf 64 (G t) = some r ∧ hk_fq T (TY t) (G t) r
    · obtain ⟨r, hr, cq⟩ := c
      have gr := hk_nf_gt g hr
      have same : ∀ q, hk_nf 64 (G t) = some q → q = r := fun q hq => by rw [hr] at hq; cases hq; rfl
      exact ⟨some (hk_eq (TY t) (G t) r, [], (hk_ie T (TY t)).2), hk_fq_good J.1 ty g gr.1 gr.2.2 cq, fun post k => br_t (nI_lt hH (by omega)) ⟨vp_in_nI (by omega) (by omega), nm_r (e' := upd xP nH 0) (by rw [nI_clamp (by omega)]) (br_f (by decide) (br_f (by decide) (br_f (by decide) (br_f (by decide) (br_f (by decide) (br_f (by decide) (br_f (by decide) (br_t rfl (xr_norm J R0 hH pk_us ht (fun q hq _ => by rw [same q hq]; exact (zx_up (fun _ _ _ _ _ _ _ _ _ _ _ _ _ h => h) k)) (fun n => absurd cq (n r hr)))))))))))⟩, fun post k => br_t (nI_lt hH (by omega)) (br_f (by decide) (br_f (by decide) (br_t rfl (yr_norm J RY hH ht (fun q hq _ => by rw [same q hq]; exact (zy_up (fun _ _ _ _ _ _ _ _ _ _ _ _ _ _ _ _ _ _ _ _ _ _ _ _ _ h => h) k)) (fun n => absurd cq (n r hr))))))⟩
    · exact ⟨none, trivial, fun post k => br_t (nI_lt hH (by omega)) ⟨vp_in_nI (by omega) (by omega), nm_r (e' := upd xP nH 0) (by rw [nI_clamp (by omega)]) (br_f (by decide) (br_f (by decide) (br_f (by decide) (br_f (by decide) (br_f (by decide) (br_f (by decide) (br_f (by decide) (br_t rfl (xr_norm J R0 hH pk_us ht (fun q hq cq => absurd ⟨q, hq, cq⟩ c) (fun _ => (zx_up (fun _ _ _ _ _ _ _ _ _ _ _ _ _ h => h) k)))))))))))⟩, fun post k => br_t (nI_lt hH (by omega)) (br_f (by decide) (br_f (by decide) (br_t rfl (yr_norm J RY hH ht (fun q hq cq => absurd ⟨q, hq, cq⟩ c) (fun _ => (zy_up (fun _ _ _ _ _ _ _ _ _ _ _ _ _ _ _ _ _ _ _ _ _ _ _ _ _ h => h) k))))))⟩
theorem yr_assume {post : Int32 → SY → Prop} {t : Nat} {v3 v4 : Int32} (J : hk_I T nM TY nH HC G cM cH) (RY : hk_R T nM TY nH HC G yA yR yY yP (hk_hy yM yL)) (hH : nH < cH) (ht : t < nM)
    (k1 : TY t = 0 → yr_K post T nM nH y1 y2 y3 y4 y5 (nI cM) (nI cH) yM yL yY yP (some (G t, [G t], T))) (k0 : TY t ≠ 0 → yr_K post T nM nH y1 y2 y3 y4 y5 (nI cM) (nI cH) yM yL yY yP none) : wpY_rule post (y1, y2, y3, y4, y5, nI T.1, nI nM, nI nH, nI cM, nI cH, yw, yl, yk, ye, yp, yq, yr, ys, yM, yL, yY, yA, yR, yP) 7 (nI t) v3 v4 := by
  obtain ⟨i1, i2, i3, i4, i5, i6, i7⟩ := J
  obtain ⟨r1, r2, r3⟩ := RY
  obtain ⟨ty, g, -⟩ := i6 t ht
  obtain ⟨eY, eh⟩ := r2 t ht
  have hn := i1.2.1
  have l32 := g.2.1
  have V : vp_in (nI t) 110 := vp_in_nI (by omega) (by omega)
  refine br_t (nI_lt hH (by omega)) (br_f (by decide) (br_f (by decide) (br_f (by decide) (br_f (by decide) (br_f (by decide) (br_f (by decide) (br_t rfl (hk_ok1 (by omega) ht (br_f (by decide) ⟨vp_in_nI (by omega) (by omega), ?_⟩)))))))))
  have eYc : yY (nI t).toNatClampNeg = nI (TY t) := by rw [nI_clamp (by omega)]; exact eY
  rw [eYc]
  refine pk_eq (TY t) 0 (fun z => ?_) (fun z => k0 z yA yR yM yL yw yl _ ye yp yq yr ys r1 hk_fr_r)
  refine ya_begin (o := 96) (by omega) (fun L1 q1 f1 => ⟨V, ?_⟩)
  have t1 := hk_fr_hy f1 (s := t) (by omega) eh
  refine ya_all (by omega) (by omega) (by omega) l32 q1 t1 (by decide) (hk_szy t1 (by omega) l32) (fun M2 L2 q2 f2 => ?_)
  have f12 := hk_fr_t f1 f2
  refine ya_begin (o := 97) (by omega) (fun L3 q3 f3 => ⟨V, ?_⟩)
  have t3 := hk_fr_hy f3 (s := t) (by omega) (hk_fr_hy f12 (s := t) (by omega) eh)
  refine ya_all (by omega) (by omega) (by omega) l32 q3 t3 (by decide) (hk_szy t3 (by omega) l32) (fun M4 L4 q4 f4 => ?_)
  have f34 := hk_fr_t f3 f4
  have F := hk_fr_t (hk_fr_w (V := fun s => 32 + nH * 4 ≤ s) f12 (fun s e => by have e : s = 96 := e; omega)) (hk_fr_w (V := fun s => 32 + nH * 4 ≤ s) f34 (fun s e => by have e : s = 97 := e; omega))
  refine ya_commit (Cn := G t) (H := [G t]) (by omega) l32 (by show 1 ≤ 3; decide) (fun y hy => by rw [List.mem_singleton.mp hy]; exact l32) (hk_fr_hy f34 (by omega) q2) (fun i hi => ?_) rfl (fun M5 L5 w5 wl5 h5 h6 f5 => ?_)
  · have hi : i < 1 := hi
    have e : i = 0 := by omega
    subst e
    exact q4
  · exact k1 z yA yR M5 L5 w5 wl5 _ ye yp yq yr ys r1 h5 h6 (hk_fr_t F (hk_fr_w f5 (fun s e => e.1)))
theorem vr_assume (J : hk_I T nM TY nH HC G cM cH) (RX : hk_R T nM TY nH HC G xA xR xY xP (hk_h xK xS)) (RY : hk_R T nM TY nH HC G yA yR yY yP (hk_hy yM yL)) (hH : nH < cH) (v2 v3 v4 : Int32) :
    ∃ o : hk_O, hk_good T o ∧ (∀ post : Int32 → SX → Prop, zx_K post T nM nH (nI cM) (nI cH) xK xS xY xP o → wpX_rule post (nI T.1, nI cM, nI nM, nI cH, nI nH, xA, xR, xK, xS, xY, xP, xE) 7 v2 v3 v4) ∧ (∀ post : Int32 → SY → Prop, yr_K post T nM nH y1 y2 y3 y4 y5 (nI cM) (nI cH) yM yL yY yP o → wpY_rule post (y1, y2, y3, y4, y5, nI T.1, nI nM, nI nH, nI cM, nI cH, yw, yl, yk, ye, yp, yq, yr, ys, yM, yL, yY, yA, yR, yP) 7 v2 v3 v4) := by
  have h5 := J.2.2.2.2.1
  have h32 := J.2.2.1
  have h2 := J.2.1
  have hn := J.1.2.1
  have R0 := hk_R_zero J RX
  rcases hk_val v2 nM with h | ⟨t, ht, rfl⟩
  · exact ⟨none, trivial, fun post k => br_t (nI_lt hH (by omega)) ⟨vp_in_nI (by omega) (by omega), nm_r (e' := upd xP nH 0) (by rw [nI_clamp (by omega)]) (br_f (by decide) (br_f (by decide) (br_f (by decide) (br_f (by decide) (br_f (by decide) (br_f (by decide) (br_f (by decide) (br_f (by decide) (br_t rfl (xr_assume0 RX.1 h (zx_up (fun _ _ _ _ _ _ _ _ _ _ _ _ _ h => h) k)))))))))))⟩, fun post k => br_t (nI_lt hH (by omega)) (br_f (by decide) (br_f (by decide) (br_f (by decide) (br_f (by decide) (br_f (by decide) (br_f (by decide) (br_t rfl (hk_ok0 h (br_t rfl (k yA yR yM yL yw yl _ ye yp yq yr ys RY.1 hk_fr_r))))))))))⟩
  · obtain ⟨ty, g, -⟩ := J.2.2.2.2.2.1 t ht
    by_cases c : TY t = 0
    · exact ⟨some (G t, [G t], T), ⟨g, fun y hy => by rw [List.mem_singleton.mp hy]; exact g, by show 1 ≤ 3; decide, J.1, Nat.le_refl _⟩, fun post k => br_t (nI_lt hH (by omega)) ⟨vp_in_nI (by omega) (by omega), nm_r (e' := upd xP nH 0) (by rw [nI_clamp (by omega)]) (br_f (by decide) (br_f (by decide) (br_f (by decide) (br_f (by decide) (br_f (by decide) (br_f (by decide) (br_f (by decide) (br_f (by decide) (br_t rfl (xr_assume J R0 hH pk_us ht (fun _ => (zx_up (fun _ _ _ _ _ _ _ _ _ _ _ _ _ h => h) k)) (fun n => absurd c n)))))))))))⟩, fun post k => yr_assume J RY hH ht (fun _ => k) (fun n => absurd c n)⟩
    · exact ⟨none, trivial, fun post k => br_t (nI_lt hH (by omega)) ⟨vp_in_nI (by omega) (by omega), nm_r (e' := upd xP nH 0) (by rw [nI_clamp (by omega)]) (br_f (by decide) (br_f (by decide) (br_f (by decide) (br_f (by decide) (br_f (by decide) (br_f (by decide) (br_f (by decide) (br_f (by decide) (br_t rfl (xr_assume J R0 hH pk_us ht (fun c' => absurd c' c) (fun _ => (zx_up (fun _ _ _ _ _ _ _ _ _ _ _ _ _ h => h) k))))))))))))⟩, fun post k => yr_assume J RY hH ht (fun c' => absurd c' c) (fun _ => k)⟩
theorem vr_trans (J : hk_I T nM TY nH HC G cM cH) (RX : hk_R T nM TY nH HC G xA xR xY xP (hk_h xK xS)) (RY : hk_R T nM TY nH HC G yA yR yY yP (hk_hy yM yL)) (hH : nH < cH) (v2 v3 v4 : Int32) :
    ∃ o : hk_O, hk_good T o ∧ (∀ post : Int32 → SX → Prop, zx_K post T nM nH (nI cM) (nI cH) xK xS xY xP o → wpX_rule post (nI T.1, nI cM, nI nM, nI cH, nI nH, xA, xR, xK, xS, xY, xP, xE) 2 v2 v3 v4) ∧ (∀ post : Int32 → SY → Prop, yr_K post T nM nH y1 y2 y3 y4 y5 (nI cM) (nI cH) yM yL yY yP o → wpY_rule post (y1, y2, y3, y4, y5, nI T.1, nI nM, nI nH, nI cM, nI cH, yw, yl, yk, ye, yp, yq, yr, ys, yM, yL, yY, yA, yR, yP) 2 v2 v3 v4) := by
  have h5 := J.2.2.2.2.1
  have h32 := J.2.2.1
  have h2 := J.2.1
  have hn := J.1.2.1
  have R0 := hk_R_zero J RX
  rcases hk_val v2 nH with h | ⟨a, ha, rfl⟩
  · exact ⟨none, trivial, fun post k => br_t (nI_lt hH (by omega)) ⟨vp_in_nI (by omega) (by omega), nm_r (e' := upd xP nH 0) (by rw [nI_clamp (by omega)]) (br_f (by decide) (br_f (by decide) (br_f (by decide) (br_t rfl (xz_trans0 RX.1 h (zx_up (fun _ _ _ _ _ _ _ _ _ _ _ _ _ h => h) k))))))⟩, fun post k => br_t (nI_lt hH (by omega)) (br_f (by decide) (br_f (by decide) (br_f (by decide) (br_t rfl (yz_trans0 RY.1 h (zy_up (fun _ _ _ _ _ _ _ _ _ _ _ _ _ _ _ _ _ _ _ _ _ _ _ _ _ h => h) k))))))⟩
  obtain ⟨lA, gA, gcA⟩ := hk_I_hs J ha
  obtain ⟨sA, pA, cA⟩ := hk_R_hs RX ha
  rcases hk_val v3 nH with h | ⟨b, hb, rfl⟩
  · exact ⟨none, trivial, fun post k => br_t (nI_lt hH (by omega)) ⟨vp_in_nI (by omega) (by omega), nm_r (e' := upd xP nH 0) (by rw [nI_clamp (by omega)]) (br_f (by decide) (br_f (by decide) (br_f (by decide) (br_t rfl (xz_trans1 RX.1 (by omega) ha cA gcA h (zx_up (fun _ _ _ _ _ _ _ _ _ _ _ _ _ h => h) k))))))⟩, fun post k => br_t (nI_lt hH (by omega)) (br_f (by decide) (br_f (by decide) (br_f (by decide) (br_t rfl (yz_trans1 RY.1 (by omega) ha h (zy_up (fun _ _ _ _ _ _ _ _ _ _ _ _ _ _ _ _ _ _ _ _ _ _ _ _ _ h => h) k))))))⟩
  obtain ⟨lB, gB, gcB⟩ := hk_I_hs J hb
  have gU : ∀ y, y ∈ hk_un [] ((hk_H G (32 + a * 4 + 1) (HC a)) ++ (hk_H G (32 + b * 4 + 1) (HC b))) → hk_gt T.1 y := hk_un_gt hk_nilm (fun y hy => (List.mem_append.mp hy).elim (gA y) (gB y))
  by_cases c : vc_trans (G (32 + a * 4)) (G (32 + b * 4)) (hk_H G (32 + a * 4 + 1) (HC a)) (hk_H G (32 + b * 4 + 1) (HC b))
  · refine ⟨some (vl_trans (G (32 + a * 4)) (G (32 + b * 4)), hk_un [] ((hk_H G (32 + a * 4 + 1) (HC a)) ++ (hk_H G (32 + b * 4 + 1) (HC b))), T), ⟨vg_trans hn gcA gcB c.1 c.2.1 c.2.2.2.1, gU, c.2.2.2.2, J.1, Nat.le_refl _⟩, fun post k => br_t (nI_lt hH (by omega)) ⟨vp_in_nI (by omega) (by omega), nm_r (e' := upd xP nH 0) (by rw [nI_clamp (by omega)]) (br_f (by decide) (br_f (by decide) (br_f (by decide) (br_t rfl (xr_trans J R0 hH pk_us ha hb rfl rfl  (fun _ => (zx_up (fun _ _ _ _ _ _ _ _ _ _ _ _ _ h => h) k)) (fun n => absurd c n))))))⟩, fun post k => br_t (nI_lt hH (by omega)) (br_f (by decide) (br_f (by decide) (br_f (by decide) (br_t rfl (yr_trans J RY hH ha hb rfl rfl  (fun _ => (zy_up (fun _ _ _ _ _ _ _ _ _ _ _ _ _ _ _ _ _ _ _ _ _ _ _ _ _ h => h) k)) (fun n => absurd c n))))))⟩
  · exact ⟨none, trivial, fun post k => br_t (nI_lt hH (by omega)) ⟨vp_in_nI (by omega) (by omega), nm_r (e' := upd xP nH 0) (by rw [nI_clamp (by omega)]) (br_f (by decide) (br_f (by decide) (br_f (by decide) (br_t rfl (xr_trans J R0 hH pk_us ha hb rfl rfl  (fun c' => absurd c' c) (fun _ => (zx_up (fun _ _ _ _ _ _ _ _ _ _ _ _ _ h => h) k)))))))⟩, fun post k => br_t (nI_lt hH (by omega)) (br_f (by decide) (br_f (by decide) (br_f (by decide) (br_t rfl (yr_trans J RY hH ha hb rfl rfl  (fun c' => absurd c' c) (fun _ => (zy_up (fun _ _ _ _ _ _ _ _ _ _ _ _ _ _ _ _ _ _ _ _ _ _ _ _ _ h => h) k)))))))⟩
theorem vr_combg {la lb : List Nat} {HA HB : List (List Nat)} (J : hk_I T nM TY nH HC G cM cH) (ga : hk_gt T.1 la) (gb : hk_gt T.1 lb) (gU : ∀ y, y ∈ hk_un [] (HA ++ HB) → hk_gt T.1 y) (c : vc_comb T (T.2.2 (hk_c la 2 % 256)) la lb HA HB) : hk_good T (some (vl_comb (T.2.2 (hk_c la 2 % 256)) la lb, hk_un [] (HA ++ HB), (hk_ie T (T.2.2 (hk_c la 2 % 256))).2)) := by
  obtain ⟨-, -, -, -, fT, fT2, -, -⟩ := hk_ise_sides ga c.1
  have cT := (J.1.2.2.2.2.2.2 _ c.2.2.1 fT).2
  obtain ⟨i1, i2, i3⟩ := hk_ie_ok J.1 cT
  exact ⟨hk_gt_mono (vg_comb J.1.2.1 cT ga gb c.1 c.2.1 c.2.2.2.2.1) i2, fun y hy => hk_gt_mono (gU y hy) i2, c.2.2.2.2.2.1, i1, i2⟩
theorem vr_comb (J : hk_I T nM TY nH HC G cM cH) (RX : hk_R T nM TY nH HC G xA xR xY xP (hk_h xK xS)) (RY : hk_R T nM TY nH HC G yA yR yY yP (hk_hy yM yL)) (hH : nH < cH) (v2 v3 v4 : Int32) :
    ∃ o : hk_O, hk_good T o ∧ (∀ post : Int32 → SX → Prop, zx_K post T nM nH (nI cM) (nI cH) xK xS xY xP o → wpX_rule post (nI T.1, nI cM, nI nM, nI cH, nI nH, xA, xR, xK, xS, xY, xP, xE) 3 v2 v3 v4) ∧ (∀ post : Int32 → SY → Prop, yr_K post T nM nH y1 y2 y3 y4 y5 (nI cM) (nI cH) yM yL yY yP o → wpY_rule post (y1, y2, y3, y4, y5, nI T.1, nI nM, nI nH, nI cM, nI cH, yw, yl, yk, ye, yp, yq, yr, ys, yM, yL, yY, yA, yR, yP) 3 v2 v3 v4) := by
  have h5 := J.2.2.2.2.1
  have h32 := J.2.2.1
  have h2 := J.2.1
  have hn := J.1.2.1
  have R0 := hk_R_zero J RX
  rcases hk_val v2 nH with h | ⟨a, ha, rfl⟩
  · exact ⟨none, trivial, fun post k => br_t (nI_lt hH (by omega)) ⟨vp_in_nI (by omega) (by omega), nm_r (e' := upd xP nH 0) (by rw [nI_clamp (by omega)]) (br_f (by decide) (br_f (by decide) (br_f (by decide) (br_f (by decide) (br_t rfl (xz_comb0 RX.1 h (zx_up (fun _ _ _ _ _ _ _ _ _ _ _ _ _ h => h) k)))))))⟩, fun post k => br_t (nI_lt hH (by omega)) (br_f (by decide) (br_f (by decide) (br_f (by decide) (br_f (by decide) (br_t rfl (yz_comb0 RY.1 h (zy_up (fun _ _ _ _ _ _ _ _ _ _ _ _ _ _ _ _ _ _ _ _ _ _ _ _ _ h => h) k)))))))⟩
  obtain ⟨lA, gA, gcA⟩ := hk_I_hs J ha
  obtain ⟨sA, pA, cA⟩ := hk_R_hs RX ha
  rcases hk_val v3 nH with h | ⟨b, hb, rfl⟩
  · exact ⟨none, trivial, fun post k => br_t (nI_lt hH (by omega)) ⟨vp_in_nI (by omega) (by omega), nm_r (e' := upd xP nH 0) (by rw [nI_clamp (by omega)]) (br_f (by decide) (br_f (by decide) (br_f (by decide) (br_f (by decide) (br_t rfl (xz_comb1 RX.1 (by omega) ha cA gcA h (zx_up (fun _ _ _ _ _ _ _ _ _ _ _ _ _ h => h) k)))))))⟩, fun post k => br_t (nI_lt hH (by omega)) (br_f (by decide) (br_f (by decide) (br_f (by decide) (br_f (by decide) (br_t rfl (yz_comb1 RY.1 (by omega) ha h (zy_up (fun _ _ _ _ _ _ _ _ _ _ _ _ _ _ _ _ _ _ _ _ _ _ _ _ _ h => h) k)))))))⟩
  obtain ⟨lB, gB, gcB⟩ := hk_I_hs J hb
  have gU : ∀ y, y ∈ hk_un [] ((hk_H G (32 + a * 4 + 1) (HC a)) ++ (hk_H G (32 + b * 4 + 1) (HC b))) → hk_gt T.1 y := hk_un_gt hk_nilm (fun y hy => (List.mem_append.mp hy).elim (gA y) (gB y))
  by_cases c : vc_comb T (T.2.2 (hk_c (G (32 + a * 4)) 2 % 256)) (G (32 + a * 4)) (G (32 + b * 4)) (hk_H G (32 + a * 4 + 1) (HC a)) (hk_H G (32 + b * 4 + 1) (HC b))
  · refine ⟨some (vl_comb (T.2.2 (hk_c (G (32 + a * 4)) 2 % 256)) (G (32 + a * 4)) (G (32 + b * 4)), hk_un [] ((hk_H G (32 + a * 4 + 1) (HC a)) ++ (hk_H G (32 + b * 4 + 1) (HC b))), (hk_ie T (T.2.2 (hk_c (G (32 + a * 4)) 2 % 256))).2), vr_combg J gcA gcB gU c, fun post k => br_t (nI_lt hH (by omega)) ⟨vp_in_nI (by omega) (by omega), nm_r (e' := upd xP nH 0) (by rw [nI_clamp (by omega)]) (br_f (by decide) (br_f (by decide) (br_f (by decide) (br_f (by decide) (br_t rfl (xr_comb J R0 hH pk_us ha hb rfl rfl rfl (fun _ => (zx_up (fun _ _ _ _ _ _ _ _ _ _ _ _ _ h => h) k)) (fun n => absurd c n)))))))⟩, fun post k => br_t (nI_lt hH (by omega)) (br_f (by decide) (br_f (by decide) (br_f (by decide) (br_f (by decide) (br_t rfl (yr_comb J RY hH ha hb rfl rfl rfl (fun _ => (zy_up (fun _ _ _ _ _ _ _ _ _ _ _ _ _ _ _ _ _ _ _ _ _ _ _ _ _ h => h) k)) (fun n => absurd c n)))))))⟩
  · exact ⟨none, trivial, fun post k => br_t (nI_lt hH (by omega)) ⟨vp_in_nI (by omega) (by omega), nm_r (e' := upd xP nH 0) (by rw [nI_clamp (by omega)]) (br_f (by decide) (br_f (by decide) (br_f (by decide) (br_f (by decide) (br_t rfl (xr_comb J R0 hH pk_us ha hb rfl rfl rfl (fun c' => absurd c' c) (fun _ => (zx_up (fun _ _ _ _ _ _ _ _ _ _ _ _ _ h => h) k))))))))⟩, fun post k => br_t (nI_lt hH (by omega)) (br_f (by decide) (br_f (by decide) (br_f (by decide) (br_f (by decide) (br_t rfl (yr_comb J RY hH ha hb rfl rfl rfl (fun c' => absurd c' c) (fun _ => (zy_up (fun _ _ _ _ _ _ _ _ _ _ _ _ _ _ _ _ _ _ _ _ _ _ _ _ _ h => h) k))))))))⟩
theorem vr_mp (J : hk_I T nM TY nH HC G cM cH) (RX : hk_R T nM TY nH HC G xA xR xY xP (hk_h xK xS)) (RY : hk_R T nM TY nH HC G yA yR yY yP (hk_hy yM yL)) (hH : nH < cH) (v2 v3 v4 : Int32) :
    ∃ o : hk_O, hk_good T o ∧ (∀ post : Int32 → SX → Prop, zx_K post T nM nH (nI cM) (nI cH) xK xS xY xP o → wpX_rule post (nI T.1, nI cM, nI nM, nI cH, nI nH, xA, xR, xK, xS, xY, xP, xE) 8 v2 v3 v4) ∧ (∀ post : Int32 → SY → Prop, yr_K post T nM nH y1 y2 y3 y4 y5 (nI cM) (nI cH) yM yL yY yP o → wpY_rule post (y1, y2, y3, y4, y5, nI T.1, nI nM, nI nH, nI cM, nI cH, yw, yl, yk, ye, yp, yq, yr, ys, yM, yL, yY, yA, yR, yP) 8 v2 v3 v4) := by
  have h5 := J.2.2.2.2.1
  have h32 := J.2.2.1
  have h2 := J.2.1
  have hn := J.1.2.1
  have R0 := hk_R_zero J RX
  rcases hk_val v2 nH with h | ⟨a, ha, rfl⟩
  · exact ⟨none, trivial, fun post k => br_t (nI_lt hH (by omega)) ⟨vp_in_nI (by omega) (by omega), nm_r (e' := upd xP nH 0) (by rw [nI_clamp (by omega)]) (br_f (by decide) (br_f (by decide) (br_f (by decide) (br_f (by decide) (br_f (by decide) (br_f (by decide) (br_f (by decide) (br_f (by decide) (br_f (by decide) (br_t rfl (xz_mp0 RX.1 h (zx_up (fun _ _ _ _ _ _ _ _ _ _ _ _ _ h => h) k))))))))))))⟩, fun post k => br_t (nI_lt hH (by omega)) (br_f (by decide) (br_f (by decide) (br_f (by decide) (br_f (by decide) (br_f (by decide) (br_f (by decide) (br_f (by decide) (br_t rfl (yz_mp0 RY.1 h (zy_up (fun _ _ _ _ _ _ _ _ _ _ _ _ _ _ _ _ _ _ _ _ _ _ _ _ _ h => h) k))))))))))⟩
  obtain ⟨lA, gA, gcA⟩ := hk_I_hs J ha
  obtain ⟨sA, pA, cA⟩ := hk_R_hs RX ha
  rcases hk_val v3 nH with h | ⟨b, hb, rfl⟩
  · exact ⟨none, trivial, fun post k => br_t (nI_lt hH (by omega)) ⟨vp_in_nI (by omega) (by omega), nm_r (e' := upd xP nH 0) (by rw [nI_clamp (by omega)]) (br_f (by decide) (br_f (by decide) (br_f (by decide) (br_f (by decide) (br_f (by decide) (br_f (by decide) (br_f (by decide) (br_f (by decide) (br_f (by decide) (br_t rfl (xz_mp1 RX.1 (by omega) ha cA gcA h (zx_up (fun _ _ _ _ _ _ _ _ _ _ _ _ _ h => h) k))))))))))))⟩, fun post k => br_t (nI_lt hH (by omega)) (br_f (by decide) (br_f (by decide) (br_f (by decide) (br_f (by decide) (br_f (by decide) (br_f (by decide) (br_f (by decide) (br_t rfl (yz_mp1 RY.1 (by omega) ha h (zy_up (fun _ _ _ _ _ _ _ _ _ _ _ _ _ _ _ _ _ _ _ _ _ _ _ _ _ h => h) k))))))))))⟩
  obtain ⟨lB, gB, gcB⟩ := hk_I_hs J hb
  have gU : ∀ y, y ∈ hk_un [] ((hk_H G (32 + a * 4 + 1) (HC a)) ++ (hk_H G (32 + b * 4 + 1) (HC b))) → hk_gt T.1 y := hk_un_gt hk_nilm (fun y hy => (List.mem_append.mp hy).elim (gA y) (gB y))
  by_cases c : vc_mp (G (32 + a * 4)) (G (32 + b * 4)) (hk_H G (32 + a * 4 + 1) (HC a)) (hk_H G (32 + b * 4 + 1) (HC b))
  · refine ⟨some (vl_mp (G (32 + a * 4)), hk_un [] ((hk_H G (32 + a * 4 + 1) (HC a)) ++ (hk_H G (32 + b * 4 + 1) (HC b))), T), ⟨vg_mp gcA c.1, gU, c.2.2, J.1, Nat.le_refl _⟩, fun post k => br_t (nI_lt hH (by omega)) ⟨vp_in_nI (by omega) (by omega), nm_r (e' := upd xP nH 0) (by rw [nI_clamp (by omega)]) (br_f (by decide) (br_f (by decide) (br_f (by decide) (br_f (by decide) (br_f (by decide) (br_f (by decide) (br_f (by decide) (br_f (by decide) (br_f (by decide) (br_t rfl (xr_mp J R0 hH pk_us ha hb rfl rfl  (fun _ => (zx_up (fun _ _ _ _ _ _ _ _ _ _ _ _ _ h => h) k)) (fun n => absurd c n))))))))))))⟩, fun post k => br_t (nI_lt hH (by omega)) (br_f (by decide) (br_f (by decide) (br_f (by decide) (br_f (by decide) (br_f (by decide) (br_f (by decide) (br_f (by decide) (br_t rfl (yr_mp J RY hH ha hb rfl rfl  (fun _ => (zy_up (fun _ _ _ _ _ _ _ _ _ _ _ _ _ _ _ _ _ _ _ _ _ _ _ _ _ h => h) k)) (fun n => absurd c n))))))))))⟩
  · exact ⟨none, trivial, fun post k => br_t (nI_lt hH (by omega)) ⟨vp_in_nI (by omega) (by omega), nm_r (e' := upd xP nH 0) (by rw [nI_clamp (by omega)]) (br_f (by decide) (br_f (by decide) (br_f (by decide) (br_f (by decide) (br_f (by decide) (br_f (by decide) (br_f (by decide) (br_f (by decide) (br_f (by decide) (br_t rfl (xr_mp J R0 hH pk_us ha hb rfl rfl  (fun c' => absurd c' c) (fun _ => (zx_up (fun _ _ _ _ _ _ _ _ _ _ _ _ _ h => h) k)))))))))))))⟩, fun post k => br_t (nI_lt hH (by omega)) (br_f (by decide) (br_f (by decide) (br_f (by decide) (br_f (by decide) (br_f (by decide) (br_f (by decide) (br_f (by decide) (br_t rfl (yr_mp J RY hH ha hb rfl rfl  (fun c' => absurd c' c) (fun _ => (zy_up (fun _ _ _ _ _ _ _ _ _ _ _ _ _ _ _ _ _ _ _ _ _ _ _ _ _ h => h) k)))))))))))⟩
theorem vr_ded (J : hk_I T nM TY nH HC G cM cH) (RX : hk_R T nM TY nH HC G xA xR xY xP (hk_h xK xS)) (RY : hk_R T nM TY nH HC G yA yR yY yP (hk_hy yM yL)) (hH : nH < cH) (v2 v3 v4 : Int32) :
    ∃ o : hk_O, hk_good T o ∧ (∀ post : Int32 → SX → Prop, zx_K post T nM nH (nI cM) (nI cH) xK xS xY xP o → wpX_rule post (nI T.1, nI cM, nI nM, nI cH, nI nH, xA, xR, xK, xS, xY, xP, xE) 9 v2 v3 v4) ∧ (∀ post : Int32 → SY → Prop, yr_K post T nM nH y1 y2 y3 y4 y5 (nI cM) (nI cH) yM yL yY yP o → wpY_rule post (y1, y2, y3, y4, y5, nI T.1, nI nM, nI nH, nI cM, nI cH, yw, yl, yk, ye, yp, yq, yr, ys, yM, yL, yY, yA, yR, yP) 9 v2 v3 v4) := by
  have h5 := J.2.2.2.2.1
  have h32 := J.2.2.1
  have h2 := J.2.1
  have hn := J.1.2.1
  have R0 := hk_R_zero J RX
  rcases hk_val v2 nH with h | ⟨a, ha, rfl⟩
  · exact ⟨none, trivial, fun post k => br_t (nI_lt hH (by omega)) ⟨vp_in_nI (by omega) (by omega), nm_r (e' := upd xP nH 0) (by rw [nI_clamp (by omega)]) (br_f (by decide) (br_f (by decide) (br_f (by decide) (br_f (by decide) (br_f (by decide) (br_f (by decide) (br_f (by decide) (br_f (by decide) (br_f (by decide) (br_f (by decide) (br_t rfl (xz_ded0 RX.1 h (zx_up (fun _ _ _ _ _ _ _ _ _ _ _ _ _ h => h) k)))))))))))))⟩, fun post k => br_t (nI_lt hH (by omega)) (br_f (by decide) (br_f (by decide) (br_f (by decide) (br_f (by decide) (br_f (by decide) (br_f (by decide) (br_f (by decide) (br_f (by decide) (br_t rfl (yz_ded0 RY.1 h (zy_up (fun _ _ _ _ _ _ _ _ _ _ _ _ _ _ _ _ _ _ _ _ _ _ _ _ _ h => h) k)))))))))))⟩
  obtain ⟨lA, gA, gcA⟩ := hk_I_hs J ha
  obtain ⟨sA, pA, cA⟩ := hk_R_hs RX ha
  rcases hk_val v3 nH with h | ⟨b, hb, rfl⟩
  · exact ⟨none, trivial, fun post k => br_t (nI_lt hH (by omega)) ⟨vp_in_nI (by omega) (by omega), nm_r (e' := upd xP nH 0) (by rw [nI_clamp (by omega)]) (br_f (by decide) (br_f (by decide) (br_f (by decide) (br_f (by decide) (br_f (by decide) (br_f (by decide) (br_f (by decide) (br_f (by decide) (br_f (by decide) (br_f (by decide) (br_t rfl (xz_ded1 RX.1 (by omega) ha cA gcA h (zx_up (fun _ _ _ _ _ _ _ _ _ _ _ _ _ h => h) k)))))))))))))⟩, fun post k => br_t (nI_lt hH (by omega)) (br_f (by decide) (br_f (by decide) (br_f (by decide) (br_f (by decide) (br_f (by decide) (br_f (by decide) (br_f (by decide) (br_f (by decide) (br_t rfl (yz_ded1 RY.1 (by omega) ha h (zy_up (fun _ _ _ _ _ _ _ _ _ _ _ _ _ _ _ _ _ _ _ _ _ _ _ _ _ h => h) k)))))))))))⟩
  obtain ⟨lB, gB, gcB⟩ := hk_I_hs J hb
  have gU : ∀ y, y ∈ hk_un [] ((hk_H G (32 + a * 4 + 1) (HC a)) ++ (hk_H G (32 + b * 4 + 1) (HC b))) → hk_gt T.1 y := hk_un_gt hk_nilm (fun y hy => (List.mem_append.mp hy).elim (gA y) (gB y))
  by_cases c : vc_ded (G (32 + a * 4)) (G (32 + b * 4)) (hk_H G (32 + a * 4 + 1) (HC a)) (hk_H G (32 + b * 4 + 1) (HC b))
  · refine ⟨some (hk_eq 0 (G (32 + a * 4)) (G (32 + b * 4)), vh_ded (G (32 + a * 4)) (G (32 + b * 4)) (hk_H G (32 + a * 4 + 1) (HC a)) (hk_H G (32 + b * 4 + 1) (HC b)), T), ⟨⟨hk_eq_run (by decide) gcA.1 gcB.1, c.2, hk_eq_gc (by have := J.1.1; omega) hn gcA.2.2 gcB.2.2⟩, hk_un_gt hk_nilm (fun y hy => (List.mem_append.mp hy).elim (fun z => gA y ((List.mem_filter.mp z).1)) (fun z => gB y ((List.mem_filter.mp z).1))), c.1, J.1, Nat.le_refl _⟩, fun post k => br_t (nI_lt hH (by omega)) ⟨vp_in_nI (by omega) (by omega), nm_r (e' := upd xP nH 0) (by rw [nI_clamp (by omega)]) (br_f (by decide) (br_f (by decide) (br_f (by decide) (br_f (by decide) (br_f (by decide) (br_f (by decide) (br_f (by decide) (br_f (by decide) (br_f (by decide) (br_f (by decide) (br_t rfl (xr_ded J R0 hH pk_us ha hb rfl rfl  (fun _ => (zx_up (fun _ _ _ _ _ _ _ _ _ _ _ _ _ h => h) k)) (fun n => absurd c n)))))))))))))⟩, fun post k => br_t (nI_lt hH (by omega)) (br_f (by decide) (br_f (by decide) (br_f (by decide) (br_f (by decide) (br_f (by decide) (br_f (by decide) (br_f (by decide) (br_f (by decide) (br_t rfl (yr_ded J RY hH ha hb rfl rfl  (fun _ => (zy_up (fun _ _ _ _ _ _ _ _ _ _ _ _ _ _ _ _ _ _ _ _ _ _ _ _ _ h => h) k)) (fun n => absurd c n)))))))))))⟩
  · exact ⟨none, trivial, fun post k => br_t (nI_lt hH (by omega)) ⟨vp_in_nI (by omega) (by omega), nm_r (e' := upd xP nH 0) (by rw [nI_clamp (by omega)]) (br_f (by decide) (br_f (by decide) (br_f (by decide) (br_f (by decide) (br_f (by decide) (br_f (by decide) (br_f (by decide) (br_f (by decide) (br_f (by decide) (br_f (by decide) (br_t rfl (xr_ded J R0 hH pk_us ha hb rfl rfl  (fun c' => absurd c' c) (fun _ => (zx_up (fun _ _ _ _ _ _ _ _ _ _ _ _ _ h => h) k))))))))))))))⟩, fun post k => br_t (nI_lt hH (by omega)) (br_f (by decide) (br_f (by decide) (br_f (by decide) (br_f (by decide) (br_f (by decide) (br_f (by decide) (br_f (by decide) (br_f (by decide) (br_t rfl (yr_ded J RY hH ha hb rfl rfl  (fun c' => absurd c' c) (fun _ => (zy_up (fun _ _ _ _ _ _ _ _ _ _ _ _ _ _ _ _ _ _ _ _ _ _ _ _ _ h => h) k))))))))))))⟩
theorem vr_abs (J : hk_I T nM TY nH HC G cM cH) (RX : hk_R T nM TY nH HC G xA xR xY xP (hk_h xK xS)) (RY : hk_R T nM TY nH HC G yA yR yY yP (hk_hy yM yL)) (hH : nH < cH) (v2 v3 v4 : Int32) :
    ∃ o : hk_O, hk_good T o ∧ (∀ post : Int32 → SX → Prop, zx_K post T nM nH (nI cM) (nI cH) xK xS xY xP o → wpX_rule post (nI T.1, nI cM, nI nM, nI cH, nI nH, xA, xR, xK, xS, xY, xP, xE) 4 v2 v3 v4) ∧ (∀ post : Int32 → SY → Prop, yr_K post T nM nH y1 y2 y3 y4 y5 (nI cM) (nI cH) yM yL yY yP o → wpY_rule post (y1, y2, y3, y4, y5, nI T.1, nI nM, nI nH, nI cM, nI cH, yw, yl, yk, ye, yp, yq, yr, ys, yM, yL, yY, yA, yR, yP) 4 v2 v3 v4) := by
  have h5 := J.2.2.2.2.1
  have h32 := J.2.2.1
  have h2 := J.2.1
  have hn := J.1.2.1
  have R0 := hk_R_zero J RX
  rcases hk_val v2 nH with h | ⟨a, ha, rfl⟩
  · exact ⟨none, trivial, fun post k => br_t (nI_lt hH (by omega)) ⟨vp_in_nI (by omega) (by omega), nm_r (e' := upd xP nH 0) (by rw [nI_clamp (by omega)]) (br_f (by decide) (br_f (by decide) (br_f (by decide) (br_f (by decide) (br_f (by decide) (br_t rfl (xz_abs0 RX.1 h (zx_up (fun _ _ _ _ _ _ _ _ _ _ _ _ _ h => h) k))))))))⟩, fun post k => br_t (nI_lt hH (by omega)) (br_f (by decide) (br_f (by decide) (br_f (by decide) (br_f (by decide) (br_f (by decide) (br_t rfl (yz_abs0 RY.1 h (zy_up (fun _ _ _ _ _ _ _ _ _ _ _ _ _ _ _ _ _ _ _ _ _ _ _ _ _ h => h) k))))))))⟩
  obtain ⟨lA, gA, gcA⟩ := hk_I_hs J ha
  obtain ⟨sA, pA, cA⟩ := hk_R_hs RX ha
  rcases hk_val v3 nM with h | ⟨x, hx, rfl⟩
  · exact ⟨none, trivial, fun post k => br_t (nI_lt hH (by omega)) ⟨vp_in_nI (by omega) (by omega), nm_r (e' := upd xP nH 0) (by rw [nI_clamp (by omega)]) (br_f (by decide) (br_f (by decide) (br_f (by decide) (br_f (by decide) (br_f (by decide) (br_t rfl (xz_abs1 RX.1 (by omega) ha cA gcA h (zx_up (fun _ _ _ _ _ _ _ _ _ _ _ _ _ h => h) k))))))))⟩, fun post k => br_t (nI_lt hH (by omega)) (br_f (by decide) (br_f (by decide) (br_f (by decide) (br_f (by decide) (br_f (by decide) (br_t rfl (yz_abs1 RY.1 (by omega) ha h (zy_up (fun _ _ _ _ _ _ _ _ _ _ _ _ _ _ _ _ _ _ _ _ _ _ _ _ _ h => h) k))))))))⟩
  obtain ⟨ty, g, -⟩ := J.2.2.2.2.2.1 x hx
  by_cases c : vc_abs T (G (32 + a * 4)) (hk_H G (32 + a * 4 + 1) (HC a)) (hk_c (G x) 0)
  · obtain ⟨t, h⟩ := c.2.2.2.2
    have vI := hk_I_var J hx c.2.1
    have dT : hk_c (G x) 0 % 256 < T.1 := by rw [← vI.2.1]; exact ty
    obtain ⟨-, -, -, -, sT, sT2, -, -⟩ := hk_ise_sides gcA c.1
    obtain ⟨w1, w2, w3, w4⟩ := hk_xa_in J.1 dT sT h
    have lU : (hk_un [] (hk_H G (32 + a * 4 + 1) (HC a))).length ≤ 0 + (hk_H G (32 + a * 4 + 1) (HC a)).length := (hk_un_len (ts := (hk_H G (32 + a * 4 + 1) (HC a))) (S := [])).2
    have same : ∀ q, (hk_xa T (hk_c (G x) 0 % 256) (hk_c (G (32 + a * 4)) 2 % 256)).1 = some q → q = t := fun q hq => by rw [h] at hq; cases hq; rfl
    exact ⟨some (vl_abs t (hk_c (G x) 0) (G (32 + a * 4)), hk_un [] (hk_H G (32 + a * 4 + 1) (HC a)), (hk_xa T (hk_c (G x) 0 % 256) (hk_c (G (32 + a * 4)) 2 % 256)).2), ⟨vg_abs w3.2.1 w2 c.2.1 (hk_gt_mono gcA w4) c.1 c.2.2.2.1, fun y hy => hk_gt_mono (hk_un_gt hk_nilm gA y hy) w4, by omega, w3, w4⟩, fun post k => br_t (nI_lt hH (by omega)) ⟨vp_in_nI (by omega) (by omega), nm_r (e' := upd xP nH 0) (by rw [nI_clamp (by omega)]) (br_f (by decide) (br_f (by decide) (br_f (by decide) (br_f (by decide) (br_f (by decide) (br_t rfl (xr_abs J R0 hH pk_us ha hx rfl rfl (fun q hq _ => by rw [same q hq]; exact (zx_up (fun _ _ _ _ _ _ _ _ _ _ _ _ _ h => h) k)) (fun n => absurd c n))))))))⟩, fun post k => br_t (nI_lt hH (by omega)) (br_f (by decide) (br_f (by decide) (br_f (by decide) (br_f (by decide) (br_f (by decide) (br_t rfl (yr_abs J RY hH ha hx rfl rfl (fun q hq _ => by rw [same q hq]; exact (zy_up (fun _ _ _ _ _ _ _ _ _ _ _ _ _ _ _ _ _ _ _ _ _ _ _ _ _ h => h) k)) (fun n => absurd c n))))))))⟩
  · exact ⟨none, trivial, fun post k => br_t (nI_lt hH (by omega)) ⟨vp_in_nI (by omega) (by omega), nm_r (e' := upd xP nH 0) (by rw [nI_clamp (by omega)]) (br_f (by decide) (br_f (by decide) (br_f (by decide) (br_f (by decide) (br_f (by decide) (br_t rfl (xr_abs J R0 hH pk_us ha hx rfl rfl (fun _ _ c' => absurd c' c) (fun _ => (zx_up (fun _ _ _ _ _ _ _ _ _ _ _ _ _ h => h) k)))))))))⟩, fun post k => br_t (nI_lt hH (by omega)) (br_f (by decide) (br_f (by decide) (br_f (by decide) (br_f (by decide) (br_f (by decide) (br_t rfl (yr_abs J RY hH ha hx rfl rfl (fun _ _ c' => absurd c' c) (fun _ => (zy_up (fun _ _ _ _ _ _ _ _ _ _ _ _ _ _ _ _ _ _ _ _ _ _ _ _ _ h => h) k)))))))))⟩
theorem vr_inst (J : hk_I T nM TY nH HC G cM cH) (RX : hk_R T nM TY nH HC G xA xR xY xP (hk_h xK xS)) (RY : hk_R T nM TY nH HC G yA yR yY yP (hk_hy yM yL)) (hH : nH < cH) (v2 v3 v4 : Int32) :
    ∃ o : hk_O, hk_good T o ∧ (∀ post : Int32 → SX → Prop, zx_K post T nM nH (nI cM) (nI cH) xK xS xY xP o → wpX_rule post (nI T.1, nI cM, nI nM, nI cH, nI nH, xA, xR, xK, xS, xY, xP, xE) 10 v2 v3 v4) ∧ (∀ post : Int32 → SY → Prop, yr_K post T nM nH y1 y2 y3 y4 y5 (nI cM) (nI cH) yM yL yY yP o → wpY_rule post (y1, y2, y3, y4, y5, nI T.1, nI nM, nI nH, nI cM, nI cH, yw, yl, yk, ye, yp, yq, yr, ys, yM, yL, yY, yA, yR, yP) 10 v2 v3 v4) := by
  have h5 := J.2.2.2.2.1
  have h32 := J.2.2.1
  have h2 := J.2.1
  have hn := J.1.2.1
  have R0 := hk_R_zero J RX
  rcases hk_val v2 nH with h | ⟨a, ha, rfl⟩
  · exact ⟨none, trivial, fun post k => br_t (nI_lt hH (by omega)) ⟨vp_in_nI (by omega) (by omega), nm_r (e' := upd xP nH 0) (by rw [nI_clamp (by omega)]) (br_f (by decide) (br_f (by decide) (br_f (by decide) (br_f (by decide) (br_f (by decide) (br_f (by decide) (br_f (by decide) (br_f (by decide) (br_f (by decide) (br_f (by decide) (br_f (by decide) (br_t rfl (xz_inst0 RX.1 h (zx_up (fun _ _ _ _ _ _ _ _ _ _ _ _ _ h => h) k))))))))))))))⟩, fun post k => br_t (nI_lt hH (by omega)) (br_f (by decide) (br_f (by decide) (br_f (by decide) (br_f (by decide) (br_f (by decide) (br_f (by decide) (br_f (by decide) (br_f (by decide) (br_f (by decide) (br_t rfl (yz_inst0 RY.1 h (zy_up (fun _ _ _ _ _ _ _ _ _ _ _ _ _ _ _ _ _ _ _ _ _ _ _ _ _ h => h) k))))))))))))⟩
  obtain ⟨lA, gA, gcA⟩ := hk_I_hs J ha
  rcases hk_val v3 nM with h | ⟨x, hx, rfl⟩
  · exact ⟨none, trivial, fun post k => br_t (nI_lt hH (by omega)) ⟨vp_in_nI (by omega) (by omega), nm_r (e' := upd xP nH 0) (by rw [nI_clamp (by omega)]) (br_f (by decide) (br_f (by decide) (br_f (by decide) (br_f (by decide) (br_f (by decide) (br_f (by decide) (br_f (by decide) (br_f (by decide) (br_f (by decide) (br_f (by decide) (br_f (by decide) (br_t rfl (xz_inst1 RX.1 (by omega) ha (hk_R_hs RX ha).2.2 gcA h (zx_up (fun _ _ _ _ _ _ _ _ _ _ _ _ _ h => h) k))))))))))))))⟩, fun post k => br_t (nI_lt hH (by omega)) (br_f (by decide) (br_f (by decide) (br_f (by decide) (br_f (by decide) (br_f (by decide) (br_f (by decide) (br_f (by decide) (br_f (by decide) (br_f (by decide) (br_t rfl (yz_inst1 RY.1 (by omega) ha h (zy_up (fun _ _ _ _ _ _ _ _ _ _ _ _ _ _ _ _ _ _ _ _ _ _ _ _ _ h => h) k))))))))))))⟩
  obtain ⟨ty, g, -⟩ := J.2.2.2.2.2.1 x hx
  obtain ⟨xYx, xhx⟩ := RX.2.1 x hx
  rcases hk_val v4 nM with h | ⟨t, ht, rfl⟩
  · exact ⟨none, trivial, fun post k => br_t (nI_lt hH (by omega)) ⟨vp_in_nI (by omega) (by omega), nm_r (e' := upd xP nH 0) (by rw [nI_clamp (by omega)]) (br_f (by decide) (br_f (by decide) (br_f (by decide) (br_f (by decide) (br_f (by decide) (br_f (by decide) (br_f (by decide) (br_f (by decide) (br_f (by decide) (br_f (by decide) (br_f (by decide) (br_t rfl (xz_inst2 RX.1 (by omega) (by omega) ha hx xhx g h (zx_up (fun _ _ _ _ _ _ _ _ _ _ _ _ _ h => h) k))))))))))))))⟩, fun post k => br_t (nI_lt hH (by omega)) (br_f (by decide) (br_f (by decide) (br_f (by decide) (br_f (by decide) (br_f (by decide) (br_f (by decide) (br_f (by decide) (br_f (by decide) (br_f (by decide) (br_t rfl (yz_inst2 RY.1 (by omega) (by omega) ha hx h (zy_up (fun _ _ _ _ _ _ _ _ _ _ _ _ _ _ _ _ _ _ _ _ _ _ _ _ _ h => h) k))))))))))))⟩
  obtain ⟨tyt, gt, -⟩ := J.2.2.2.2.2.1 t ht
  by_cases c : (hk_c (G x) 0 / 65536 = 1 ∧ TY t = hk_c (G x) 0 % 256) ∧ vc_inst (G (32 + a * 4)) (G t) (hk_H G (32 + a * 4 + 1) (HC a)) (hk_c (G x) 0)
  · have gI : ∀ y, y ∈ vh_inst (hk_H G (32 + a * 4 + 1) (HC a)) (hk_c (G x) 0) (G t) → hk_gt T.1 y := by
      intro y hy
      obtain ⟨h, hh, rfl⟩ := List.mem_map.mp hy
      exact vg_inst c.1.1 (gA h hh) gt (c.2.2.1 h hh)
    exact ⟨some (hk_sb (G (32 + a * 4)) (hk_c (G x) 0) (G t), hk_un [] (vh_inst (hk_H G (32 + a * 4 + 1) (HC a)) (hk_c (G x) 0) (G t)), T), ⟨vg_inst c.1.1 gcA gt c.2.1, hk_un_gt hk_nilm gI, c.2.2.2, J.1, Nat.le_refl _⟩, fun post k => br_t (nI_lt hH (by omega)) ⟨vp_in_nI (by omega) (by omega), nm_r (e' := upd xP nH 0) (by rw [nI_clamp (by omega)]) (br_f (by decide) (br_f (by decide) (br_f (by decide) (br_f (by decide) (br_f (by decide) (br_f (by decide) (br_f (by decide) (br_f (by decide) (br_f (by decide) (br_f (by decide) (br_f (by decide) (br_t rfl (xr_inst J R0 hH pk_us ha hx ht rfl rfl (fun _ => (zx_up (fun _ _ _ _ _ _ _ _ _ _ _ _ _ h => h) k)) (fun n => absurd c n))))))))))))))⟩, fun post k => br_t (nI_lt hH (by omega)) (br_f (by decide) (br_f (by decide) (br_f (by decide) (br_f (by decide) (br_f (by decide) (br_f (by decide) (br_f (by decide) (br_f (by decide) (br_f (by decide) (br_t rfl (yr_inst J RY hH ha hx ht rfl rfl (fun _ => (zy_up (fun _ _ _ _ _ _ _ _ _ _ _ _ _ _ _ _ _ _ _ _ _ _ _ _ _ h => h) k)) (fun n => absurd c n))))))))))))⟩
  · exact ⟨none, trivial, fun post k => br_t (nI_lt hH (by omega)) ⟨vp_in_nI (by omega) (by omega), nm_r (e' := upd xP nH 0) (by rw [nI_clamp (by omega)]) (br_f (by decide) (br_f (by decide) (br_f (by decide) (br_f (by decide) (br_f (by decide) (br_f (by decide) (br_f (by decide) (br_f (by decide) (br_f (by decide) (br_f (by decide) (br_f (by decide) (br_t rfl (xr_inst J R0 hH pk_us ha hx ht rfl rfl (fun c' => absurd c' c) (fun _ => (zx_up (fun _ _ _ _ _ _ _ _ _ _ _ _ _ h => h) k)))))))))))))))⟩, fun post k => br_t (nI_lt hH (by omega)) (br_f (by decide) (br_f (by decide) (br_f (by decide) (br_f (by decide) (br_f (by decide) (br_f (by decide) (br_f (by decide) (br_f (by decide) (br_f (by decide) (br_t rfl (yr_inst J RY hH ha hx ht rfl rfl (fun c' => absurd c' c) (fun _ => (zy_up (fun _ _ _ _ _ _ _ _ _ _ _ _ _ _ _ _ _ _ _ _ _ _ _ _ _ h => h) k)))))))))))))⟩
theorem vr_none {x : Int32} (J : hk_I T nM TY nH HC G cM cH) (RX : hk_R T nM TY nH HC G xA xR xY xP (hk_h xK xS)) (RY : hk_R T nM TY nH HC G yA yR yY yP (hk_hy yM yL)) (hH : nH < cH) (h : ∀ j, 1 ≤ j → j < 11 → x ≠ nI j) (v2 v3 v4 : Int32) :
    ∃ o : hk_O, hk_good T o ∧ (∀ post : Int32 → SX → Prop, zx_K post T nM nH (nI cM) (nI cH) xK xS xY xP o → wpX_rule post (nI T.1, nI cM, nI nM, nI cH, nI nH, xA, xR, xK, xS, xY, xP, xE) x v2 v3 v4) ∧ (∀ post : Int32 → SY → Prop, yr_K post T nM nH y1 y2 y3 y4 y5 (nI cM) (nI cH) yM yL yY yP o → wpY_rule post (y1, y2, y3, y4, y5, nI T.1, nI nM, nI nH, nI cM, nI cH, yw, yl, yk, ye, yp, yq, yr, ys, yM, yL, yY, yA, yR, yP) x v2 v3 v4) := by
  have h5 := J.2.2.2.2.1
  have R0 := hk_R_zero J RX
  refine ⟨none, trivial, fun post k => ?_, fun post k => br_t (nI_lt hH (by omega)) (br_f (h 1 (by omega) (by omega)) (br_f (h 5 (by omega) (by omega)) (br_f (h 6 (by omega) (by omega)) (br_f (h 2 (by omega) (by omega)) (br_f (h 3 (by omega) (by omega)) (br_f (h 4 (by omega) (by omega)) (br_f (h 7 (by omega) (by omega)) (br_f (h 8 (by omega) (by omega)) (br_f (h 9 (by omega) (by omega)) (br_f (h 10 (by omega) (by omega)) (k yA yR yM yL yw yl _ ye yp yq yr ys RY.1 hk_fr_r)))))))))))⟩
  have K : post (-1) (nI T.1, nI cM, nI nM, nI cH, nI nH, xA, xR, xK, xS, xY, upd xP nH 0, xE) := k xA xR xK xS (upd xP nH 0) xE RX.1 hk_fr_r (fun q hne => pk_un hne)
  refine br_t (nI_lt hH (by omega)) ⟨vp_in_nI (by omega) (by omega), nm_r (e' := upd xP nH 0) (by rw [nI_clamp (by omega)]) (br_c (fun _ => br_t rfl K) (fun z => br_c (fun _ => br_t rfl K) (fun z2 => ?_)))⟩
  exfalso
  have h0 : ¬ x < 0 := fun y => z (Int32.lt_trans y (by decide))
  obtain ⟨j, hj, rfl⟩ := nI_of h0
  have a1 : 1 ≤ j := by
    rcases Nat.lt_or_ge j 1 with q | q
    · exact absurd (nI_lt (b := 1) q (by omega)) z
    · exact q
  have a2 : j < 11 := by
    rcases Nat.lt_or_ge 10 j with q | q
    · exact absurd (nI_lt (a := 10) q hj) z2
    · omega
  exact h j a1 a2 rfl
end
theorem i_vc_rule {k : Nat} {u : SX} {v : SY} (I : i_Rel k u v) (hk : k + 5 ≤ 2562) (v1 : Int32) (v2 : Int32) (v3 : Int32) (v4 : Int32) : wpX_rule (fun r u' => wpY_rule (fun r' v' => r' = r ∧ i_Rel (k + 5) u' v') v v1 v2 v3 v4) u v1 v2 v3 v4 := by
  obtain ⟨T, nM, TY, nH, HC, G, cM, cH, J, ⟨xA, xR, xK, xS, xY, xP, xE, rfl, RX⟩, ⟨y1, y2, y3, y4, y5, yw, yl, yk, ye, yp, yq, yr, ys, yM, yL, yY, yA, yR, yP, rfl, RY⟩⟩ := I
  have h4 := J.2.2.2.1
  have h5 := J.2.2.2.2.1
  have h32 := J.2.2.1
  have h2 := J.2.1
  have h3 : ∀ h, h < nH → HC h ≤ 3 := fun h hh => (J.2.2.2.2.2.2 h hh).1
  by_cases hH : nH < cH
  · have key : ∃ o : hk_O, hk_good T o ∧ (∀ post : Int32 → SX → Prop, zx_K post T nM nH (nI cM) (nI cH) xK xS xY xP o → wpX_rule post (nI T.1, nI cM, nI nM, nI cH, nI nH, xA, xR, xK, xS, xY, xP, xE) v1 v2 v3 v4) ∧ (∀ post : Int32 → SY → Prop, yr_K post T nM nH y1 y2 y3 y4 y5 (nI cM) (nI cH) yM yL yY yP o → wpY_rule post (y1, y2, y3, y4, y5, nI T.1, nI nM, nI nH, nI cM, nI cH, yw, yl, yk, ye, yp, yq, yr, ys, yM, yL, yY, yA, yR, yP) v1 v2 v3 v4) := by
      rcases hk_val v1 11 with h | ⟨c, hc, rfl⟩
      · exact vr_none J RX RY hH (fun j _ hj => h j hj) v2 v3 v4
      · have : c = 0 ∨ c = 1 ∨ c = 2 ∨ c = 3 ∨ c = 4 ∨ c = 5 ∨ c = 6 ∨ c = 7 ∨ c = 8 ∨ c = 9 ∨ c = 10 := by omega
        rcases this with rfl | rfl | rfl | rfl | rfl | rfl | rfl | rfl | rfl | rfl | rfl
        · exact vr_none J RX RY hH (fun j h1 hj e => by rw [nI_eq (by omega) (by omega)] at e; omega) v2 v3 v4
        · exact vr_refl J RX RY hH v2 v3 v4
        · exact vr_trans J RX RY hH v2 v3 v4
        · exact vr_comb J RX RY hH v2 v3 v4
        · exact vr_abs J RX RY hH v2 v3 v4
        · exact vr_beta J RX RY hH v2 v3 v4
        · exact vr_norm J RX RY hH v2 v3 v4
        · exact vr_assume J RX RY hH v2 v3 v4
        · exact vr_mp J RX RY hH v2 v3 v4
        · exact vr_ded J RX RY hH v2 v3 v4
        · exact vr_inst J RX RY hH v2 v3 v4
    obtain ⟨o, good, hX, hY⟩ := key
    refine hX _ ?_
    cases o with
    | none =>
      intro A R K S P E hb f p
      refine hY _ ?_
      intro A2 R2 M L w1 w2 w3 w4 w5 w6 w7 w8 hb2 f2
      exact ⟨rfl, hk_keep J (hk_R_keep RX hb (fun s l hs h => hk_fr_h f (by omega) h) p (by omega) h3) (hk_R_keep RY hb2 (fun s l hs h => hk_fr_hy f2 (by omega) h) (fun _ _ => rfl) (by omega) h3)⟩
    | some q =>
      obtain ⟨Cn, H, T'⟩ := q
      obtain ⟨g1, g2, g3, g4, g5⟩ := good
      intro A R K S P E hb c1 c2 f p1 p2
      refine hY _ ?_
      intro A2 R2 M L w1 w2 w3 w4 w5 w6 w7 w8 hb2 d1 d2 f2
      exact ⟨rfl, hk_keep (hk_I_thm J g4 g5 hH g1 g2 g3) (hk_R_thm RX hb (fun s l hs h => hk_fr_h f (by omega) h) c1 c2 p1 p2 (by omega) h3) (hk_R_thm RY hb2 (fun s l hs h => hk_fr_hy f2 (by omega) h) d1 d2 pk_us (fun h hne => pk_un hne) (by omega) h3)⟩
  · exact br_f (nI_nlt (by omega) (by omega)) (br_f (nI_nlt (by omega) (by omega)) ⟨rfl, hk_keep J RX RY⟩)
end
