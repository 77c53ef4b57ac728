section
theorem wb_tb (n : Nat) : (lN n).toBitVec = BitVec.ofNat 64 n := rfl
theorem wb_inj {a b : Int64} (h : a.toBitVec = b.toBitVec) : a = b := Int64.toBitVec_inj.mp h
theorem wb_tn {n : Nat} (h : n < 2 ^ 64) : (lN n).toBitVec.toNat = n := by rw [wb_tb, BitVec.toNat_ofNat, Nat.mod_eq_of_lt h]
theorem wb_of (x : Int64) : ∃ n, n < 2 ^ 64 ∧ x = lN n := ⟨x.toBitVec.toNat, x.toBitVec.isLt, wb_inj (by rw [wb_tb]; simp)⟩
theorem wb_of32 (x : Int32) : ∃ n, n < 2 ^ 32 ∧ x = nI n := ⟨x.toBitVec.toNat, x.toBitVec.isLt, Int32.toBitVec_inj.mp (by show _ = BitVec.ofNat 32 _; simp)⟩
theorem wb_c : ∀ k, k < 64 → ((nI k).toInt64 &&& 63) = lN k := by decide +kernel
theorem wb_cu : ∀ k, k < 64 → ((nI k).toInt64.toUInt64 &&& Int64.toUInt64 63) = UInt64.ofNat k := by decide +kernel
theorem wb_sm : ∀ k, k < 64 → (BitVec.ofNat 64 k).smod 64 = BitVec.ofNat 64 k := by decide +kernel
theorem wb_pw {a b : Nat} (h : a ≤ b) : 2 ^ b = 2 ^ a * 2 ^ (b - a) := by rw [← Nat.pow_add]; congr 1; omega
theorem wb_lt2 {a b : Nat} (h : a < b) : 2 ^ a < 2 ^ b := Nat.pow_lt_pow_right (by decide) h
theorem wb_mod (n : Nat) : lN n = lN (n % 2 ^ 64) := wb_inj (by rw [wb_tb, wb_tb]; apply BitVec.eq_of_toNat_eq; rw [BitVec.toNat_ofNat, BitVec.toNat_ofNat, Nat.mod_mod])
theorem wb_shr {n k : Nat} (hn : n < 2 ^ 64) (hk : k < 64) : ((lN n).toUInt64 >>> ((nI k).toInt64.toUInt64 &&& Int64.toUInt64 63)).toInt64 = lN (n / 2 ^ k) := by
  rw [wb_cu k hk]
  apply wb_inj
  apply BitVec.eq_of_toNat_eq
  show ((lN n).toUInt64 >>> UInt64.ofNat k).toNat = (BitVec.ofNat 64 _).toNat
  have h1 : (UInt64.ofNat k).toNat = k := by
    show (BitVec.ofNat 64 k).toNat = k
    rw [BitVec.toNat_ofNat, Nat.mod_eq_of_lt (by omega)]
  have h2 : (lN n).toUInt64.toNat = n := wb_tn hn
  rw [UInt64.toNat_shiftRight, h1, h2, Nat.mod_eq_of_lt hk, Nat.shiftRight_eq_div_pow, BitVec.toNat_ofNat, Nat.mod_eq_of_lt (Nat.lt_of_le_of_lt (Nat.div_le_self _ _) hn)]
theorem wb_shl (n : Nat) {k : Nat} (hk : k < 64) : lN n <<< ((nI k).toInt64 &&& 63) = lN (n * 2 ^ k) := by
  rw [wb_c k hk]
  apply wb_inj
  rw [Int64.toBitVec_shiftLeft, wb_tb, wb_tb, wb_tb, wb_sm k hk]
  apply BitVec.eq_of_toNat_eq
  rw [BitVec.shiftLeft_eq', BitVec.toNat_shiftLeft, BitVec.toNat_ofNat, BitVec.toNat_ofNat, BitVec.toNat_ofNat, Nat.mod_eq_of_lt (show k < 2 ^ 64 by omega), Nat.shiftLeft_eq, Nat.mul_mod, Nat.mod_mod, ← Nat.mul_mod]
theorem wb_and {a b : Nat} (ha : a < 2 ^ 64) (hb : b < 2 ^ 64) : lN a &&& lN b = lN (a &&& b) := by
  apply wb_inj
  rw [Int64.toBitVec_and, wb_tb, wb_tb, wb_tb]
  apply BitVec.eq_of_toNat_eq
  rw [BitVec.toNat_and, BitVec.toNat_ofNat, BitVec.toNat_ofNat, BitVec.toNat_ofNat, Nat.mod_eq_of_lt ha, Nat.mod_eq_of_lt hb, Nat.mod_eq_of_lt (Nat.and_lt_two_pow _ hb)]
theorem wb_or {a b : Nat} (ha : a < 2 ^ 64) (hb : b < 2 ^ 64) : lN a ||| lN b = lN (a ||| b) := by
  apply wb_inj
  rw [Int64.toBitVec_or, wb_tb, wb_tb, wb_tb]
  apply BitVec.eq_of_toNat_eq
  rw [BitVec.toNat_or, BitVec.toNat_ofNat, BitVec.toNat_ofNat, BitVec.toNat_ofNat, Nat.mod_eq_of_lt ha, Nat.mod_eq_of_lt hb, Nat.mod_eq_of_lt (Nat.or_lt_two_pow ha hb)]
theorem wb_mask {n k : Nat} (hn : n < 2 ^ 64) (hk : k < 64) : lN n &&& lN (2 ^ k - 1) = lN (n % 2 ^ k) := by
  rw [wb_and hn (by have := wb_lt2 hk; omega), Nat.and_two_pow_sub_one_eq_mod]
theorem wb_a1 {n : Nat} (hn : n < 2 ^ 64) : lN n &&& 1 = lN (n % 2) := wb_mask (k := 1) hn (by decide)
theorem wb_bit {n k : Nat} (hn : n < 2 ^ 64) (hk : k < 64) : ((lN n).toUInt64 >>> ((nI k).toInt64.toUInt64 &&& Int64.toUInt64 63)).toInt64 &&& 1 = lN (n / 2 ^ k % 2) := by
  rw [wb_shr hn hk, wb_a1 (Nat.lt_of_le_of_lt (Nat.div_le_self _ _) hn)]
theorem u_tn {n : Nat} (h : n < 2 ^ 64) : (UInt64.ofNat n).toNat = n := Nat.mod_eq_of_lt h
theorem g_and {a b c : Nat} (ha : a < 2 ^ 64) (hb : b < 2 ^ 64) (hc : a &&& b = c) : lN a &&& lN b = lN c := by
  subst hc
  have h : UInt64.ofNat a &&& UInt64.ofNat b = UInt64.ofNat (a &&& b) := UInt64.toNat_inj.mp (by rw [UInt64.toNat_and, u_tn ha, u_tn hb, u_tn (Nat.and_lt_two_pow a hb)])
  have h2 := congrArg UInt64.toInt64 h
  exact h2
theorem g_and1 {a : Nat} (ha : a < 2 ^ 64) : lN a &&& 1 = lN (a % 2) := g_and (b := 1) ha (by decide) (Nat.and_two_pow_sub_one_eq_mod a 1)
theorem g_mask {a s p : Nat} (hp : 2 ^ s = p) (hs : s < 64) (ha : a < 2 ^ 64) : lN a &&& lN (p - 1) = lN (a % p) := by
  subst hp
  have := Nat.pow_lt_pow_right (show 1 < 2 by decide) hs
  exact g_and ha (by omega) (Nat.and_two_pow_sub_one_eq_mod a s)
theorem g_or {k p a b : Nat} (hp : 2 ^ k = p) (ha : a < p) (h : b * p + a < 2 ^ 64) : lN (b * p) ||| lN a = lN (b * p + a) := by
  subst hp
  have h1 : b * 2 ^ k ||| a = b * 2 ^ k + a := by rw [← Nat.shiftLeft_eq, Nat.shiftLeft_add_eq_or_of_lt ha]
  have h3 : UInt64.ofNat (b * 2 ^ k) ||| UInt64.ofNat a = UInt64.ofNat (b * 2 ^ k + a) := UInt64.toNat_inj.mp (by rw [UInt64.toNat_or, u_tn (by omega), u_tn (by omega), u_tn h, h1])
  have h2 := congrArg UInt64.toInt64 h3
  exact h2
theorem g_or' {k p a b : Nat} (hp : 2 ^ k = p) (ha : a < p) (h : a + b * p < 2 ^ 64) : lN a ||| lN (b * p) = lN (a + b * p) := by
  rw [Int64.or_comm, g_or hp ha (by omega), Nat.add_comm]
end
section
/-! codes of terms: arity, running need, ends of subterms -/
def hk_ar (c : Nat) : Nat := if c / 65536 = 3 then 2 else if c / 65536 = 4 then 1 else 0
def hk_run : Nat → List Nat → Option Nat
  | n, [] => some n
  | 0, _ :: _ => none
  | n + 1, c :: l => hk_run (n + hk_ar c) l
theorem hk_run_nil (n : Nat) : hk_run n [] = some n := by cases n <;> rfl
theorem hk_run_0 (c : Nat) (l : List Nat) : hk_run 0 (c :: l) = none := rfl
theorem hk_run_s (n c : Nat) (l : List Nat) : hk_run (n + 1) (c :: l) = hk_run (n + hk_ar c) l := rfl
theorem hk_run_app : ∀ (a b : List Nat) (n m : Nat), hk_run n a = some m → hk_run n (a ++ b) = hk_run m b
  | [], b, n, m, h => by rw [hk_run_nil] at h; cases h; rfl
  | c :: a, b, 0, m, h => by rw [hk_run_0] at h; cases h
  | c :: a, b, n + 1, m, h => by
    rw [hk_run_s] at h
    rw [List.cons_append, hk_run_s]
    exact hk_run_app a b _ _ h
theorem hk_run_add : ∀ (a : List Nat) (n m k : Nat), hk_run n a = some m → hk_run (n + k) a = some (m + k)
  | [], n, m, k, h => by rw [hk_run_nil] at h ⊢; cases h; rfl
  | c :: a, 0, m, k, h => by rw [hk_run_0] at h; cases h
  | c :: a, n + 1, m, k, h => by
    rw [hk_run_s] at h
    have q := hk_run_add a _ m k h
    rw [show n + 1 + k = (n + k) + 1 by omega, hk_run_s, show n + k + hk_ar c = n + hk_ar c + k by omega]
    exact q
theorem hk_run_spl : ∀ (a b : List Nat) (n m : Nat), hk_run n (a ++ b) = some m → ∃ j, hk_run n a = some j ∧ hk_run j b = some m
  | [], b, n, m, h => ⟨n, hk_run_nil n, h⟩
  | c :: a, b, 0, m, h => by rw [List.cons_append, hk_run_0] at h; cases h
  | c :: a, b, n + 1, m, h => by
    rw [List.cons_append, hk_run_s] at h
    obtain ⟨j, h1, h2⟩ := hk_run_spl a b _ _ h
    exact ⟨j, by rw [hk_run_s]; exact h1, h2⟩
theorem hk_run_one {j c m : Nat} (h : hk_run j [c] = some m) : ∃ i, j = i + 1 ∧ m = i + hk_ar c := by
  cases j with
  | zero => rw [hk_run_0] at h; cases h
  | succ i =>
    rw [hk_run_s, hk_run_nil] at h
    cases h
    exact ⟨i, rfl, rfl⟩
def hk_spn : Nat → List Nat → Nat
  | 0, _ => 0
  | _ + 1, [] => 0
  | n + 1, c :: l => hk_spn (n + hk_ar c) l + 1
theorem hk_spn_0 (l : List Nat) : hk_spn 0 l = 0 := by cases l <;> rfl
theorem hk_spn_nil (n : Nat) : hk_spn n [] = 0 := by cases n <;> rfl
theorem hk_spn_s (n c : Nat) (l : List Nat) : hk_spn (n + 1) (c :: l) = hk_spn (n + hk_ar c) l + 1 := rfl
theorem hk_spn_split : ∀ (l : List Nat) (a b : Nat), hk_run (a + b) l = some 0 →
    hk_spn a l ≤ l.length ∧ hk_run a (l.take (hk_spn a l)) = some 0 ∧ hk_run b (l.drop (hk_spn a l)) = some 0
  | [], a, b, h => by
    rw [hk_run_nil] at h
    have e : a + b = 0 := Option.some.inj h
    obtain ⟨rfl, rfl⟩ : a = 0 ∧ b = 0 := by omega
    exact ⟨Nat.le_refl _, rfl, rfl⟩
  | c :: l, 0, b, h => by
    rw [Nat.zero_add] at h
    rw [hk_spn_0]
    exact ⟨Nat.zero_le _, rfl, h⟩
  | c :: l, a + 1, b, h => by
    rw [show a + 1 + b = (a + b) + 1 by omega, hk_run_s, show a + b + hk_ar c = a + hk_ar c + b by omega] at h
    obtain ⟨h1, h2, h3⟩ := hk_spn_split l (a + hk_ar c) b h
    rw [hk_spn_s]
    refine ⟨by rw [List.length_cons]; omega, ?_, ?_⟩
    · rw [List.take_succ_cons, hk_run_s]; exact h2
    · rw [List.drop_succ_cons]; exact h3
theorem hk_spn_mono : ∀ (l : List Nat) (a b : Nat), a ≤ b → hk_spn a l ≤ hk_spn b l
  | [], a, b, _ => by rw [hk_spn_nil, hk_spn_nil]; exact Nat.le_refl _
  | c :: l, 0, b, _ => by rw [hk_spn_0]; exact Nat.zero_le _
  | c :: l, a + 1, 0, h => by omega
  | c :: l, a + 1, b + 1, h => by
    rw [hk_spn_s, hk_spn_s]
    have := hk_spn_mono l (a + hk_ar c) (b + hk_ar c) (by omega)
    omega
theorem hk_spn_adv : ∀ (k : Nat) (l : List Nat) (n : Nat), k < hk_spn n l → ∃ m, 1 ≤ m ∧ hk_spn n l = k + hk_spn m (l.drop k)
  | 0, l, 0, h => by rw [hk_spn_0] at h; omega
  | 0, l, n + 1, h => ⟨n + 1, by omega, by rw [List.drop_zero]; omega⟩
  | k + 1, l, 0, h => by rw [hk_spn_0] at h; omega
  | k + 1, [], n + 1, h => by rw [hk_spn_nil] at h; omega
  | k + 1, c :: l, n + 1, h => by
    rw [hk_spn_s] at h
    obtain ⟨m, h1, h2⟩ := hk_spn_adv k l (n + hk_ar c) (by omega)
    exact ⟨m, h1, by rw [hk_spn_s, List.drop_succ_cons]; omega⟩
def hk_c (l : List Nat) (p : Nat) : Nat := l.getD p 0
theorem hk_c_drop {l : List Nat} {p : Nat} (h : p < l.length) : l.drop p = hk_c l p :: l.drop (p + 1) := by
  rw [List.drop_eq_getElem_cons h]
  simp [hk_c, List.getD_eq_getElem?_getD, List.getElem?_eq_getElem h]
theorem hk_c_l {a b : List Nat} {p : Nat} (h : p < a.length) : hk_c (a ++ b) p = hk_c a p := by
  simp [hk_c, List.getD_eq_getElem?_getD, List.getElem?_append_left h]
theorem hk_c_r (a b : List Nat) (i : Nat) : hk_c (a ++ b) (a.length + i) = hk_c b i := by
  simp [hk_c, List.getD_eq_getElem?_getD, List.getElem?_append_right (Nat.le_add_right _ _)]
theorem hk_c_mem {l : List Nat} {p : Nat} (h : p < l.length) : hk_c l p ∈ l := by
  simp [hk_c, List.getD_eq_getElem?_getD, List.getElem?_eq_getElem h]
theorem hk_c_ex {l : List Nat} {x : Nat} (h : x ∈ l) : ∃ p, p < l.length ∧ hk_c l p = x := by
  obtain ⟨p, hp, e⟩ := List.getElem_of_mem h
  exact ⟨p, hp, by simp [hk_c, List.getD_eq_getElem?_getD, List.getElem?_eq_getElem hp, e]⟩
def hk_e (l : List Nat) (p : Nat) : Nat := p + hk_spn 1 (l.drop p)
def hk_at (l : List Nat) (p n : Nat) : Prop := p ≤ l.length ∧ hk_run n (l.drop p) = some 0
theorem hk_at0 {l : List Nat} (h : hk_run 1 l = some 0) : hk_at l 0 1 := ⟨Nat.zero_le _, by rw [List.drop_zero]; exact h⟩
theorem hk_at_lt {l : List Nat} {p n : Nat} (h : hk_at l p (n + 1)) : p < l.length := by
  rcases Nat.lt_or_ge p l.length with z | z
  · exact z
  · have := h.2
    rw [List.drop_of_length_le z, hk_run_nil] at this
    cases this
theorem hk_at_s {l : List Nat} {p n : Nat} (h : hk_at l p (n + 1)) : hk_at l (p + 1) (n + hk_ar (hk_c l p)) := by
  have hp := hk_at_lt h
  have q := h.2
  rw [hk_c_drop hp, hk_run_s] at q
  exact ⟨hp, q⟩
theorem hk_at_ex {l : List Nat} (h : hk_run 1 l = some 0) {p : Nat} (hp : p < l.length) : ∃ n, hk_run 1 (l.take p) = some (n + 1) ∧ hk_at l p (n + 1) := by
  rw [← List.take_append_drop p l] at h
  obtain ⟨j, h1, h2⟩ := hk_run_spl _ _ _ _ h
  cases j with
  | zero => rw [hk_c_drop hp, hk_run_0] at h2; cases h2
  | succ n => exact ⟨n, h1, Nat.le_of_lt hp, h2⟩
theorem hk_at_end {l : List Nat} {p n : Nat} (h : hk_at l p (n + 1)) :
    p < hk_e l p ∧ hk_at l (hk_e l p) n ∧ hk_run 1 ((l.drop p).take (hk_e l p - p)) = some 0 := by
  have hp := hk_at_lt h
  have q := h.2
  rw [Nat.add_comm n 1] at q
  obtain ⟨h1, h2, h3⟩ := hk_spn_split _ 1 n q
  rw [List.drop_drop] at h3
  rw [List.length_drop] at h1
  have e : hk_spn 1 (l.drop p) = hk_spn (0 + hk_ar (hk_c l p)) (l.drop (p + 1)) + 1 := by
    rw [hk_c_drop hp]; rfl
  unfold hk_e
  refine ⟨by omega, ⟨by omega, h3⟩, ?_⟩
  rw [Nat.add_sub_cancel_left]
  exact h2
theorem hk_nest {l : List Nat} {q s : Nat} (h : q ≤ s) (hs : s < hk_e l q) : hk_e l s ≤ hk_e l q := by
  unfold hk_e at hs ⊢
  obtain ⟨m, hm, e⟩ := hk_spn_adv (s - q) (l.drop q) 1 (by omega)
  rw [List.drop_drop, show q + (s - q) = s by omega] at e
  have := hk_spn_mono (l.drop s) 1 m hm
  omega
/-! the number of ABS nodes above p among the nodes s .. s+k-1 -/
def hk_dn (l : List Nat) (p s : Nat) : Nat → Nat
  | 0 => 0
  | k + 1 => hk_dn l p s k + (if hk_c l (s + k) / 65536 = 4 ∧ p < hk_e l (s + k) then 1 else 0)
def hk_dp (l : List Nat) (s p : Nat) : Nat := hk_dn l p s (p - s)
theorem hk_dn_le (l : List Nat) (p s : Nat) : ∀ k, hk_dn l p s k ≤ k
  | 0 => Nat.le_refl _
  | k + 1 => by
    have := hk_dn_le l p s k
    unfold hk_dn
    split <;> omega
theorem hk_dn_add (l : List Nat) (p s a : Nat) : ∀ b, hk_dn l p s (a + b) = hk_dn l p s a + hk_dn l p (s + a) b
  | 0 => rfl
  | b + 1 => by
    rw [show a + (b + 1) = (a + b) + 1 by omega]
    show hk_dn l p s (a + b) + _ = hk_dn l p s a + (hk_dn l p (s + a) b + _)
    rw [hk_dn_add l p s a b, show s + (a + b) = s + a + b by omega, Nat.add_assoc]
theorem hk_dn_congr {l : List Nat} {p p' s : Nat} : ∀ {k : Nat}, (∀ i, i < k → (p < hk_e l (s + i) ↔ p' < hk_e l (s + i))) → hk_dn l p s k = hk_dn l p' s k
  | 0, _ => rfl
  | k + 1, h => by
    have a := hk_dn_congr (l := l) (p := p) (p' := p') (s := s) (k := k) (fun i hi => h i (by omega))
    unfold hk_dn
    rw [a]
    simp only [h k (by omega)]
theorem hk_dn_zero {l : List Nat} {p s : Nat} : ∀ {k : Nat}, (∀ i, i < k → hk_c l (s + i) / 65536 = 4 → hk_e l (s + i) ≤ p) → hk_dn l p s k = 0
  | 0, _ => rfl
  | k + 1, h => by
    have a := hk_dn_zero (l := l) (p := p) (s := s) (k := k) (fun i hi => h i (by omega))
    unfold hk_dn
    rw [a, if_neg]
    intro z
    have := h k (by omega) z.1
    omega
theorem hk_dp_sub {l : List Nat} {s p : Nat} (h : s ≤ p) (hp : p < hk_e l s) : hk_dp l 0 p = hk_dp l 0 s + hk_dp l s p := by
  unfold hk_dp
  rw [show p - 0 = s + (p - s) by omega, hk_dn_add, Nat.zero_add, Nat.sub_zero]
  rw [hk_dn_congr (p := p) (p' := s) (s := 0) (k := s)]
  intro i hi
  rw [Nat.zero_add]
  constructor
  · intro z; omega
  · intro z
    have := hk_nest (l := l) (q := i) (s := s) (by omega) z
    omega
/-! lists built by a loop over positions -/
def hk_fm (f : Nat → List Nat) (a : Nat) : Nat → List Nat
  | 0 => []
  | k + 1 => hk_fm f a k ++ f (a + k)
theorem hk_fm_l (f : Nat → List Nat) : ∀ (k a : Nat), hk_fm f a (k + 1) = f a ++ hk_fm f (a + 1) k
  | 0, a => by simp [hk_fm]
  | k + 1, a => by
    show hk_fm f a (k + 1) ++ f (a + (k + 1)) = f a ++ (hk_fm f (a + 1) k ++ f (a + 1 + k))
    rw [hk_fm_l f k a, List.append_assoc, show a + (k + 1) = a + 1 + k by omega]
theorem hk_fm_len (f : Nat → Nat) (a : Nat) : ∀ k, (hk_fm (fun p => [f p]) a k).length = k
  | 0 => rfl
  | k + 1 => by
    show (hk_fm (fun p => [f p]) a k ++ [f (a + k)]).length = k + 1
    rw [List.length_append, hk_fm_len f a k]; rfl
theorem hk_fm_sub {l : List Nat} : ∀ (k a : Nat), a + k ≤ l.length → hk_fm (fun p => [hk_c l p]) a k = (l.drop a).take k
  | 0, a, _ => by rw [List.take_zero]; rfl
  | k + 1, a, h => by
    rw [hk_fm_l, hk_fm_sub k (a + 1) (by omega), hk_c_drop (l := l) (p := a) (by omega), List.take_succ_cons]; rfl
theorem hk_fm_all (l : List Nat) : hk_fm (fun p => [hk_c l p]) 0 l.length = l := by
  rw [hk_fm_sub l.length 0 (by omega), List.drop_zero, List.take_length]
theorem hk_fm_mem {f : Nat → List Nat} {a x : Nat} : ∀ {k : Nat}, x ∈ hk_fm f a k → ∃ i, i < k ∧ x ∈ f (a + i)
  | 0, h => by cases h
  | k + 1, h => by
    rcases List.mem_append.mp h with z | z
    · obtain ⟨i, hi, e⟩ := hk_fm_mem z
      exact ⟨i, by omega, e⟩
    · exact ⟨k, by omega, z⟩
theorem hk_fm_congr {f g : Nat → List Nat} {a : Nat} : ∀ {k : Nat}, (∀ i, i < k → f (a + i) = g (a + i)) → hk_fm f a k = hk_fm g a k
  | 0, _ => rfl
  | k + 1, h => by
    show hk_fm f a k ++ f (a + k) = hk_fm g a k ++ g (a + k)
    rw [hk_fm_congr (fun i hi => h i (by omega)), h k (by omega)]
theorem hk_fm_run {f : Nat → List Nat} {g : Nat → Nat} {a n : Nat} : ∀ {k m : Nat},
    (∀ i, i < k → ∀ j, hk_run (j + 1) (f (a + i)) = some (j + hk_ar (g (a + i)))) →
    hk_run n (hk_fm (fun p => [g p]) a k) = some m → hk_run n (hk_fm f a k) = some m
  | 0, m, _, h => h
  | k + 1, m, hf, h => by
    obtain ⟨j, h1, h2⟩ := hk_run_spl _ _ _ _ h
    obtain ⟨i, rfl, rfl⟩ := hk_run_one h2
    have q := hk_fm_run (fun i hi => hf i (by omega)) h1
    show hk_run n (hk_fm f a k ++ f (a + k)) = _
    rw [hk_run_app _ _ _ _ q]
    exact hf k (by omega) i
theorem hk_run1 {l : List Nat} (h : hk_run 1 l = some 0) (j : Nat) : hk_run (j + 1) l = some j := by
  have := hk_run_add l 1 0 j h
  rw [Nat.add_comm 1 j, Nat.zero_add] at this
  exact this
theorem hk_run_c (j c : Nat) : hk_run (j + 1) [c] = some (j + hk_ar c) := by rw [hk_run_s, hk_run_nil]
theorem hk_run_len : ∀ {l : List Nat} {n : Nat}, hk_run n l = some 0 → n ≤ l.length
  | [], n, h => by
    rw [hk_run_nil] at h
    have e : n = 0 := Option.some.inj h
    omega
  | c :: l, 0, h => Nat.zero_le _
  | c :: l, n + 1, h => by
    rw [hk_run_s] at h
    have := hk_run_len h
    rw [List.length_cons]; omega
theorem hk_c_sub {l : List Nat} {a n i : Nat} (hi : i < n) : hk_c ((l.drop a).take n) i = hk_c l (a + i) := by
  unfold hk_c
  rw [List.getD_eq_getElem?_getD, List.getD_eq_getElem?_getD, List.getElem?_take, if_pos hi, List.getElem?_drop]
end
section
/-! good terms: complete, small, codes below the bound, EQ nodes at types below n -/
def hk_gc (n c : Nat) : Prop := c < 524288 ∧ (c / 65536 = 2 → c % 256 < n)
def hk_gt (n : Nat) (l : List Nat) : Prop := hk_run 1 l = some 0 ∧ l.length ≤ 32 ∧ ∀ c, c ∈ l → hk_gc n c
theorem hk_gt_mono {n m : Nat} {l : List Nat} (h : hk_gt n l) (hm : n ≤ m) : hk_gt m l :=
  ⟨h.1, h.2.1, fun c hc => ⟨(h.2.2 c hc).1, fun z => Nat.lt_of_lt_of_le ((h.2.2 c hc).2 z) hm⟩⟩
theorem hk_gt_pos {n : Nat} {l : List Nat} (h : hk_gt n l) : 0 < l.length := hk_at_lt (hk_at0 h.1)
theorem hk_gt_c {n : Nat} {l : List Nat} (h : hk_gt n l) {p : Nat} (hp : p < l.length) : hk_gc n (hk_c l p) := h.2.2 _ (hk_c_mem hp)
/-- a term whose first node is a leaf is that node -/
theorem hk_leaf {l : List Nat} (h : hk_run 1 l = some 0) (h0 : hk_ar (hk_c l 0) = 0) : l = [hk_c l 0] := by
  have hp := hk_at_lt (hk_at0 h)
  have q := hk_at_s (hk_at0 h)
  rw [h0] at q
  have e := hk_c_drop hp
  rw [List.drop_zero] at e
  cases hd : l.drop (0 + 1) with
  | nil => rw [hd] at e; exact e
  | cons c t =>
    have := q.2
    rw [hd] at this
    cases this
theorem hk_ar_k {c k : Nat} (h : c / 65536 = k) (h3 : k ≠ 3) (h4 : k ≠ 4) : hk_ar c = 0 := by
  unfold hk_ar; rw [h, if_neg h3, if_neg h4]
theorem hk_ar_3 {c : Nat} (h : c / 65536 = 3) : hk_ar c = 2 := by unfold hk_ar; rw [if_pos h]
theorem hk_ar_4 {c : Nat} (h : c / 65536 = 4) : hk_ar c = 1 := by unfold hk_ar; rw [h]; rfl
/-! abstraction -/
def hk_ab1 (l : List Nat) (s vc p : Nat) : Nat := if hk_c l p = vc then 327680 + hk_dp l s p * 256 + vc % 256 else hk_c l p
def hk_abl (l : List Nat) (s k vc : Nat) : List Nat := (262144 + vc % 256) :: hk_fm (fun p => [hk_ab1 l s vc p]) s k
theorem hk_dp_le (l : List Nat) (s p : Nat) : hk_dp l s p ≤ p := by
  have := hk_dn_le l p s (p - s)
  unfold hk_dp; omega
theorem hk_abl_len (l : List Nat) (s k vc : Nat) : (hk_abl l s k vc).length = k + 1 := by
  unfold hk_abl; rw [List.length_cons, hk_fm_len]
theorem hk_bound {d t : Nat} (hd : d ≤ 32) (ht : t < 256) : (327680 + d * 256 + t) / 65536 = 5 ∧ 327680 + d * 256 + t < 524288 := by omega
theorem hk_abl_run {l : List Nat} {s k vc : Nat} (hs : s + k ≤ 32) (hv : vc / 65536 = 1) (h : hk_run 1 (hk_fm (fun p => [hk_c l p]) s k) = some 0) : hk_run 1 (hk_abl l s k vc) = some 0 := by
  unfold hk_abl
  rw [hk_run_s, hk_ar_4 (by omega)]
  refine hk_fm_run (g := hk_c l) ?_ h
  intro i hi j
  rw [hk_run_c]
  apply congrArg some
  unfold hk_ab1
  split
  · rename_i e
    have := hk_dp_le l s (s + i)
    rw [e, hk_ar_k hv (by decide) (by decide), hk_ar_k (hk_bound (d := hk_dp l s (s + i)) (by omega) (Nat.mod_lt vc (by decide))).1 (by decide) (by decide)]
  · rfl
theorem hk_abl_gc {n : Nat} {l : List Nat} {s k vc : Nat} (hs : s + k ≤ l.length) (h32 : l.length ≤ 32) (h : ∀ c, c ∈ l → hk_gc n c) : ∀ c, c ∈ hk_abl l s k vc → hk_gc n c := by
  intro c hc
  rcases List.mem_cons.mp hc with z | z
  · have := Nat.mod_lt vc (show 0 < 256 by decide)
    exact ⟨by omega, fun y => by omega⟩
  · obtain ⟨i, hi, e⟩ := hk_fm_mem z
    have e := List.mem_singleton.mp e
    unfold hk_ab1 at e
    split at e
    · have h1 := hk_dp_le l s (s + i)
      obtain ⟨h2, h3⟩ := hk_bound (d := hk_dp l s (s + i)) (t := vc % 256) (by omega) (Nat.mod_lt vc (by decide))
      exact ⟨by omega, fun y => by omega⟩
    · rw [e]; exact h _ (hk_c_mem (by omega))
/-! substitution -/
def hk_sb (l : List Nat) (vc : Nat) (u : List Nat) : List Nat := hk_fm (fun p => if hk_c l p = vc then u else [hk_c l p]) 0 l.length
theorem hk_sb_run {l u : List Nat} {vc : Nat} (h : hk_run 1 l = some 0) (hv : vc / 65536 = 1) (hu : hk_run 1 u = some 0) : hk_run 1 (hk_sb l vc u) = some 0 := by
  unfold hk_sb
  refine hk_fm_run (g := hk_c l) ?_ (by rw [hk_fm_all]; exact h)
  intro i hi j
  split
  · rename_i e
    rw [hk_run1 hu j, e, hk_ar_k hv (by decide) (by decide)]; rfl
  · exact hk_run_c _ _
theorem hk_sb_gc {n : Nat} {l u : List Nat} {vc : Nat} (h : ∀ c, c ∈ l → hk_gc n c) (hu : ∀ c, c ∈ u → hk_gc n c) : ∀ c, c ∈ hk_sb l vc u → hk_gc n c := by
  intro c hc
  obtain ⟨i, hi, e⟩ := hk_fm_mem hc
  split at e
  · exact hu c e
  · rw [List.mem_singleton.mp e]; exact h _ (hk_c_mem (by omega))
/-! contraction -/
def hk_lf (l : List Nat) (a k q : Nat) : Nat := if hk_c l q / 65536 = 5 ∧ hk_dp l a q ≤ hk_c l q / 256 % 256 then hk_c l q + k * 256 else hk_c l q
def hk_cb (l : List Nat) (b a r p : Nat) : List Nat :=
  if hk_c l p / 65536 = 5 ∧ hk_c l p / 256 % 256 = hk_dp l b p then hk_fm (fun q => [hk_lf l a (hk_dp l b p) q]) a (r - a)
  else if hk_c l p / 65536 = 5 ∧ hk_dp l b p < hk_c l p / 256 % 256 then [hk_c l p - 256] else [hk_c l p]
/-- the contraction of the redex at r of l -/
def hk_con (l : List Nat) (r : Nat) : List Nat :=
  hk_fm (fun p => [hk_c l p]) 0 r ++ hk_fm (hk_cb l (r + 2) (hk_e l (r + 2)) (hk_e l (hk_e l (r + 2)))) (r + 2) (hk_e l (r + 2) - (r + 2)) ++
    hk_fm (fun p => [hk_c l p]) (hk_e l (hk_e l (r + 2))) (l.length - hk_e l (hk_e l (r + 2)))
def hk_rx (l : List Nat) (p : Nat) : Prop := p + 1 < l.length ∧ hk_c l p / 65536 = 3 ∧ hk_c l (p + 1) / 65536 = 4
/-- where the pieces of a redex lie -/
theorem hk_rx_at {l : List Nat} (h : hk_run 1 l = some 0) {r : Nat} (hr : hk_rx l r) :
    ∃ m, hk_run 1 (l.take r) = some (m + 1) ∧ hk_at l (r + 2) (m + 2) ∧ hk_at l (hk_e l (r + 2)) (m + 1) ∧ hk_at l (hk_e l (hk_e l (r + 2))) m ∧ r + 2 < hk_e l (r + 2) ∧ hk_e l (r + 2) < hk_e l (hk_e l (r + 2)) ∧
      hk_run 1 ((l.drop (r + 2)).take (hk_e l (r + 2) - (r + 2))) = some 0 ∧ hk_run 1 ((l.drop (hk_e l (r + 2))).take (hk_e l (hk_e l (r + 2)) - hk_e l (r + 2))) = some 0 := by
  obtain ⟨m, h1, h2⟩ := hk_at_ex h (show r < l.length by have := hr.1; omega)
  have h3 := hk_at_s h2
  rw [hk_ar_3 hr.2.1] at h3
  have h4 := hk_at_s h3
  rw [hk_ar_4 hr.2.2] at h4
  obtain ⟨a1, a2, a3⟩ := hk_at_end h4
  obtain ⟨b1, b2, b3⟩ := hk_at_end a2
  exact ⟨m, h1, h4, a2, b2, a1, b1, a3, b3⟩
theorem hk_lf_ar {l : List Nat} {a k q : Nat} (hk : k ≤ 32) : hk_ar (hk_lf l a k q) = hk_ar (hk_c l q) := by
  unfold hk_lf
  split
  · rename_i z
    rw [hk_ar_k z.1 (by decide) (by decide)]
    rcases Nat.lt_or_ge (hk_c l q + k * 256) 393216 with y | y
    · exact hk_ar_k (k := 5) (by omega) (by decide) (by decide)
    · exact hk_ar_k (k := 6) (by omega) (by decide) (by decide)
  · rfl
theorem hk_lf_gc {n : Nat} {l : List Nat} {a k q : Nat} (hk : k ≤ 32) (h : hk_gc n (hk_c l q)) : hk_gc n (hk_lf l a k q) := by
  unfold hk_lf
  split
  · rename_i z
    exact ⟨by omega, fun y => by omega⟩
  · exact h
theorem hk_con_run {l : List Nat} (h : hk_run 1 l = some 0) (h32 : l.length ≤ 32) {r : Nat} (hr : hk_rx l r) : hk_run 1 (hk_con l r) = some 0 := by
  obtain ⟨m, t1, t2, t3, t4, o1, o2, s1, s2⟩ := hk_rx_at h hr
  have w := t4.1
  unfold hk_con
  rw [hk_fm_sub r 0 (by have := hr.1; omega), List.drop_zero, List.append_assoc, hk_run_app _ _ _ _ t1]
  have B : hk_run 1 (hk_fm (hk_cb l (r + 2) (hk_e l (r + 2)) (hk_e l (hk_e l (r + 2)))) (r + 2) (hk_e l (r + 2) - (r + 2))) = some 0 := by
    refine hk_fm_run (g := hk_c l) ?_ (by rw [hk_fm_sub _ _ (by omega)]; exact s1)
    intro i hi j
    have hd := hk_dp_le l (r + 2) (r + 2 + i)
    unfold hk_cb
    split
    · rename_i z
      rw [hk_ar_k z.1 (by decide) (by decide)]
      refine hk_run1 ?_ j
      refine hk_fm_run (g := hk_c l) ?_ (by rw [hk_fm_sub _ _ (by omega)]; exact s2)
      intro i' hi' j'
      rw [hk_run_c, hk_lf_ar (by omega)]
    · split
      · rename_i z
        rw [hk_run_c, hk_ar_k z.1 (by decide) (by decide), hk_ar_k (k := 5) (by omega) (by decide) (by decide)]
      · exact hk_run_c _ _
  rw [hk_run_app _ _ _ _ (hk_run1 B m), hk_fm_sub _ _ (by omega), List.take_of_length_le (by rw [List.length_drop]; omega)]
  exact t4.2
theorem hk_con_gc {n : Nat} {l : List Nat} (h : hk_run 1 l = some 0) (h32 : l.length ≤ 32) {r : Nat} (hr : hk_rx l r) (hg : ∀ c, c ∈ l → hk_gc n c) : ∀ c, c ∈ hk_con l r → hk_gc n c := by
  obtain ⟨m, t1, t2, t3, t4, o1, o2, s1, s2⟩ := hk_rx_at h hr
  have w := t4.1
  have w1 := hr.1
  intro c hc
  unfold hk_con at hc
  rcases List.mem_append.mp hc with hc | hc
  · rcases List.mem_append.mp hc with hc | hc
    · obtain ⟨i, hi, e⟩ := hk_fm_mem hc
      rw [List.mem_singleton.mp e]; exact hg _ (hk_c_mem (by omega))
    · obtain ⟨i, hi, e⟩ := hk_fm_mem hc
      have hd := hk_dp_le l (r + 2) (r + 2 + i)
      have g := hg _ (hk_c_mem (l := l) (p := r + 2 + i) (by omega))
      unfold hk_cb at e
      split at e
      · obtain ⟨i', hi', e'⟩ := hk_fm_mem e
        rw [List.mem_singleton.mp e']
        exact hk_lf_gc (by omega) (hg _ (hk_c_mem (by omega)))
      · split at e
        · rename_i z
          rw [List.mem_singleton.mp e]
          exact ⟨by have := g.1; omega, fun y => by omega⟩
        · rw [List.mem_singleton.mp e]; exact g
  · obtain ⟨i, hi, e⟩ := hk_fm_mem hc
    rw [List.mem_singleton.mp e]; exact hg _ (hk_c_mem (by omega))
/-! equations -/
def hk_eq (a : Nat) (s t : List Nat) : List Nat := 196608 :: 196608 :: (131072 + a) :: (s ++ t)
theorem hk_eq_run {a : Nat} {s t : List Nat} (ha : a < 256) (hs : hk_run 1 s = some 0) (ht : hk_run 1 t = some 0) : hk_run 1 (hk_eq a s t) = some 0 := by
  unfold hk_eq
  rw [hk_run_s, hk_ar_3 (by decide), hk_run_s, hk_ar_3 (by decide), hk_run_s, hk_ar_k (k := 2) (by omega) (by decide) (by decide)]
  show hk_run 2 _ = _
  rw [hk_run_app _ _ _ _ (hk_run1 hs 1)]
  exact ht
theorem hk_eq_gc {n a : Nat} {s t : List Nat} (ha : a < n) (hn : n ≤ 48) (hs : ∀ c, c ∈ s → hk_gc n c) (ht : ∀ c, c ∈ t → hk_gc n c) : ∀ c, c ∈ hk_eq a s t → hk_gc n c := by
  intro c hc
  unfold hk_eq at hc
  rcases List.mem_cons.mp hc with e | hc
  · exact ⟨by omega, fun y => by omega⟩
  · rcases List.mem_cons.mp hc with e | hc
    · exact ⟨by omega, fun y => by omega⟩
    · rcases List.mem_cons.mp hc with e | hc
      · exact ⟨by omega, fun y => by omega⟩
      · rcases List.mem_append.mp hc with e | e
        · exact hs c e
        · exact ht c e
theorem hk_eq_len (a : Nat) (s t : List Nat) : (hk_eq a s t).length = 3 + s.length + t.length := by
  unfold hk_eq
  rw [List.length_cons, List.length_cons, List.length_cons, List.length_append]; omega
def hk_ise (l : List Nat) : Prop := hk_c l 0 / 65536 = 3 ∧ hk_c l 1 / 65536 = 3 ∧ hk_c l 2 / 65536 = 2
/-- an equation's sides: from 3 to hk_e l 3, and from there to the end -/
theorem hk_ise_at {l : List Nat} (h : hk_run 1 l = some 0) (he : hk_ise l) :
    hk_at l 3 2 ∧ hk_at l (hk_e l 3) 1 ∧ 3 < hk_e l 3 ∧ hk_e l 3 < l.length ∧ hk_e l (hk_e l 3) = l.length ∧
      hk_run 1 ((l.drop 3).take (hk_e l 3 - 3)) = some 0 ∧ hk_run 1 (l.drop (hk_e l 3)) = some 0 := by
  have h0 := hk_at_s (hk_at0 h)
  rw [hk_ar_3 he.1] at h0
  have h1 := hk_at_s h0
  rw [hk_ar_3 he.2.1] at h1
  have h2 := hk_at_s h1
  rw [hk_ar_k he.2.2 (by decide) (by decide)] at h2
  obtain ⟨a1, a2, a3⟩ := hk_at_end h2
  obtain ⟨b1, b2, b3⟩ := hk_at_end a2
  have e : hk_e l (hk_e l 3) = l.length := by
    rcases Nat.lt_or_ge (hk_e l (hk_e l 3)) l.length with z | z
    · have := b2.2
      rw [hk_c_drop z] at this
      cases this
    · exact Nat.le_antisymm b2.1 z
  exact ⟨h2, a2, a1, hk_at_lt a2, e, a3, a2.2⟩
/-- the nodes above a position in the left side, and in the right side -/
theorem hk_ise_dl {l : List Nat} (he : hk_ise l) {p : Nat} (h3 : 3 ≤ p) : hk_dp l 0 p = hk_dp l 3 p := by
  unfold hk_dp
  rw [show p - 0 = 3 + (p - 3) by omega, hk_dn_add, Nat.zero_add, hk_dn_zero, Nat.zero_add]
  intro i hi h4
  rw [Nat.zero_add] at h4
  obtain ⟨e0, e1, e2⟩ := he
  have : i = 0 ∨ i = 1 ∨ i = 2 := by omega
  rcases this with rfl | rfl | rfl <;> omega
theorem hk_ise_dr {l : List Nat} (he : hk_ise l) {p : Nat} (h3 : 3 < hk_e l 3) (hp : hk_e l 3 ≤ p) : hk_dp l 0 p = hk_dp l (hk_e l 3) p := by
  rw [hk_ise_dl he (by omega)]
  unfold hk_dp
  rw [show p - 3 = (hk_e l 3 - 3) + (p - hk_e l 3) by omega, hk_dn_add, hk_dn_zero, Nat.zero_add, show 3 + (hk_e l 3 - 3) = hk_e l 3 by omega]
  intro i hi _
  have := hk_nest (l := l) (q := 3) (s := 3 + i) (by omega) (by omega)
  omega
theorem hk_fm_le {f : Nat → List Nat} {a m : Nat} : ∀ {k : Nat}, (∀ i, i < k → (f (a + i)).length ≤ m) → (hk_fm f a k).length ≤ k * m
  | 0, _ => Nat.zero_le _
  | k + 1, h => by
    have q := hk_fm_le (f := f) (a := a) (m := m) (k := k) (fun i hi => h i (by omega))
    have w := h k (by omega)
    show (hk_fm f a k ++ f (a + k)).length ≤ _
    rw [List.length_append, Nat.add_mul, Nat.one_mul]
    omega
theorem hk_sb_len {l u : List Nat} {vc : Nat} (hl : l.length ≤ 32) (hu : u.length ≤ 32) : (hk_sb l vc u).length ≤ 2000 := by
  have q := hk_fm_le (f := fun p => if hk_c l p = vc then u else [hk_c l p]) (a := 0) (m := 32) (k := l.length) (fun i hi => by
    split
    · exact hu
    · show 1 ≤ 32; decide)
  unfold hk_sb
  omega
theorem hk_con_len {l : List Nat} (h : hk_run 1 l = some 0) (h32 : l.length ≤ 32) {r : Nat} (hr : hk_rx l r) : (hk_con l r).length ≤ 2000 := by
  obtain ⟨m, t1, t2, t3, t4, o1, o2, s1, s2⟩ := hk_rx_at h hr
  have w := t4.1
  have w1 := hr.1
  have q := hk_fm_le (f := hk_cb l (r + 2) (hk_e l (r + 2)) (hk_e l (hk_e l (r + 2)))) (a := r + 2) (m := 32) (k := hk_e l (r + 2) - (r + 2)) (fun i hi => by
    unfold hk_cb
    split
    · rw [hk_fm_len]; omega
    · split
      · show 1 ≤ 32; decide
      · show 1 ≤ 32; decide)
  unfold hk_con
  rw [List.length_append, List.length_append, hk_fm_len, hk_fm_len]
  omega
end
section
/-! the order of terms -/
def hk_lt : List Nat → List Nat → Bool
  | _, [] => false
  | [], _ :: _ => true
  | a :: s, b :: t => if a < b then true else if b < a then false else hk_lt s t
theorem hk_lt_n (a : List Nat) : hk_lt a [] = false := by cases a <;> rfl
theorem hk_lt_e (b : Nat) (t : List Nat) : hk_lt [] (b :: t) = true := rfl
theorem hk_lt_c (a b : Nat) (s t : List Nat) : hk_lt (a :: s) (b :: t) = if a < b then true else if b < a then false else hk_lt s t := rfl
theorem hk_lt_irr : ∀ a : List Nat, hk_lt a a = false
  | [] => rfl
  | a :: s => by rw [hk_lt_c, if_neg (Nat.lt_irrefl a), if_neg (Nat.lt_irrefl a)]; exact hk_lt_irr s
theorem hk_lt_trans : ∀ {a b c : List Nat}, hk_lt a b = true → hk_lt b c = true → hk_lt a c = true
  | a, b, [], _, h => by rw [hk_lt_n] at h; cases h
  | a, [], _ :: _, h, _ => by rw [hk_lt_n] at h; cases h
  | [], _ :: _, _ :: _, _, _ => rfl
  | a :: s, b :: t, c :: r, h, h' => by
    rw [hk_lt_c] at h h' ⊢
    by_cases x : a < c
    · rw [if_pos x]
    · rw [if_neg x]
      by_cases y : c < a
      · exfalso
        by_cases z : a < b
        · rw [if_neg (by omega : ¬ b < c), if_pos (by omega : c < b)] at h'; cases h'
        · rw [if_neg z] at h
          by_cases w : b < a
          · rw [if_pos w] at h; cases h
          · rw [if_neg (by omega : ¬ b < c), if_pos (by omega : c < b)] at h'; cases h'
      · rw [if_neg y]
        have e : a = c := by omega
        subst e
        by_cases z : a < b
        · rw [if_neg (by omega : ¬ b < a), if_pos z] at h'; cases h'
        · rw [if_neg z] at h
          by_cases w : b < a
          · rw [if_pos w] at h; cases h
          · rw [if_neg w] at h
            rw [if_neg w, if_neg z] at h'
            exact hk_lt_trans h h'
theorem hk_lt_tri : ∀ {a b : List Nat}, hk_lt a b = false → hk_lt b a = false → a = b
  | [], [], _, _ => rfl
  | [], _ :: _, h, _ => by rw [hk_lt_e] at h; cases h
  | _ :: _, [], _, h => by rw [hk_lt_e] at h; cases h
  | a :: s, b :: t, h, h' => by
    rw [hk_lt_c] at h h'
    by_cases x : a < b
    · rw [if_pos x] at h; cases h
    · by_cases y : b < a
      · rw [if_pos y] at h'; cases h'
      · rw [if_neg x, if_neg y] at h
        rw [if_neg y, if_neg x] at h'
        have e : a = b := by omega
        rw [e, hk_lt_tri h h']
/-! insertion, and the union it makes -/
def hk_ins (t : List Nat) : List (List Nat) → List (List Nat)
  | [] => [t]
  | h :: r => if hk_lt h t = true then h :: hk_ins t r else if h = t then h :: r else t :: h :: r
def hk_sd (S : List (List Nat)) : Prop := S.Pairwise (fun a b => hk_lt a b = true)
theorem hk_ins_mem {t x : List Nat} : ∀ {S : List (List Nat)}, x ∈ hk_ins t S ↔ x = t ∨ x ∈ S
  | [] => by simp [hk_ins]
  | h :: r => by
    unfold hk_ins
    split
    · rw [List.mem_cons, hk_ins_mem, List.mem_cons]
      constructor
      · rintro (e | e | e)
        · exact Or.inr (Or.inl e)
        · exact Or.inl e
        · exact Or.inr (Or.inr e)
      · rintro (e | e | e)
        · exact Or.inr (Or.inl e)
        · exact Or.inl e
        · exact Or.inr (Or.inr e)
    · split
      · rename_i e
        constructor
        · exact Or.inr
        · rintro (z | z)
          · rw [z, ← e]; exact List.mem_cons_self
          · exact z
      · exact List.mem_cons
theorem hk_ins_sd {t : List Nat} : ∀ {S : List (List Nat)}, hk_sd S → hk_sd (hk_ins t S)
  | [], _ => List.pairwise_singleton _ _
  | h :: r, hs => by
    obtain ⟨h1, h2⟩ := List.pairwise_cons.mp hs
    unfold hk_ins
    split
    · rename_i z
      refine List.pairwise_cons.mpr ⟨fun x hx => ?_, hk_ins_sd h2⟩
      rcases hk_ins_mem.mp hx with e | e
      · rw [e]; exact z
      · exact h1 x e
    · rename_i z
      split
      · exact hs
      · rename_i y
        have z : hk_lt h t = false := by cases q : hk_lt h t with
          | false => rfl
          | true => exact absurd q z
        have w : hk_lt t h = true := by cases q : hk_lt t h with
          | true => rfl
          | false => exact absurd (hk_lt_tri z q) y
        refine List.pairwise_cons.mpr ⟨fun x hx => ?_, hs⟩
        rcases List.mem_cons.mp hx with e | e
        · rw [e]; exact w
        · exact hk_lt_trans w (h1 x e)
theorem hk_ins_len {t : List Nat} : ∀ {S : List (List Nat)}, S.length ≤ (hk_ins t S).length ∧ (hk_ins t S).length ≤ S.length + 1
  | [] => by simp [hk_ins]
  | h :: r => by
    have := hk_ins_len (t := t) (S := r)
    unfold hk_ins
    split
    · rw [List.length_cons, List.length_cons]; omega
    · split
      · exact ⟨Nat.le_refl _, Nat.le_succ _⟩
      · rw [List.length_cons (a := t)]; exact ⟨Nat.le_succ _, Nat.le_refl _⟩
/-- the union of ts with S, one by one -/
def hk_un (S : List (List Nat)) : List (List Nat) → List (List Nat)
  | [] => S
  | t :: ts => hk_un (hk_ins t S) ts
theorem hk_un_sd : ∀ {ts S : List (List Nat)}, hk_sd S → hk_sd (hk_un S ts)
  | [], _, h => h
  | t :: ts, S, h => hk_un_sd (ts := ts) (S := hk_ins t S) (hk_ins_sd h)
theorem hk_un_mem {x : List Nat} : ∀ {ts S : List (List Nat)}, x ∈ hk_un S ts ↔ x ∈ ts ∨ x ∈ S
  | [], S => by simp [hk_un]
  | t :: ts, S => by
    show x ∈ hk_un (hk_ins t S) ts ↔ _
    rw [hk_un_mem, hk_ins_mem, List.mem_cons]
    constructor
    · rintro (e | e | e)
      · exact Or.inl (Or.inr e)
      · exact Or.inl (Or.inl e)
      · exact Or.inr e
    · rintro ((e | e) | e)
      · exact Or.inr (Or.inl e)
      · exact Or.inl e
      · exact Or.inr (Or.inr e)
theorem hk_un_len : ∀ {ts S : List (List Nat)}, S.length ≤ (hk_un S ts).length ∧ (hk_un S ts).length ≤ S.length + ts.length
  | [], S => ⟨Nat.le_refl _, Nat.le_refl _⟩
  | t :: ts, S => by
    have a := hk_ins_len (t := t) (S := S)
    have b := hk_un_len (ts := ts) (S := hk_ins t S)
    show S.length ≤ (hk_un (hk_ins t S) ts).length ∧ (hk_un (hk_ins t S) ts).length ≤ _
    rw [List.length_cons]; omega
theorem hk_un_app : ∀ {a b S : List (List Nat)}, hk_un S (a ++ b) = hk_un (hk_un S a) b
  | [], _, _ => rfl
  | _ :: a, b, S => hk_un_app (a := a)
/-! selection: the least element beyond the r first -/
def hk_byd (S : List (List Nat)) (r : Nat) (x : List Nat) : Prop := r = 0 ∨ hk_lt (S.getD (r - 1) []) x = true
theorem hk_gd {S : List (List Nat)} {i : Nat} (h : i < S.length) : S.getD i [] = S[i] := by
  simp [List.getD_eq_getElem?_getD, List.getElem?_eq_getElem h]
theorem hk_sd_lt {S : List (List Nat)} (hs : hk_sd S) {i j : Nat} (hij : i < j) (hj : j < S.length) : hk_lt (S.getD i []) (S.getD j []) = true := by
  rw [hk_gd (by omega), hk_gd hj]
  exact List.pairwise_iff_getElem.mp hs i j (by omega) hj hij
theorem hk_byd_ge {S : List (List Nat)} (hs : hk_sd S) {r i : Nat} (hr : r ≤ S.length) (hi : i < S.length) (h : hk_byd S r (S.getD i [])) : r ≤ i := by
  rcases h with h | h
  · omega
  · rcases Nat.lt_or_ge i r with z | z
    · exfalso
      rcases Nat.lt_or_ge i (r - 1) with y | y
      · have := hk_lt_trans h (hk_sd_lt hs y (by omega))
        rw [hk_lt_irr] at this; cases this
      · rw [show r - 1 = i by omega, hk_lt_irr] at h; cases h
    · exact z
theorem hk_byd_r {S : List (List Nat)} (hs : hk_sd S) {r : Nat} (hr : r < S.length) : hk_byd S r (S.getD r []) := by
  rcases Nat.eq_zero_or_pos r with z | z
  · exact Or.inl z
  · exact Or.inr (hk_sd_lt hs (by omega) hr)
theorem hk_mem_ix {S : List (List Nat)} {x : List Nat} (h : x ∈ S) : ∃ i, i < S.length ∧ S.getD i [] = x := by
  obtain ⟨i, hi, e⟩ := List.getElem_of_mem h
  exact ⟨i, hi, by rw [hk_gd hi]; exact e⟩
theorem hk_ix_mem {S : List (List Nat)} {i : Nat} (h : i < S.length) : S.getD i [] ∈ S := by
  rw [hk_gd h]; exact List.getElem_mem h
theorem hk_sel {S : List (List Nat)} (hs : hk_sd S) {r : Nat} (hr : r < S.length) {x : List Nat} (hx : x ∈ S) (hb : hk_byd S r x) (hm : ∀ y, y ∈ S → hk_byd S r y → hk_lt y x = false) : x = S.getD r [] := by
  obtain ⟨i, hi, rfl⟩ := hk_mem_ix hx
  have h1 := hk_byd_ge hs (by omega) hi hb
  rcases Nat.lt_or_ge r i with z | z
  · have := hm _ (hk_ix_mem hr) (hk_byd_r hs hr)
    rw [hk_sd_lt hs z hi] at this; cases this
  · rw [show i = r by omega]
/-! where a term is inserted -/
def hk_pos (t : List Nat) : List (List Nat) → Nat
  | [] => 0
  | h :: r => if hk_lt h t = true then hk_pos t r + 1 else 0
theorem hk_pos_t {t h : List Nat} {r : List (List Nat)} (z : hk_lt h t = true) : hk_pos t (h :: r) = hk_pos t r + 1 := by rw [hk_pos]; exact if_pos z
theorem hk_pos_f {t h : List Nat} {r : List (List Nat)} (z : ¬ hk_lt h t = true) : hk_pos t (h :: r) = 0 := by rw [hk_pos]; exact if_neg z
theorem hk_pos_le {t : List Nat} : ∀ {H : List (List Nat)}, hk_pos t H ≤ H.length
  | [] => Nat.le_refl _
  | h :: r => by
    have := hk_pos_le (t := t) (H := r)
    by_cases z : hk_lt h t = true
    · rw [hk_pos_t z, List.length_cons]; omega
    · rw [hk_pos_f z]; exact Nat.zero_le _
theorem hk_gd_drop {S : List (List Nat)} {i : Nat} (h : i < S.length) : S.drop i = S.getD i [] :: S.drop (i + 1) := by
  rw [List.drop_eq_getElem_cons h, hk_gd h]
theorem hk_ins_same {t : List Nat} : ∀ {H : List (List Nat)}, hk_pos t H < H.length → H.getD (hk_pos t H) [] = t → hk_ins t H = H
  | [], h, _ => absurd h (Nat.not_lt_zero _)
  | h :: r, hp, he => by
    by_cases z : hk_lt h t = true
    · rw [hk_pos_t z] at hp he
      rw [List.getD_cons_succ] at he
      rw [hk_ins, if_pos z, hk_ins_same (by rw [List.length_cons] at hp; omega) he]
    · rw [hk_pos_f z] at he
      have he : h = t := he
      rw [hk_ins, if_neg z, if_pos he]
theorem hk_ins_new {t : List Nat} : ∀ {H : List (List Nat)}, (hk_pos t H < H.length → H.getD (hk_pos t H) [] ≠ t) → hk_ins t H = H.take (hk_pos t H) ++ t :: H.drop (hk_pos t H)
  | [], _ => rfl
  | h :: r, hp => by
    by_cases z : hk_lt h t = true
    · rw [hk_pos_t z] at hp ⊢
      rw [hk_ins, if_pos z, List.take_succ_cons, List.drop_succ_cons, List.cons_append, ← hk_ins_new]
      intro w
      have := hp (by rw [List.length_cons]; omega)
      rw [List.getD_cons_succ] at this
      exact this
    · rw [hk_pos_f z] at hp ⊢
      have : h ≠ t := hp (by rw [List.length_cons]; omega)
      rw [hk_ins, if_neg z, if_neg this]; rfl
/-- the terms at i of a list with t put in at q -/
theorem hk_put_lo {H : List (List Nat)} {t : List Nat} {q i : Nat} (hq : q ≤ H.length) (hi : i < q) : (H.take q ++ t :: H.drop q).getD i [] = H.getD i [] := by
  have a : i < (H.take q).length := by rw [List.length_take]; omega
  simp [List.getD_eq_getElem?_getD, List.getElem?_append_left a, List.getElem?_take, hi]
theorem hk_put_at {H : List (List Nat)} {t : List Nat} {q : Nat} (hq : q ≤ H.length) : (H.take q ++ t :: H.drop q).getD q [] = t := by
  have a : (H.take q).length = q := by rw [List.length_take]; omega
  have b : (H.take q).length ≤ q := by omega
  rw [List.getD_eq_getElem?_getD, List.getElem?_append_right b, a, Nat.sub_self]; rfl
theorem hk_put_hi {H : List (List Nat)} {t : List Nat} {q i : Nat} (hq : q ≤ H.length) (hi : q ≤ i) : (H.take q ++ t :: H.drop q).getD (i + 1) [] = H.getD i [] := by
  have a : (H.take q).length = q := by rw [List.length_take]; omega
  have b : (H.take q).length ≤ i + 1 := by omega
  rw [List.getD_eq_getElem?_getD, List.getElem?_append_right b, a, show i + 1 - q = (i - q) + 1 by omega, List.getElem?_cons_succ, List.getElem?_drop, show q + (i - q) = i by omega, List.getD_eq_getElem?_getD]
theorem hk_put_len {H : List (List Nat)} {t : List Nat} {q : Nat} (hq : q ≤ H.length) : (H.take q ++ t :: H.drop q).length = H.length + 1 := by
  rw [List.length_append, List.length_cons, List.length_take, List.length_drop]; omega
/-- slots from f on hold the terms of H -/
def hk_hs (hd : Nat → List Nat → Prop) (f : Nat) (H : List (List Nat)) : Prop := ∀ i, i < H.length → hd (f + i) (H.getD i [])
theorem hk_gd_l {C : List (List Nat)} {t : List Nat} {i : Nat} (h : i < C.length) : (C ++ [t]).getD i [] = C.getD i [] := by
  simp [List.getD_eq_getElem?_getD, List.getElem?_append_left h]
theorem hk_gd_r (C : List (List Nat)) (t : List Nat) : (C ++ [t]).getD C.length [] = t := by
  rw [List.getD_eq_getElem?_getD, List.getElem?_append_right (Nat.le_refl _), Nat.sub_self]; rfl
theorem hk_hs_app {hd : Nat → List Nat → Prop} {f : Nat} {C : List (List Nat)} {t : List Nat} (h : hk_hs hd f C) (ht : hd (f + C.length) t) : hk_hs hd f (C ++ [t]) := by
  intro i hi
  rw [List.length_append] at hi
  have hi : i < C.length + 1 := hi
  rcases Nat.lt_or_ge i C.length with z | z
  · rw [hk_gd_l z]; exact h i z
  · have e : i = C.length := by omega
    subst e
    rw [hk_gd_r]; exact ht
/-- the least candidate so far among those beyond the r first of S -/
def hk_best (S C : List (List Nat)) (r c : Nat) (x : Int32) : Prop :=
  (x = -1 ∧ ∀ j, j < c → ¬ hk_byd S r (C.getD j [])) ∨
  ∃ b, b < c ∧ x = nI b ∧ hk_byd S r (C.getD b []) ∧ ∀ j, j < c → hk_byd S r (C.getD j []) → hk_lt (C.getD j []) (C.getD b []) = false
theorem hk_best_0 (S C : List (List Nat)) (r : Nat) : hk_best S C r 0 (-1) := Or.inl ⟨rfl, fun j hj => absurd hj (Nat.not_lt_zero j)⟩
theorem hk_best_no {S C : List (List Nat)} {r c : Nat} {x : Int32} (h : hk_best S C r c x) (hn : ¬ hk_byd S r (C.getD c [])) : hk_best S C r (c + 1) x := by
  rcases h with ⟨e, h⟩ | ⟨b, hb, e, h1, h2⟩
  · refine Or.inl ⟨e, fun j hj => ?_⟩
    by_cases w : j = c
    · subst w; exact hn
    · exact h j (by omega)
  · refine Or.inr ⟨b, by omega, e, h1, fun j hj hy => ?_⟩
    by_cases w : j = c
    · subst w; exact absurd hy hn
    · exact h2 j (by omega) hy
theorem hk_best_first {S C : List (List Nat)} {r c : Nat} (h : ∀ j, j < c → ¬ hk_byd S r (C.getD j [])) (hn : hk_byd S r (C.getD c [])) : hk_best S C r (c + 1) (nI c) := by
  refine Or.inr ⟨c, by omega, rfl, hn, fun j hj hy => ?_⟩
  by_cases w : j = c
  · subst w; exact hk_lt_irr _
  · exact absurd hy (h j (by omega))
theorem hk_best_keep {S C : List (List Nat)} {r c b : Nat} (hb : b < c) (h1 : hk_byd S r (C.getD b [])) (h2 : ∀ j, j < c → hk_byd S r (C.getD j []) → hk_lt (C.getD j []) (C.getD b []) = false) (hn : hk_lt (C.getD c []) (C.getD b []) = false) : hk_best S C r (c + 1) (nI b) := by
  refine Or.inr ⟨b, by omega, rfl, h1, fun j hj hy => ?_⟩
  by_cases w : j = c
  · subst w; exact hn
  · exact h2 j (by omega) hy
theorem hk_best_new {S C : List (List Nat)} {r c b : Nat} (h2 : ∀ j, j < c → hk_byd S r (C.getD j []) → hk_lt (C.getD j []) (C.getD b []) = false) (hc : hk_byd S r (C.getD c [])) (hn : hk_lt (C.getD c []) (C.getD b []) = true) : hk_best S C r (c + 1) (nI c) := by
  refine Or.inr ⟨c, by omega, rfl, hc, fun j hj hy => ?_⟩
  by_cases w : j = c
  · subst w; exact hk_lt_irr _
  · cases q : hk_lt (C.getD j []) (C.getD c []) with
    | false => rfl
    | true =>
      have a := hk_lt_trans q hn
      rw [h2 j (by omega) hy] at a; cases a
theorem hk_ft (A : List (List Nat)) : A.filter (fun _ => true) = A := by
  induction A with
  | nil => rfl
  | cons a t ih => rw [List.filter_cons_of_pos rfl, ih]
theorem hk_un_gt {n : Nat} {S ts : List (List Nat)} (hS : ∀ y, y ∈ S → hk_gt n y) (ht : ∀ y, y ∈ ts → hk_gt n y) : ∀ y, y ∈ hk_un S ts → hk_gt n y := by
  intro y hy
  rcases hk_un_mem.mp hy with e | e
  · exact ht y e
  · exact hS y e
theorem hk_nilm {n : Nat} : ∀ y, y ∈ ([] : List (List Nat)) → hk_gt n y := fun y hy => absurd hy List.not_mem_nil
end
section
/-! the table of types: n, the domains D, the results C -/
def hk_up (f : Nat → Nat) (k x : Nat) : Nat → Nat := fun j => if j = k then x else f j
theorem hk_up_s (f : Nat → Nat) (k x : Nat) : hk_up f k x k = x := if_pos rfl
theorem hk_up_n {f : Nat → Nat} {k x j : Nat} (h : j ≠ k) : hk_up f k x j = f j := if_neg h
abbrev hk_T : Type := Nat × (Nat → Nat) × (Nat → Nat)
def hk_fd (D C : Nat → Nat) (d c : Nat) : Nat → Nat → Option Nat
  | 0, _ => none
  | k + 1, i => if D i = d ∧ C i = c then some i else hk_fd D C d c k (i + 1)
def hk_find (T : hk_T) (d c : Nat) : Option Nat := hk_fd T.2.1 T.2.2 d c (T.1 - 3) 3
theorem hk_fd_in {D C : Nat → Nat} {d c j : Nat} : ∀ {k i : Nat}, hk_fd D C d c k i = some j → i ≤ j ∧ j < i + k
  | 0, i, h => by cases h
  | k + 1, i, h => by
    unfold hk_fd at h
    split at h
    · cases h; omega
    · have := hk_fd_in h; omega
theorem hk_find_in {T : hk_T} {d c j : Nat} (h : hk_find T d c = some j) (hn : 3 ≤ T.1) : 3 ≤ j ∧ j < T.1 := by
  have := hk_fd_in h; omega
/-- interning fun(d,c): the handle, or none where the table is full, and the table then -/
def hk_it (T : hk_T) (d c : Nat) : Option Nat × hk_T :=
  match hk_find T d c with
  | some j => (some j, T)
  | none => if 48 ≤ T.1 then (none, T) else (some T.1, (T.1 + 1, hk_up T.2.1 T.1 d, hk_up T.2.2 T.1 c))
def hk_ti (T : hk_T) : Prop := 5 ≤ T.1 ∧ T.1 ≤ 48 ∧ T.2.1 3 = 0 ∧ T.2.2 3 = 0 ∧ T.2.1 4 = 0 ∧ T.2.2 4 = 3 ∧ ∀ i, 3 ≤ i → i < T.1 → T.2.1 i < T.1 ∧ T.2.2 i < T.1
theorem hk_it_f {T : hk_T} {d c j : Nat} (h : hk_find T d c = some j) : hk_it T d c = (some j, T) := by unfold hk_it; rw [h]
theorem hk_it_z {T : hk_T} {d c : Nat} (h : hk_find T d c = none) (hn : 48 ≤ T.1) : hk_it T d c = (none, T) := by unfold hk_it; rw [h]; exact if_pos hn
theorem hk_it_a {T : hk_T} {d c : Nat} (h : hk_find T d c = none) (hn : ¬ 48 ≤ T.1) : hk_it T d c = (some T.1, (T.1 + 1, hk_up T.2.1 T.1 d, hk_up T.2.2 T.1 c)) := by unfold hk_it; rw [h]; exact if_neg hn
theorem hk_it_ok {T : hk_T} {d c : Nat} (h : hk_ti T) (hd : d < T.1) (hc : c < T.1) :
    hk_ti (hk_it T d c).2 ∧ T.1 ≤ (hk_it T d c).2.1 ∧ (hk_it T d c).2.1 ≤ T.1 + 1 ∧ ∀ j, (hk_it T d c).1 = some j → 3 ≤ j ∧ j < (hk_it T d c).2.1 := by
  cases hf : hk_find T d c with
  | some j =>
    rw [hk_it_f hf]
    exact ⟨h, Nat.le_refl _, Nat.le_succ _, fun i e => by cases e; exact hk_find_in (T := T) hf (by have := h.1; omega)⟩
  | none =>
    by_cases z : 48 ≤ T.1
    · rw [hk_it_z hf z]
      exact ⟨h, Nat.le_refl _, Nat.le_succ _, fun i e => by cases e⟩
    · rw [hk_it_a hf z]
      obtain ⟨a1, a2, a3, a4, a5, a6, a7⟩ := h
      refine ⟨⟨by show 5 ≤ T.1 + 1; omega, by show T.1 + 1 ≤ 48; omega, ?_, ?_, ?_, ?_, ?_⟩, by show T.1 ≤ T.1 + 1; omega, by show T.1 + 1 ≤ T.1 + 1; omega, fun i e => by cases e; exact ⟨by omega, by show T.1 < T.1 + 1; omega⟩⟩
      · show hk_up T.2.1 T.1 d 3 = 0
        rw [hk_up_n (by omega)]; exact a3
      · show hk_up T.2.2 T.1 c 3 = 0
        rw [hk_up_n (by omega)]; exact a4
      · show hk_up T.2.1 T.1 d 4 = 0
        rw [hk_up_n (by omega)]; exact a5
      · show hk_up T.2.2 T.1 c 4 = 3
        rw [hk_up_n (by omega)]; exact a6
      · intro i h3 hi
        show hk_up T.2.1 T.1 d i < T.1 + 1 ∧ hk_up T.2.2 T.1 c i < T.1 + 1
        have hi : i < T.1 + 1 := hi
        by_cases e : i = T.1
        · subst e
          rw [hk_up_s, hk_up_s]; omega
        · rw [hk_up_n e, hk_up_n e]
          have := a7 i h3 (by omega)
          omega
/-- what EQTYPES(a) needs, and interning it -/
def hk_nd (T : hk_T) (a : Nat) : Nat :=
  match hk_find T a 0 with
  | none => 2
  | some f => match hk_find T a f with
    | none => 1
    | some _ => 0
def hk_ie (T : hk_T) (a : Nat) : Option Nat × hk_T := hk_it (hk_it T a 0).2 a ((hk_it T a 0).1.getD 0)
theorem hk_fd_t {D C : Nat → Nat} {d c k i : Nat} (h : D i = d ∧ C i = c) : hk_fd D C d c (k + 1) i = some i := by unfold hk_fd; exact if_pos h
theorem hk_fd_f {D C : Nat → Nat} {d c k i : Nat} (h : ¬ (D i = d ∧ C i = c)) : hk_fd D C d c (k + 1) i = hk_fd D C d c k (i + 1) := by
  rw [hk_fd]; exact if_neg h
/-- an answer: a handle, or -1 -/
def hk_o : Option Nat → Int32
  | none => -1
  | some j => nI j
theorem hk_o_ne {j : Nat} (h : j < 48) : ¬ hk_o (some j) = -1 := by
  intro z
  have z : nI j = -1 := z
  have a : ¬ nI j < 0 := nI_pos (by omega)
  rw [z] at a
  exact a (by decide)
theorem hk_o_ge {j : Nat} (h : j < 2147483648) : 0 ≤ hk_o (some j) := nI_pos' h
/-- the arrays hold the table -/
def hk_tb (T : hk_T) (A R : Nat → Int32) : Prop := ∀ i, 3 ≤ i → i < T.1 → A i = nI (T.2.1 i) ∧ R i = nI (T.2.2 i)
theorem hk_tb_a {T : hk_T} {A R : Nat → Int32} {d c : Nat} (h : hk_tb T A R) : hk_tb (T.1 + 1, hk_up T.2.1 T.1 d, hk_up T.2.2 T.1 c) (upd A T.1 (nI d)) (upd R T.1 (nI c)) := by
  intro i h3 hi
  have hi : i < T.1 + 1 := hi
  show upd A T.1 (nI d) i = nI (hk_up T.2.1 T.1 d i) ∧ upd R T.1 (nI c) i = nI (hk_up T.2.2 T.1 c i)
  by_cases e : i = T.1
  · subst e
    rw [pk_us, pk_us, hk_up_s, hk_up_s]; exact ⟨rfl, rfl⟩
  · rw [pk_un e, pk_un e, hk_up_n e, hk_up_n e]; exact h i h3 (by omega)
/-- interning EQTYPES(a), all or none -/
def hk_xe (T : hk_T) (a : Nat) : Option Nat × hk_T :=
  match hk_find T a 0 with
  | none => if T.1 + 2 ≤ 48 then hk_ie T a else (none, T)
  | some _ => hk_ie T a
theorem hk_xe_s {T : hk_T} {a j : Nat} (h : hk_find T a 0 = some j) : hk_xe T a = hk_ie T a := by unfold hk_xe; rw [h]
theorem hk_xe_n {T : hk_T} {a : Nat} (h : hk_find T a 0 = none) (hn : T.1 + 2 ≤ 48) : hk_xe T a = hk_ie T a := by unfold hk_xe; rw [h]; exact if_pos hn
theorem hk_xe_z {T : hk_T} {a : Nat} (h : hk_find T a 0 = none) (hn : ¬ T.1 + 2 ≤ 48) : hk_xe T a = (none, T) := by unfold hk_xe; rw [h]; exact if_neg hn
/-- the other way to say whether they fit -/
theorem hk_xe_fit {T : hk_T} {a : Nat} (ht : hk_ti T) (ha : a < T.1) (h : T.1 + hk_nd T a ≤ 48) : hk_xe T a = hk_ie T a ∧ ∃ j, (hk_ie T a).1 = some j := by
  have h0 : 0 < T.1 := by have := ht.1; omega
  cases hf : hk_find T a 0 with
  | none =>
    have e : hk_nd T a = 2 := by unfold hk_nd; rw [hf]
    rw [e] at h
    refine ⟨hk_xe_n hf h, ?_⟩
    unfold hk_ie
    rw [hk_it_a hf (by omega)]
    dsimp only [Option.getD]
    generalize hT : ((T.1 + 1, hk_up T.2.1 T.1 a, hk_up T.2.2 T.1 0) : hk_T) = T1
    have e1 : T1.1 = T.1 + 1 := by rw [← hT]
    cases hg : hk_find T1 a T.1 with
    | some j => rw [hk_it_f hg]; exact ⟨j, rfl⟩
    | none => rw [hk_it_a hg (by omega)]; exact ⟨_, rfl⟩
  | some f =>
    refine ⟨hk_xe_s hf, ?_⟩
    unfold hk_ie
    rw [hk_it_f hf]
    dsimp only [Option.getD]
    cases hg : hk_find T a f with
    | some j => rw [hk_it_f hg]; exact ⟨j, rfl⟩
    | none =>
      have e : hk_nd T a = 1 := by unfold hk_nd; rw [hf]; dsimp only; rw [hg]
      rw [hk_it_a hg (by omega)]; exact ⟨_, rfl⟩
theorem hk_xe_nofit {T : hk_T} {a : Nat} (ht : hk_ti T) (h : ¬ T.1 + hk_nd T a ≤ 48) : hk_xe T a = (none, T) := by
  have hn := ht.2.1
  cases hf : hk_find T a 0 with
  | none =>
    have e : hk_nd T a = 2 := by unfold hk_nd; rw [hf]
    exact hk_xe_z hf (by omega)
  | some f =>
    rw [hk_xe_s hf]
    unfold hk_ie
    rw [hk_it_f hf]
    dsimp only [Option.getD]
    cases hg : hk_find T a f with
    | some j =>
      have e : hk_nd T a = 0 := by unfold hk_nd; rw [hf]; dsimp only; rw [hg]
      omega
    | none =>
      have e : hk_nd T a = 1 := by unfold hk_nd; rw [hf]; dsimp only; rw [hg]
      exact hk_it_z hg (by omega)
theorem hk_ie_ok {T : hk_T} {a : Nat} (ht : hk_ti T) (ha : a < T.1) : hk_ti (hk_ie T a).2 ∧ T.1 ≤ (hk_ie T a).2.1 ∧ ∀ j, (hk_ie T a).1 = some j → 3 ≤ j ∧ j < (hk_ie T a).2.1 := by
  have h0 : 0 < T.1 := by have := ht.1; omega
  obtain ⟨i1, i2, i3, i4⟩ := hk_it_ok (d := a) (c := 0) ht ha h0
  unfold hk_ie
  have hg : (hk_it T a 0).1.getD 0 < (hk_it T a 0).2.1 := by
    cases hr : (hk_it T a 0).1 with
    | none => show 0 < _; have := i1.1; omega
    | some f => exact (i4 f hr).2
  obtain ⟨j1, j2, j3, j4⟩ := hk_it_ok (d := a) (c := (hk_it T a 0).1.getD 0) i1 (by omega) hg
  exact ⟨j1, by omega, j4⟩
theorem hk_xe_ok {T : hk_T} {a : Nat} (ht : hk_ti T) (ha : a < T.1) : hk_ti (hk_xe T a).2 ∧ T.1 ≤ (hk_xe T a).2.1 := by
  rcases Nat.lt_or_ge 48 (T.1 + hk_nd T a) with z | z
  · rw [hk_xe_nofit ht (by omega)]; exact ⟨ht, Nat.le_refl _⟩
  · rw [(hk_xe_fit ht ha z).1]
    exact ⟨(hk_ie_ok ht ha).1, (hk_ie_ok ht ha).2.1⟩
theorem hk_xe_in {T : hk_T} {a j : Nat} (ht : hk_ti T) (ha : a < T.1) (h : (hk_xe T a).1 = some j) : 3 ≤ j ∧ j < 48 := by
  rcases Nat.lt_or_ge 48 (T.1 + hk_nd T a) with z | z
  · rw [hk_xe_nofit ht (by omega)] at h; cases h
  · rw [(hk_xe_fit ht ha z).1] at h
    have a1 := (hk_ie_ok ht ha).2.2 j h
    have a2 := (hk_ie_ok ht ha).1.2.1
    omega
/-- with a table that doesn't grow where it refuses -/
theorem hk_xe_none {T : hk_T} {a : Nat} (ht : hk_ti T) (ha : a < T.1) (h : (hk_xe T a).1 = none) : (hk_xe T a).2 = T := by
  rcases Nat.lt_or_ge 48 (T.1 + hk_nd T a) with z | z
  · rw [hk_xe_nofit ht (by omega)]
  · obtain ⟨e, j, hj⟩ := hk_xe_fit ht ha z
    rw [e, hj] at h; cases h
/-- interning fun(d,c) and EQTYPES of it -/
def hk_xb (T : hk_T) (t : Nat) : Option Nat × hk_T :=
  match (hk_xe T t).1 with
  | none => (none, (hk_xe T t).2)
  | some _ => (some t, (hk_xe T t).2)
def hk_xa (T : hk_T) (d c : Nat) : Option Nat × hk_T :=
  match hk_find T d c with
  | none => if T.1 + 3 ≤ 48 then hk_xb (hk_it T d c).2 T.1 else (none, T)
  | some t => hk_xb T t
/-! the leftmost redex -/
def hk_lr (l : List Nat) : Nat → Nat → Option Nat
  | 0, _ => none
  | k + 1, p => if p + 1 < l.length ∧ hk_c l p / 65536 = 3 ∧ hk_c l (p + 1) / 65536 = 4 then some p else hk_lr l k (p + 1)
theorem hk_lr_t {l : List Nat} {k p : Nat} (h : hk_rx l p) : hk_lr l (k + 1) p = some p := by rw [hk_lr]; exact if_pos h
theorem hk_lr_f {l : List Nat} {k p : Nat} (h : ¬ hk_rx l p) : hk_lr l (k + 1) p = hk_lr l k (p + 1) := by rw [hk_lr]; exact if_neg h
theorem hk_lr_in {l : List Nat} {j : Nat} : ∀ {k p : Nat}, hk_lr l k p = some j → hk_rx l j
  | 0, p, h => by cases h
  | k + 1, p, h => by
    by_cases z : hk_rx l p
    · rw [hk_lr_t z] at h; cases h; exact z
    · rw [hk_lr_f z] at h; exact hk_lr_in h
/-! handles -/
theorem hk_val (x : Int32) (n : Nat) : (∀ j, j < n → x ≠ nI j) ∨ ∃ j, j < n ∧ x = nI j := by
  by_cases h : ∃ j, j < n ∧ x = nI j
  · exact Or.inr h
  · exact Or.inl (fun j hj e => h ⟨j, hj, e⟩)
theorem hk_ok0 {A B : Prop} {x : Int32} {n : Nat} (h : ∀ j, j < n → x ≠ nI j) (a : A) : (x < 0 → A) ∧ (¬ x < 0 → ((nI n ≤ x → A) ∧ (¬ nI n ≤ x → B))) := by
  refine br_c (fun _ => a) (fun z => ?_)
  obtain ⟨j, hj, rfl⟩ := nI_of z
  refine br_t (nI_le ?_ hj) a
  rcases Nat.lt_or_ge j n with q | q
  · exact absurd rfl (h j q)
  · exact q
theorem hk_ok1 {A B : Prop} {j n : Nat} (hn : n < 2 ^ 31) (hj : j < n) (b : B) : (nI j < 0 → A) ∧ (¬ nI j < 0 → ((nI n ≤ nI j → A) ∧ (¬ nI n ≤ nI j → B))) :=
  br_f (nI_pos (by omega)) (br_f (nI_ge hj hn) b)
/-- where all of EQTYPES(a) fits, its first type does -/
theorem hk_fit1 {T : hk_T} {a : Nat} (h : T.1 + hk_nd T a ≤ 48) : (hk_it T a 0).1 ≠ none := by
  cases hf : hk_find T a 0 with
  | some j => rw [hk_it_f hf]; exact fun z => by cases z
  | none =>
    have e : hk_nd T a = 2 := by unfold hk_nd; rw [hf]
    rw [hk_it_a hf (by omega)]; exact fun z => by cases z
theorem hk_find_bool {T : hk_T} (ht : hk_ti T) : hk_find T 0 0 = some 3 ∧ hk_find T 0 3 = some 4 := by
  obtain ⟨a1, a2, a3, a4, a5, a6, a7⟩ := ht
  unfold hk_find
  obtain ⟨k, hk⟩ : ∃ k, T.1 - 3 = k + 1 + 1 := ⟨T.1 - 5, by omega⟩
  rw [hk]
  refine ⟨hk_fd_t ⟨a3, a4⟩, ?_⟩
  rw [hk_fd_f (fun z => by rw [a4] at z; exact absurd z.2 (by decide))]
  exact hk_fd_t ⟨a5, a6⟩
theorem hk_bool {T : hk_T} (ht : hk_ti T) : hk_nd T 0 = 0 ∧ hk_ie T 0 = (some 4, T) := by
  obtain ⟨h1, h2⟩ := hk_find_bool ht
  constructor
  · unfold hk_nd; rw [h1]; dsimp only; rw [h2]
  · unfold hk_ie
    rw [hk_it_f h1]
    exact hk_it_f h2
/-- how fun(d,c) with its EQTYPES comes out -/
theorem hk_xa_n {T : hk_T} {d c : Nat} (ht : hk_ti T) (hd : d < T.1) (hc : c < T.1) (hf : hk_find T d c = none) (h3 : T.1 + 3 ≤ 48) :
    (hk_it T d c).1 = some T.1 ∧ hk_xa T d c = (some T.1, (hk_ie (hk_it T d c).2 T.1).2) ∧ (hk_it (hk_it T d c).2 T.1 0).1 ≠ none := by
  obtain ⟨i1, i2, i3, i4⟩ := hk_it_ok (d := d) (c := c) ht hd hc
  have e := hk_it_a hf (by omega : ¬ 48 ≤ T.1)
  have e1 : (hk_it T d c).1 = some T.1 := by rw [e]
  have e2 : (hk_it T d c).2.1 = T.1 + 1 := by rw [e]
  have hn : hk_nd (hk_it T d c).2 T.1 ≤ 2 := by
    unfold hk_nd
    split
    · exact Nat.le_refl _
    · split <;> omega
  have fit : (hk_it T d c).2.1 + hk_nd (hk_it T d c).2 T.1 ≤ 48 := by omega
  obtain ⟨f1, j, hj⟩ := hk_xe_fit i1 (by omega : T.1 < (hk_it T d c).2.1) fit
  refine ⟨e1, ?_, hk_fit1 fit⟩
  unfold hk_xa
  rw [hf]
  dsimp only
  rw [if_pos h3]
  unfold hk_xb
  rw [f1, hj]
theorem hk_xa_s {T : hk_T} {d c t : Nat} (ht : hk_ti T) (hf : hk_find T d c = some t) (h3 : T.1 + hk_nd T t ≤ 48) :
    hk_it T d c = (some t, T) ∧ hk_xa T d c = (some t, (hk_ie T t).2) ∧ (hk_it T t 0).1 ≠ none := by
  have w := hk_find_in hf (by have := ht.1; omega)
  obtain ⟨f1, j, hj⟩ := hk_xe_fit ht w.2 h3
  refine ⟨hk_it_f hf, ?_, hk_fit1 h3⟩
  unfold hk_xa
  rw [hf]
  dsimp only
  unfold hk_xb
  rw [f1, hj]
theorem hk_xa_sz {T : hk_T} {d c t : Nat} (ht : hk_ti T) (hf : hk_find T d c = some t) (h3 : ¬ T.1 + hk_nd T t ≤ 48) : hk_xa T d c = (none, T) := by
  unfold hk_xa
  rw [hf]
  dsimp only
  unfold hk_xb
  rw [hk_xe_nofit ht h3]
theorem hk_xa_nz {T : hk_T} {d c : Nat} (hf : hk_find T d c = none) (h3 : ¬ T.1 + 3 ≤ 48) : hk_xa T d c = (none, T) := by
  unfold hk_xa
  rw [hf]
  exact if_neg h3
theorem hk_xa_none {T : hk_T} {d c : Nat} (ht : hk_ti T) (hd : d < T.1) (hc : c < T.1) (h : (hk_xa T d c).1 = none) : (hk_xa T d c).2 = T := by
  cases hf : hk_find T d c with
  | none =>
    by_cases z : T.1 + 3 ≤ 48
    · rw [(hk_xa_n ht hd hc hf z).2.1] at h; cases h
    · rw [hk_xa_nz hf z]
  | some t =>
    by_cases z : T.1 + hk_nd T t ≤ 48
    · rw [(hk_xa_s ht hf z).2.1] at h; cases h
    · rw [hk_xa_sz ht hf z]
theorem hk_xa_in {T : hk_T} {d c t : Nat} (ht : hk_ti T) (hd : d < T.1) (hc : c < T.1) (h : (hk_xa T d c).1 = some t) : t < 48 ∧ t < (hk_xa T d c).2.1 ∧ hk_ti (hk_xa T d c).2 ∧ T.1 ≤ (hk_xa T d c).2.1 := by
  cases hf : hk_find T d c with
  | none =>
    by_cases z : T.1 + 3 ≤ 48
    · obtain ⟨e1, e2, e3⟩ := hk_xa_n ht hd hc hf z
      obtain ⟨i1, i2, i3, i4⟩ := hk_it_ok (d := d) (c := c) ht hd hc
      have w := i4 _ e1
      obtain ⟨j1, j2, j3⟩ := hk_ie_ok (a := T.1) i1 w.2
      rw [e2] at h ⊢
      cases h
      exact ⟨by omega, by show T.1 < (hk_ie (hk_it T d c).2 T.1).2.1; omega, j1, by show T.1 ≤ (hk_ie (hk_it T d c).2 T.1).2.1; omega⟩
    · rw [hk_xa_nz hf z] at h; cases h
  | some q =>
    by_cases z : T.1 + hk_nd T q ≤ 48
    · obtain ⟨e1, e2, e3⟩ := hk_xa_s ht hf z
      have w := hk_find_in hf (by have := ht.1; omega)
      obtain ⟨j1, j2, j3⟩ := hk_ie_ok (a := q) ht w.2
      have hn := ht.2.1
      rw [e2] at h ⊢
      cases h
      exact ⟨by omega, by show t < (hk_ie T t).2.1; omega, j1, j2⟩
    · rw [hk_xa_sz ht hf z] at h; cases h
theorem hk_nd_le (T : hk_T) (a : Nat) : hk_nd T a ≤ 2 := by
  unfold hk_nd
  split
  · exact Nat.le_refl _
  · split <;> omega
theorem hk_it_none {T : hk_T} {d c : Nat} (h : (hk_it T d c).1 = none) : (hk_it T d c).2 = T := by
  cases hf : hk_find T d c with
  | some j => rw [hk_it_f hf]
  | none =>
    by_cases z : 48 ≤ T.1
    · rw [hk_it_z hf z]
    · rw [hk_it_a hf z] at h; cases h
end
section
/-! slots of 32 cells: what a slot holds, and what a writer leaves as it was -/
theorem hk_ad (s i : Nat) : nI s * 32 + nI i = nI (s * 32 + i) := by
  rw [show (32 : Int32) = nI 32 from rfl, pk_mul, nI_add]
theorem hk_ad0 (s : Nat) : nI s * 32 = nI (s * 32) := by rw [show (32 : Int32) = nI 32 from rfl, pk_mul]
theorem hk_ps (t p : Nat) : 32 + nI t * 4 + nI p = nI (32 + t * 4 + p) := by
  rw [show (32 : Int32) = nI 32 from rfl, show (4 : Int32) = nI 4 from rfl, pk_mul, nI_add, nI_add]
def hk_h (K S : Nat → Int32) (s : Nat) (l : List Nat) : Prop := S s = nI l.length ∧ ∀ i, i < l.length → i < 32 → K (s * 32 + i) = nI (hk_c l i)
def hk_hy (K S : Nat → Int32) (s : Nat) (l : List Nat) : Prop := S s = nI (min l.length 33) ∧ ∀ i, i < l.length → i < 32 → K (s * 32 + i) = nI (hk_c l i)
def hk_fr (W : Nat → Prop) (K S K' S' : Nat → Int32) : Prop := ∀ s, ¬ W s → S' s = S s ∧ ∀ i, i < 32 → K' (s * 32 + i) = K (s * 32 + i)
theorem hk_fr_r {W : Nat → Prop} {K S : Nat → Int32} : hk_fr W K S K S := fun _ _ => ⟨rfl, fun _ _ => rfl⟩
theorem hk_fr_t {W : Nat → Prop} {K S K1 S1 K2 S2 : Nat → Int32} (a : hk_fr W K S K1 S1) (b : hk_fr W K1 S1 K2 S2) : hk_fr W K S K2 S2 :=
  fun s h => ⟨(b s h).1.trans (a s h).1, fun i hi => ((b s h).2 i hi).trans ((a s h).2 i hi)⟩
theorem hk_fr_w {W V : Nat → Prop} {K S K' S' : Nat → Int32} (a : hk_fr W K S K' S') (h : ∀ s, W s → V s) : hk_fr V K S K' S' :=
  fun s hs => a s (fun z => hs (h s z))
theorem hk_fr_h {W : Nat → Prop} {K S K' S' : Nat → Int32} {s : Nat} {l : List Nat} (f : hk_fr W K S K' S') (hs : ¬ W s) (h : hk_h K S s l) : hk_h K' S' s l :=
  ⟨(f s hs).1.trans h.1, fun i hi h32 => ((f s hs).2 i h32).trans (h.2 i hi h32)⟩
theorem hk_fr_hy {W : Nat → Prop} {K S K' S' : Nat → Int32} {s : Nat} {l : List Nat} (f : hk_fr W K S K' S') (hs : ¬ W s) (h : hk_hy K S s l) : hk_hy K' S' s l :=
  ⟨(f s hs).1.trans h.1, fun i hi h32 => ((f s hs).2 i h32).trans (h.2 i hi h32)⟩
theorem hk_c_last (l : List Nat) (c : Nat) : hk_c (l ++ [c]) l.length = c := by
  have := hk_c_r l [c] 0
  rw [Nat.add_zero] at this
  rw [this]; rfl
theorem hk_len1 (l : List Nat) (c : Nat) : (l ++ [c]).length = l.length + 1 := by rw [List.length_append]; rfl
theorem hk_cells {K : Nat → Int32} {o c : Nat} {l : List Nat} (h : ∀ i, i < l.length → i < 32 → K (o * 32 + i) = nI (hk_c l i)) :
    ∀ i, i < (l ++ [c]).length → i < 32 → upd K (o * 32 + l.length) (nI c) (o * 32 + i) = nI (hk_c (l ++ [c]) i) := by
  intro i hi h32
  rw [hk_len1] at hi
  rcases Nat.lt_or_ge i l.length with z | z
  · rw [pk_un (by omega), hk_c_l z]; exact h i z h32
  · have e : i = l.length := by omega
    subst e
    rw [pk_us, hk_c_last]
theorem hk_cells' {K : Nat → Int32} {o c : Nat} {l : List Nat} (hl : 32 ≤ l.length) (h : ∀ i, i < l.length → i < 32 → K (o * 32 + i) = nI (hk_c l i)) :
    ∀ i, i < (l ++ [c]).length → i < 32 → K (o * 32 + i) = nI (hk_c (l ++ [c]) i) := by
  intro i hi h32
  rw [hk_c_l (by omega)]; exact h i (by omega) h32
theorem hk_put {K S : Nat → Int32} {o c : Nat} {l : List Nat} (h : hk_h K S o l) : hk_h (upd K (o * 32 + l.length) (nI c)) (upd S o (nI (l.length + 1))) o (l ++ [c]) :=
  ⟨by rw [pk_us, hk_len1], hk_cells h.2⟩
theorem hk_put' {K S : Nat → Int32} {o c : Nat} {l : List Nat} (h : hk_h K S o l) (hl : 32 ≤ l.length) : hk_h K (upd S o (nI (l.length + 1))) o (l ++ [c]) :=
  ⟨by rw [pk_us, hk_len1], hk_cells' hl h.2⟩
theorem hk_puty {K S : Nat → Int32} {o c : Nat} {l : List Nat} (h : hk_hy K S o l) : hk_hy (upd K (o * 32 + l.length) (nI c)) (upd S o (nI (min (l.length + 1) 33))) o (l ++ [c]) :=
  ⟨by rw [pk_us, hk_len1], hk_cells h.2⟩
theorem hk_puty' {K S : Nat → Int32} {o c : Nat} {l : List Nat} (h : hk_hy K S o l) (hl : 32 ≤ l.length) : hk_hy K (upd S o (nI (min (l.length + 1) 33))) o (l ++ [c]) :=
  ⟨by rw [pk_us, hk_len1], hk_cells' hl h.2⟩
theorem hk_fr_p {K S : Nat → Int32} {o j : Nat} {x y : Int32} (hj : j < 32) : hk_fr (fun s => s = o) K S (upd K (o * 32 + j) x) (upd S o y) :=
  fun s hs => ⟨pk_un hs, fun i hi => pk_un (by have : s ≠ o := hs; omega)⟩
theorem hk_fr_s {K S : Nat → Int32} {o : Nat} {y : Int32} : hk_fr (fun s => s = o) K S K (upd S o y) :=
  fun s hs => ⟨pk_un hs, fun i hi => rfl⟩
theorem hk_h0 {K S : Nat → Int32} {o : Nat} : hk_h K (upd S o 0) o [] := ⟨pk_us, fun i hi => absurd hi (Nat.not_lt_zero i)⟩
theorem hk_hy0 {K S : Nat → Int32} {o : Nat} : hk_hy K (upd S o 0) o [] := ⟨pk_us, fun i hi => absurd hi (Nat.not_lt_zero i)⟩
theorem hk_rd {K S : Nat → Int32} {s p : Nat} {l : List Nat} (h : hk_h K S s l) (hs : s < 110) (hp : p < l.length) (h32 : p < 32) : K (nI s * 32 + nI p).toNatClampNeg = nI (hk_c l p) := by
  rw [hk_ad, nI_clamp (by omega)]; exact h.2 p hp h32
theorem hk_rdy {K S : Nat → Int32} {s p : Nat} {l : List Nat} (h : hk_hy K S s l) (hs : s < 110) (hp : p < l.length) (h32 : p < 32) : K (nI s * 32 + nI p).toNatClampNeg = nI (hk_c l p) := by
  rw [hk_ad, nI_clamp (by omega)]; exact h.2 p hp h32
theorem hk_sz {K S : Nat → Int32} {s : Nat} {l : List Nat} (h : hk_h K S s l) (hs : s < 110) : S (nI s).toNatClampNeg = nI l.length := by
  rw [nI_clamp (by omega)]; exact h.1
theorem hk_szy {K S : Nat → Int32} {s : Nat} {l : List Nat} (h : hk_hy K S s l) (hs : s < 110) (hl : l.length ≤ 32) : S (nI s).toNatClampNeg = nI l.length := by
  rw [nI_clamp (by omega), h.1, show min l.length 33 = l.length by omega]
theorem hk_vx {s p : Nat} (hs : s < 98) (hp : p < 32) : vp_in (nI s * 32 + nI p) 3136 := by
  rw [hk_ad]; exact vp_in_nI (by omega) (by omega)
theorem hk_vy {s p : Nat} (hs : s < 110) (hp : p < 32) : vp_in (nI s * 32 + nI p) 3520 := by
  rw [hk_ad]; exact vp_in_nI (by omega) (by omega)
/-! numbers of a node -/
theorem hk_kd {c : Nat} (h : c < 524288) : nI c / 65536 = nI (c / 65536) := pk_div (d := 65536) (by omega) (by omega) (by omega)
theorem hk_tyn {c : Nat} (h : c < 524288) : nI c - nI c / 256 * 256 = nI (c % 256) := pk_rem (d := 256) (by omega) (by omega) (by omega)
theorem hk_dv {c : Nat} (h : c < 524288) : nI c / 256 = nI (c / 256) := pk_div (d := 256) (by omega) (by omega) (by omega)
theorem hk_ixn {c : Nat} (h : c < 524288) : nI c / 256 - nI c / 256 / 256 * 256 = nI (c / 256 % 256) := by
  rw [hk_dv h]; exact pk_rem (d := 256) (by omega) (by omega) (by omega)
theorem hk_szc {K S : Nat → Int32} {s : Nat} {l : List Nat} (h : hk_hy K S s l) (hl : l.length ≤ 32) : S s = nI l.length := by
  rw [h.1, show min l.length 33 = l.length by omega]
end
section
/-! the component: what only reads -/
section
variable {xn xc xm xd xh : Int32} {xA xR xK xS xY xP xE : Nat → Int32}
theorem xa_kind {post : Int32 → Prop} {s p : Nat} {l : List Nat} (h : hk_h xK xS s l) (hs : s < 98) (hp : p < l.length) (h32 : p < 32) (hc : hk_c l p < 524288) (k : post (nI (hk_c l p / 65536))) : wpX_kindAt post (xn, xc, xm, xd, xh, xA, xR, xK, xS, xY, xP, xE) (nI s) (nI p) := by
  refine ⟨hk_vx hs h32, by decide, ?_⟩
  rw [hk_rd h (by omega) hp h32, hk_kd hc]; exact k
theorem xa_index {post : Int32 → Prop} {s p : Nat} {l : List Nat} (h : hk_h xK xS s l) (hs : s < 98) (hp : p < l.length) (h32 : p < 32) (hc : hk_c l p < 524288) (k : post (nI (hk_c l p / 256 % 256))) : wpX_indexAt post (xn, xc, xm, xd, xh, xA, xR, xK, xS, xY, xP, xE) (nI s) (nI p) := by
  refine ⟨hk_vx hs h32, by decide, by decide, ?_⟩
  rw [hk_rd h (by omega) hp h32, hk_ixn hc]; exact k
theorem xa_type {post : Int32 → Prop} {s p : Nat} {l : List Nat} (h : hk_h xK xS s l) (hs : s < 98) (hp : p < l.length) (h32 : p < 32) (hc : hk_c l p < 524288) (k : post (nI (hk_c l p % 256))) : wpX_typeAt post (xn, xc, xm, xd, xh, xA, xR, xK, xS, xY, xP, xE) (nI s) (nI p) := by
  refine ⟨hk_vx hs h32, by decide, ?_⟩
  rw [hk_rd h (by omega) hp h32, hk_tyn hc]; exact k
theorem xa_part {post : Int32 → Prop} (t p : Nat) (k : post (nI (32 + t * 4 + p))) : wpX_partSlot post () (nI t) (nI p) := by
  unfold wpX_partSlot
  rw [hk_ps]; exact k
theorem xa_end_l {post : Int32 → Prop} {s : Nat} {l : List Nat} (h : hk_h xK xS s l) (hs : s < 98) (hl : l.length ≤ 32) (hc : ∀ c, c ∈ l → c < 524288) :
    ∀ (d p m b : Nat), p + d = l.length → hk_run (m + b) (l.drop p) = some 0 → post (nI (p + hk_spn m (l.drop p))) → wX_endOf_13 post (nI s) (nI l.length) xn xc xm xd xh xA xR xK xS xY xP xE (d + 1) (nI m) (nI p) := by
  intro d
  induction d with
  | zero =>
    intro p m b hp hr k
    refine br_t (nI_le (by omega) (by omega)) ?_
    rw [List.drop_of_length_le (by omega), hk_spn_nil] at k
    exact k
  | succ d ih =>
    intro p m b hp hr k
    refine br_f (nI_ge (by omega) (by omega)) ?_
    cases m with
    | zero =>
      rw [hk_spn_0] at k
      exact br_t (nI_le (b := 0) (by omega) (by omega)) k
    | succ m =>
      have hpl : p < l.length := by omega
      have hcp := hc _ (hk_c_mem hpl)
      rw [hk_c_drop hpl, show m + 1 + b = (m + b) + 1 by omega, hk_run_s] at hr
      rw [hk_c_drop hpl, hk_spn_s] at k
      refine br_f (nI_ge (b := m + 1) (a := 0) (by omega) (by have := hk_run_len hr; have := List.length_drop (i := p + 1) (l := l); omega)) ?_
      refine xa_kind h hs hpl (by omega) hcp ?_
      refine pk_eq (hk_c l p / 65536) 3 (fun e => ?_) (fun e => ?_)
      · rw [hk_ar_3 e] at hr k
        refine nm_r (nI_1 _) (nm_r (nI_1 _) ?_)
        exact ih (p + 1) (m + 2) b (by omega) (by rw [show m + 2 + b = m + b + 2 by omega]; exact hr) (by rw [show p + 1 + hk_spn (m + 2) (l.drop (p + 1)) = p + (hk_spn (m + 2) (l.drop (p + 1)) + 1) by omega]; exact k)
      · refine pk_eq (hk_c l p / 65536) 4 (fun e4 => ?_) (fun e4 => ?_)
        · rw [hk_ar_4 e4] at hr k
          refine nm_r (nI_1 _) ?_
          exact ih (p + 1) (m + 1) b (by omega) (by rw [show m + 1 + b = m + b + 1 by omega]; exact hr) (by rw [show p + 1 + hk_spn (m + 1) (l.drop (p + 1)) = p + (hk_spn (m + 1) (l.drop (p + 1)) + 1) by omega]; exact k)
        · rw [hk_ar_k rfl e e4, Nat.add_zero] at hr k
          refine nm_r (pk_m1 _) (nm_r (nI_1 _) ?_)
          exact ih (p + 1) m b (by omega) hr (by rw [show p + 1 + hk_spn m (l.drop (p + 1)) = p + (hk_spn m (l.drop (p + 1)) + 1) by omega]; exact k)
theorem xa_end {post : Int32 → Prop} {s p n : Nat} {l : List Nat} (h : hk_h xK xS s l) (hs : s < 98) (hl : l.length ≤ 32) (hc : ∀ c, c ∈ l → c < 524288) (ha : hk_at l p (n + 1)) (k : post (nI (hk_e l p))) : wpX_endOf post (xn, xc, xm, xd, xh, xA, xR, xK, xS, xY, xP, xE) (nI s) (nI p) := by
  refine ⟨vp_in_nI hs (by omega), nm_r (hk_sz h (by omega)) ⟨_, xa_end_l h hs hl hc (l.length - p) p 1 n (by have := ha.1; omega) (by rw [Nat.add_comm]; exact ha.2) k⟩⟩
/-- comparing two complete terms: the sign says their order -/
theorem xa_cmp_l {post : Int32 → Prop} {s o : Nat} {a b : List Nat} (ha : hk_h xK xS s a) (hb : hk_h xK xS o b) (hs : s < 98) (ho : o < 98) (la : a.length ≤ 32) (lb : b.length ≤ 32) (ca : ∀ c, c ∈ a → c < 524288) (cb : ∀ c, c ∈ b → c < 524288) {m : Nat} (hm : m ≤ a.length) (hm' : m ≤ b.length) (hmm : m = a.length ∨ m = b.length) :
    ∀ (d p n : Nat), p + d = m → hk_run n (a.drop p) = some 0 → hk_run n (b.drop p) = some 0 →
      (∀ r : Int32, (r < 0 ↔ hk_lt (a.drop p) (b.drop p) = true) → (r = 0 ↔ a.drop p = b.drop p) → post r) → wX_compareTerms_34 post (nI s) (nI o) (nI m) xn xc xm xd xh xA xR xK xS xY xP xE (d + 1) (nI p) := by
  intro d
  induction d with
  | zero =>
    intro p n hp ra rb k
    refine br_t (nI_le (by omega) (by omega)) ?_
    have e : a.drop p = [] ∧ b.drop p = [] := by
      rcases hmm with z | z
      · have e := List.drop_of_length_le (l := a) (i := p) (by omega)
        rw [e, hk_run_nil] at ra
        have n0 : n = 0 := Option.some.inj ra
        subst n0
        refine ⟨e, ?_⟩
        cases q : b.drop p with
        | nil => rfl
        | cons x t => rw [q, hk_run_0] at rb; cases rb
      · have e := List.drop_of_length_le (l := b) (i := p) (by omega)
        rw [e, hk_run_nil] at rb
        have n0 : n = 0 := Option.some.inj rb
        subst n0
        refine ⟨?_, e⟩
        cases q : a.drop p with
        | nil => rfl
        | cons x t => rw [q, hk_run_0] at ra; cases ra
    refine k 0 ?_ ?_
    · rw [e.1, e.2]
      exact ⟨fun z => absurd z (by decide), fun z => absurd z (by decide)⟩
    · rw [e.1, e.2]
      exact ⟨fun _ => rfl, fun _ => rfl⟩
  | succ d ih =>
    intro p n hp ra rb k
    have pa : p < a.length := by omega
    have pb : p < b.length := by omega
    have xa := ca _ (hk_c_mem pa)
    have xb := cb _ (hk_c_mem pb)
    refine br_f (nI_ge (by omega) (by omega)) ⟨hk_vx hs (by omega), hk_vx ho (by omega), ?_⟩
    rw [hk_rd ha (by omega) pa (by omega), hk_rd hb (by omega) pb (by omega)]
    rw [hk_c_drop pa] at ra k
    rw [hk_c_drop pb] at rb k
    refine nm_e ?_
    generalize hk_c a p = x at ra k xa
    generalize hk_c b p = y at rb k xb
    cases n with
    | zero => rw [hk_run_0] at ra; cases ra
    | succ n =>
      rw [hk_run_s] at ra rb
      rcases Nat.lt_trichotomy x y with z | z | z
      · have e := pk_sneg (a := x) (b := y) (by omega) z
        refine br_f (fun q => ?_) (k _ ?_ ?_)
        · rw [q] at e; exact absurd e (by decide)
        · rw [hk_lt_c, if_pos z]; exact ⟨fun _ => rfl, fun _ => e⟩
        · refine ⟨fun q => ?_, fun q => ?_⟩
          · rw [q] at e; exact absurd e (by decide)
          · have := (List.cons.inj q).1; omega
      · subst z
        refine br_t (Int32.sub_self _) (nm_r (nI_1 _) ?_)
        refine ih (p + 1) _ (by omega) ra rb (fun r h1 h2 => k r ?_ ?_)
        · rw [hk_lt_c, if_neg (Nat.lt_irrefl x), if_neg (Nat.lt_irrefl x)]; exact h1
        · rw [h2]
          exact ⟨fun q => by rw [q], fun q => (List.cons.inj q).2⟩
      · have e : nI x - nI y = nI (x - y) := pk_sub (by omega)
        have e0 : ¬ nI (x - y) = 0 := nI_ne0 (by omega) (by omega)
        rw [e]
        refine br_f e0 (k _ ?_ ?_)
        · rw [hk_lt_c, if_neg (by omega), if_pos z]
          exact ⟨fun q => absurd q (nI_pos (by omega)), fun q => by cases q⟩
        · exact ⟨fun q => absurd q e0, fun q => by have := (List.cons.inj q).1; omega⟩
theorem xa_cmp {post : Int32 → Prop} {n s o : Nat} {a b : List Nat} (ha : hk_h xK xS s a) (hb : hk_h xK xS o b) (hs : s < 98) (ho : o < 98) (ga : hk_gt n a) (gb : hk_gt n b)
    (k : ∀ r : Int32, (r < 0 ↔ hk_lt a b = true) → (r = 0 ↔ a = b) → post r) : wpX_compareTerms post (xn, xc, xm, xd, xh, xA, xR, xK, xS, xY, xP, xE) (nI s) (nI o) := by
  have la := ga.2.1
  have lb := gb.2.1
  have V : vp_in (nI s) 98 := vp_in_nI hs (by omega)
  have V' : vp_in (nI o) 98 := vp_in_nI ho (by omega)
  have ea := hk_sz ha (by omega)
  have eb := hk_sz hb (by omega)
  refine ⟨V, V', ?_⟩
  rw [ea, eb]
  refine pk_le b.length a.length (fun z => ⟨V', nm_e ⟨b.length + 1, ?_⟩⟩) (fun z => ⟨V, nm_e ⟨a.length + 1, ?_⟩⟩)
  · exact xa_cmp_l ha hb hs ho la lb (fun c hc => (ga.2.2 c hc).1) (fun c hc => (gb.2.2 c hc).1) (m := b.length) (by omega) (by omega) (Or.inr rfl) b.length 0 1 (by omega) ga.1 gb.1 k
  · exact xa_cmp_l ha hb hs ho la lb (fun c hc => (ga.2.2 c hc).1) (fun c hc => (gb.2.2 c hc).1) (m := a.length) (by omega) (by omega) (Or.inl rfl) a.length 0 1 (by omega) ga.1 gb.1 k
theorem xa_same_l {post : Int32 → Prop} {s o f g m : Nat} {a b : List Nat} (ha : hk_h xK xS s a) (hb : hk_h xK xS o b) (hs : s < 98) (ho : o < 98) (la : a.length ≤ 32) (lb : b.length ≤ 32) (ca : ∀ c, c ∈ a → c < 524288) (cb : ∀ c, c ∈ b → c < 524288) (fa : f + m ≤ a.length) (gb : g + m ≤ b.length) :
    ∀ (d i : Nat), i + d = m → ((a.drop (f + i)).take d = (b.drop (g + i)).take d → post 1) → (¬ (a.drop (f + i)).take d = (b.drop (g + i)).take d → post 0) → wX_sameRun_3 post (nI s) (nI f) (nI o) (nI g) (nI m) xn xc xm xd xh xA xR xK xS xY xP xE (d + 1) (nI i) := by
  intro d
  induction d with
  | zero =>
    intro i hi k1 k0
    exact br_t (nI_le (by omega) (by omega)) (k1 (by rw [List.take_zero, List.take_zero]))
  | succ d ih =>
    intro i hi k1 k0
    have pa : f + i < a.length := by omega
    have pb : g + i < b.length := by omega
    have xa := ca _ (hk_c_mem pa)
    have xb := cb _ (hk_c_mem pb)
    have ea : nI s * 32 + nI f + nI i = nI s * 32 + nI (f + i) := by rw [Int32.add_assoc, nI_add]
    have eb : nI o * 32 + nI g + nI i = nI o * 32 + nI (g + i) := by rw [Int32.add_assoc, nI_add]
    rw [hk_c_drop pa, hk_c_drop pb, List.take_succ_cons, List.take_succ_cons] at k1 k0
    refine br_f (nI_ge (by omega) (by omega)) ?_
    rw [ea, eb]
    refine ⟨hk_vx hs (by omega), hk_vx ho (by omega), ?_⟩
    rw [hk_rd ha (by omega) pa (by omega), hk_rd hb (by omega) pb (by omega)]
    refine pk_eq (hk_c a (f + i)) (hk_c b (g + i)) (fun e => nm_r (nI_1 _) ?_) (fun e => k0 (fun z => e (List.cons.inj z).1))
    refine ih (i + 1) (by omega) (fun z => k1 ?_) (fun z => k0 (fun q => z ?_))
    · rw [e]; exact congrArg _ z
    · exact (List.cons.inj q).2
theorem xa_same {post : Int32 → Prop} {s o f g m n : Nat} {a b : List Nat} (ha : hk_h xK xS s a) (hb : hk_h xK xS o b) (hs : s < 98) (ho : o < 98) (ga : hk_gt n a) (gb : hk_gt n b) (fa : f + m ≤ a.length) (hgb : g + m ≤ b.length)
    (k1 : (a.drop f).take m = (b.drop g).take m → post 1) (k0 : ¬ (a.drop f).take m = (b.drop g).take m → post 0) : wpX_sameRun post (xn, xc, xm, xd, xh, xA, xR, xK, xS, xY, xP, xE) (nI s) (nI f) (nI o) (nI g) (nI m) :=
  ⟨_, xa_same_l ha hb hs ho ga.2.1 gb.2.1 (fun c hc => (ga.2.2 c hc).1) (fun c hc => (gb.2.2 c hc).1) fa hgb m 0 (by omega) k1 k0⟩
theorem xa_occ_l {post : Int32 → Prop} {v s vc : Nat} {l : List Nat} (hv : xK (nI v * 32).toNatClampNeg = nI vc) (hvc : vc < 524288) (h : hk_h xK xS s l) (hs : s < 98) (hv98 : v < 98) (hl : l.length ≤ 32) (hc : ∀ c, c ∈ l → c < 524288) :
    ∀ (d p : Nat), p + d = l.length → (vc ∈ l.drop p → post 1) → (¬ vc ∈ l.drop p → post 0) → wX_occursIn_10 post (nI v) (nI s) (nI l.length) xn xc xm xd xh xA xR xK xS xY xP xE (d + 1) (nI p) := by
  intro d
  induction d with
  | zero =>
    intro p hp k1 k0
    refine br_t (nI_le (by omega) (by omega)) (k0 ?_)
    rw [List.drop_of_length_le (by omega)]
    exact List.not_mem_nil
  | succ d ih =>
    intro p hp k1 k0
    have pp : p < l.length := by omega
    have xc := hc _ (hk_c_mem pp)
    rw [hk_c_drop pp] at k1 k0
    refine br_f (nI_ge (by omega) (by omega)) ⟨hk_vx hs (by omega), by rw [hk_ad0]; exact vp_in_nI (by omega) (by omega), ?_⟩
    rw [hv, hk_rd h (by omega) pp (by omega)]
    refine pk_eq (hk_c l p) vc (fun e => k1 (by rw [e]; exact List.mem_cons_self)) (fun e => nm_r (nI_1 _) ?_)
    refine ih (p + 1) (by omega) (fun z => k1 (List.mem_cons_of_mem _ z)) (fun z => k0 (fun q => ?_))
    rcases List.mem_cons.mp q with q | q
    · exact e q.symm
    · exact z q
theorem xa_occ {post : Int32 → Prop} {v s vc n : Nat} {l : List Nat} (hv : xK (nI v * 32).toNatClampNeg = nI vc) (hvc : vc < 524288) (h : hk_h xK xS s l) (hs : s < 98) (hv98 : v < 98) (g : hk_gt n l)
    (k1 : vc ∈ l → post 1) (k0 : ¬ vc ∈ l → post 0) : wpX_occursIn post (xn, xc, xm, xd, xh, xA, xR, xK, xS, xY, xP, xE) (nI v) (nI s) :=
  ⟨vp_in_nI hs (by omega), nm_r (hk_sz h (by omega)) ⟨_, xa_occ_l hv hvc h hs hv98 g.2.1 (fun c hc => (g.2.2 c hc).1) l.length 0 (by omega) k1 k0⟩⟩
theorem xa_redex {post : Int32 → Prop} {s p n : Nat} {l : List Nat} (h : hk_h xK xS s l) (hs : s < 98) (g : hk_gt n l) (hp : p < l.length) (k1 : hk_rx l p → post 1) (k0 : ¬ hk_rx l p → post 0) : wpX_isRedex post (xn, xc, xm, xd, xh, xA, xR, xK, xS, xY, xP, xE) (nI s) (nI p) := by
  have hl := g.2.1
  refine ⟨vp_in_nI hs (by omega), ?_⟩
  rw [hk_sz h (by omega), nI_1]
  refine pk_le l.length (p + 1) (fun z => k0 (fun q => by have := q.1; omega)) (fun z => ?_)
  refine xa_kind h hs hp (by omega) (hk_gt_c g hp).1 ?_
  have hc := (hk_gt_c g hp).1
  refine pk_eq (hk_c l p / 65536) 3 (fun e => ?_) (fun e => k0 (fun q => e q.2.1))
  have hc' := (hk_gt_c g z).1
  refine xa_kind h hs z (by omega) hc' ?_
  exact pk_eq (hk_c l (p + 1) / 65536) 4 (fun e' => k1 ⟨z, e, e'⟩) (fun e' => k0 (fun q => e' q.2.2))
theorem xa_lr_l {post : Int32 → Prop} {s n : Nat} {l : List Nat} (h : hk_h xK xS s l) (hs : s < 98) (g : hk_gt n l) :
    ∀ (d p : Nat), p + d = l.length → post (hk_o (hk_lr l d p)) → wX_leftmostRedex_9 post (nI s) (nI l.length) xn xc xm xd xh xA xR xK xS xY xP xE (d + 1) (nI p) := by
  have hl := g.2.1
  intro d
  induction d with
  | zero =>
    intro p hp k
    exact br_t (nI_le (by omega) (by omega)) k
  | succ d ih =>
    intro p hp k
    refine br_f (nI_ge (by omega) (by omega)) ?_
    refine xa_redex h hs g (by omega) (fun z => ?_) (fun z => ?_)
    · rw [hk_lr_t z] at k
      exact br_f (by decide) k
    · rw [hk_lr_f z] at k
      exact br_t rfl (nm_r (nI_1 _) (ih (p + 1) (by omega) k))
theorem xa_lr {post : Int32 → Prop} {s n : Nat} {l : List Nat} (h : hk_h xK xS s l) (hs : s < 98) (g : hk_gt n l) (k : post (hk_o (hk_lr l l.length 0))) : wpX_leftmostRedex post (xn, xc, xm, xd, xh, xA, xR, xK, xS, xY, xP, xE) (nI s) :=
  ⟨vp_in_nI hs (by omega), nm_r (hk_sz h (by omega)) ⟨_, xa_lr_l h hs g l.length 0 (by omega) k⟩⟩
theorem xa_con {post : Int32 → Prop} {s n : Nat} {l : List Nat} {x : Int32} (h : hk_h xK xS s l) (hs : s < 98) (g : hk_gt n l) (k0 : (∀ j, j < l.length → x ≠ nI j) → post (-1)) (k1 : ∀ j, j < l.length → x = nI j → post (nI (hk_c l j))) : wpX_codeOrNone post (xn, xc, xm, xd, xh, xA, xR, xK, xS, xY, xP, xE) (nI s) x := by
  have hl := g.2.1
  rcases hk_val x l.length with z | ⟨j, hj, rfl⟩
  · refine br_c (fun _ => k0 z) (fun q => ⟨vp_in_nI hs (by omega), ?_⟩)
    rw [hk_sz h (by omega)]
    obtain ⟨j, hj, rfl⟩ := nI_of q
    refine br_t (nI_le ?_ hj) (k0 z)
    rcases Nat.lt_or_ge j l.length with w | w
    · exact absurd rfl (z j w)
    · exact w
  · refine br_f (nI_pos (by omega)) ⟨vp_in_nI hs (by omega), ?_⟩
    rw [hk_sz h (by omega)]
    refine br_f (nI_ge hj (by omega)) ⟨hk_vx hs (by omega), ?_⟩
    rw [hk_rd h (by omega) hj (by omega)]
    exact k1 j hj rfl
theorem xa_takes {post : Int32 → Prop} {T : hk_T} {f a : Nat} (hb : hk_tb T xA xR) (ht : hk_ti T) (hf : f < T.1) (ha : a < 48) (k1 : 3 ≤ f → T.2.1 f = a → post 1) (k0 : ¬ (3 ≤ f ∧ T.2.1 f = a) → post 0) : wpX_takes post (xn, xc, xm, xd, xh, xA, xR, xK, xS, xY, xP, xE) (nI f) (nI a) := by
  have hn := ht.2.1
  refine pk_lt f 3 (fun z => k0 (fun q => by omega)) (fun z => ⟨vp_in_nI (by omega) (by omega), ?_⟩)
  have w := ht.2.2.2.2.2.2 f z hf
  rw [nI_clamp (by omega), (hb f z hf).1]
  exact pk_eq (T.2.1 f) a (fun e => k1 z e) (fun e => k0 (fun q => e q.2))
/-! the table of types -/
theorem xa_find_l {post : Int32 → Prop} {T : hk_T} {d c : Nat} (hb : hk_tb T xA xR) (ht : hk_ti T) (hd : d < 48) (hc : c < 48) :
    ∀ (k i : Nat), 3 ≤ i → i + k = T.1 → post (hk_o (hk_fd T.2.1 T.2.2 d c k i)) → wX_findFun_8 post (nI d) (nI c) (nI T.1) xn xc xm xd xh xA xR xK xS xY xP xE (k + 1) (nI i) := by
  have hn := ht.2.1
  intro k
  induction k with
  | zero =>
    intro i h3 hi q
    exact br_t (nI_le (by omega) (by omega)) q
  | succ k ih =>
    intro i h3 hi q
    have w := ht.2.2.2.2.2.2 i h3 (by omega)
    have V : vp_in (nI i) 48 := vp_in_nI (by omega) (by omega)
    refine br_f (nI_ge (by omega) (by omega)) ⟨V, ?_⟩
    rw [nI_clamp (n := i) (by omega), (hb i h3 (by omega)).1, (hb i h3 (by omega)).2]
    refine pk_eq (T.2.1 i) d (fun e => ⟨V, pk_eq (T.2.2 i) c (fun e' => ?_) (fun e' => nm_r (nI_1 _) ?_)⟩) (fun e => nm_r (nI_1 _) ?_)
    · rw [hk_fd_t ⟨e, e'⟩] at q; exact q
    · rw [hk_fd_f (fun z => e' z.2)] at q
      exact ih (i + 1) (by omega) (by omega) q
    · rw [hk_fd_f (fun z => e z.1)] at q
      exact ih (i + 1) (by omega) (by omega) q
theorem xa_find {post : Int32 → Prop} {T : hk_T} {d c : Nat} (hb : hk_tb T xA xR) (ht : hk_ti T) (hd : d < 48) (hc : c < 48) (k : post (hk_o (hk_find T d c))) : wpX_findFun post (nI T.1, xc, xm, xd, xh, xA, xR, xK, xS, xY, xP, xE) (nI d) (nI c) :=
  ⟨_, xa_find_l hb ht hd hc (T.1 - 3) 3 (by omega) (by have := ht.1; omega) k⟩
theorem xa_intern {post : Int32 → St2 → Prop} {T : hk_T} {d c : Nat} (hb : hk_tb T xA xR) (ht : hk_ti T) (hd : d < T.1) (hc : c < T.1)
    (k : ∀ A' R' : Nat → Int32, hk_tb (hk_it T d c).2 A' R' → post (hk_o (hk_it T d c).1) (nI (hk_it T d c).2.1, xc, xm, xd, xh, A', R', xK, xS, xY, xP, xE)) : wpX_internFun post (nI T.1, xc, xm, xd, xh, xA, xR, xK, xS, xY, xP, xE) (nI d) (nI c) := by
  have hn := ht.2.1
  refine xa_find hb ht (by omega) (by omega) ?_
  cases hf : hk_find T d c with
  | some j =>
    rw [hk_it_f hf] at k
    exact br_f (hk_o_ne (by have := hk_find_in hf (by have := ht.1; omega); omega)) (k xA xR hb)
  | none =>
    refine br_t rfl ?_
    refine pk_lt T.1 48 (fun z => ?_) (fun z => ?_)
    · rw [hk_it_a hf (by omega)] at k
      have V : vp_in (nI T.1) 48 := vp_in_nI z (by omega)
      refine ⟨V, nm_r (e' := upd xA T.1 (nI d)) (by rw [nI_clamp (by omega)]) ⟨V, nm_r (e' := upd xR T.1 (nI c)) (by rw [nI_clamp (by omega)]) (nm_r (nI_1 _) ?_)⟩⟩
      rw [nI_pred]
      exact k (upd xA T.1 (nI d)) (upd xR T.1 (nI c)) (hk_tb_a hb)
    · rw [hk_it_z hf z] at k
      exact k xA xR hb
theorem xa_internEq {post : Int32 → St2 → Prop} {T : hk_T} {a : Nat} (hb : hk_tb T xA xR) (ht : hk_ti T) (ha : a < T.1)
    (k : ∀ A' R' : Nat → Int32, hk_tb (hk_xe T a).2 A' R' → post (hk_o (hk_xe T a).1) (nI (hk_xe T a).2.1, xc, xm, xd, xh, A', R', xK, xS, xY, xP, xE)) : wpX_internEqTypes post (nI T.1, xc, xm, xd, xh, xA, xR, xK, xS, xY, xP, xE) (nI a) := by
  have hn := ht.2.1
  have h0 : 0 < T.1 := by have := ht.1; omega
  have go : hk_xe T a = hk_ie T a → (hk_it T a 0).1 ≠ none → wX_internEqTypes_25 post (nI a) (nI T.1) xc xm xd xh xA xR xK xS xY xP xE := by
    intro e hne
    obtain ⟨i1, i2, i3, i4⟩ := hk_it_ok (d := a) (c := 0) ht ha h0
    refine xa_intern (c := 0) hb ht ha h0 (fun A' R' hb' => ?_)
    cases hr : (hk_it T a 0).1 with
    | none => exact absurd hr hne
    | some f =>
      have hf := i4 f hr
      refine xa_intern (c := f) hb' i1 (by omega) hf.2 (fun A2 R2 hb2 => ?_)
      have e2 : hk_xe T a = hk_it (hk_it T a 0).2 a f := by rw [e, hk_ie, hr]; rfl
      rw [e2] at k
      exact k A2 R2 hb2
  refine xa_find (c := 0) hb ht (by omega) (by omega) ?_
  cases hf : hk_find T a 0 with
  | some j =>
    refine br_f (hk_o_ne (by have := hk_find_in hf (by have := ht.1; omega); omega)) (go (hk_xe_s hf) ?_)
    rw [hk_it_f hf]; exact fun z => by cases z
  | none =>
    refine br_t rfl ?_
    have e2 : nI T.1 + 2 = nI (T.1 + 2) := nI_add T.1 2
    rw [e2]
    refine pk_le (T.1 + 2) 48 (fun z => go (hk_xe_n hf z) ?_) (fun z => ?_)
    · rw [hk_it_a hf (by omega)]; exact fun z => by cases z
    · rw [hk_xe_z hf (by omega)] at k
      exact k xA xR hb
theorem xa_internAbs {post : Int32 → St2 → Prop} {T : hk_T} {d c : Nat} (hb : hk_tb T xA xR) (ht : hk_ti T) (hd : d < T.1) (hc : c < T.1)
    (k : ∀ A' R' : Nat → Int32, hk_tb (hk_xa T d c).2 A' R' → post (hk_o (hk_xa T d c).1) (nI (hk_xa T d c).2.1, xc, xm, xd, xh, A', R', xK, xS, xY, xP, xE)) : wpX_internAbsTypes post (nI T.1, xc, xm, xd, xh, xA, xR, xK, xS, xY, xP, xE) (nI d) (nI c) := by
  have hn := ht.2.1
  obtain ⟨i1, i2, i3, i4⟩ := hk_it_ok (d := d) (c := c) ht hd hc
  have go : ∀ t, (hk_it T d c).1 = some t → hk_xa T d c = hk_xb (hk_it T d c).2 t → wX_internAbsTypes_25 post (nI d) (nI c) (nI T.1) xc xm xd xh xA xR xK xS xY xP xE := by
    intro t hr e
    refine xa_intern hb ht hd hc (fun A' R' hb' => ?_)
    rw [hr]
    have hf := i4 t hr
    refine xa_internEq (a := t) hb' i1 hf.2 (fun A2 R2 hb2 => ?_)
    rw [e] at k
    cases hq : (hk_xe (hk_it T d c).2 t).1 with
    | none =>
      have w : hk_xb (hk_it T d c).2 t = (none, (hk_xe (hk_it T d c).2 t).2) := by unfold hk_xb; rw [hq]
      rw [w] at k
      exact br_t rfl (k A2 R2 hb2)
    | some j =>
      have w : hk_xb (hk_it T d c).2 t = (some t, (hk_xe (hk_it T d c).2 t).2) := by unfold hk_xb; rw [hq]
      rw [w] at k
      refine br_f (hk_o_ne ?_) (k A2 R2 hb2)
      have := hk_xe_in i1 hf.2 hq
      omega
  refine xa_find hb ht (by omega) (by omega) ?_
  cases hf : hk_find T d c with
  | some j =>
    refine br_f (hk_o_ne (by have := hk_find_in hf (by have := ht.1; omega); omega)) (go j (by rw [hk_it_f hf]) ?_)
    unfold hk_xa
    rw [hf, hk_it_f hf]
  | none =>
    refine br_t rfl ?_
    have e2 : nI T.1 + 3 = nI (T.1 + 3) := nI_add T.1 3
    rw [e2]
    refine pk_le (T.1 + 3) 48 (fun z => go T.1 (by rw [hk_it_a hf (by omega)]) ?_) (fun z => ?_)
    · unfold hk_xa
      rw [hf, if_pos z]
    · have w : hk_xa T d c = (none, T) := by unfold hk_xa; rw [hf, if_neg (by omega)]
      rw [w] at k
      exact k xA xR hb
end
end
section
/-! the component: what builds terms -/
section
variable {xn xc xm xd xh : Int32} {xA xR xK xS xY xP xE : Nat → Int32}
theorem xa_append {post : St2 → Prop} {o c : Nat} {l : List Nat} {y : Int32} (ho : o < 98) (h : hk_h xK xS o l) (hl : l.length < 100000) (hy : y = nI c)
    (k : ∀ K S : Nat → Int32, hk_h K S o (l ++ [c]) → hk_fr (fun s => s = o) xK xS K S → post (xn, xc, xm, xd, xh, xA, xR, K, S, xY, xP, xE)) : wpX_append post (xn, xc, xm, xd, xh, xA, xR, xK, xS, xY, xP, xE) (nI o) y := by
  subst hy
  have V : vp_in (nI o) 98 := vp_in_nI ho (by omega)
  have e := hk_sz h (by omega)
  have ec : (nI o).toNatClampNeg = o := nI_clamp (by omega)
  refine ⟨V, ?_⟩
  refine pk_le 32 l.length (fun z => ⟨V, V, ?_⟩) (fun z => ⟨V, ?_, ?_⟩) rfl e
  · refine nm_r (e' := upd xS o (nI (l.length + 1))) (by rw [e, ec, nI_1]) ?_
    exact k _ _ (hk_put' h z) hk_fr_s
  · rw [e]; exact hk_vx ho z
  · refine nm_r (e' := upd xK (o * 32 + l.length) (nI c)) (by rw [e, hk_ad, nI_clamp (by omega)]) ⟨V, V, ?_⟩
    refine nm_r (e' := upd xS o (nI (l.length + 1))) (by rw [e, ec, nI_1]) ?_
    exact k _ _ (hk_put h) (hk_fr_p z)
theorem xa_run_l {post : St2 → Prop} {o s to : Nat} {src : List Nat} (ho : o < 98) (hs : s < 98) (hso : s ≠ o) (ht : to ≤ src.length) (hl : src.length ≤ 32) :
    ∀ (d p : Nat) (K S : Nat → Int32) (l : List Nat), p + d = to → hk_h K S o l → hk_h K S s src → l.length + d < 100000 →
      (∀ K' S' : Nat → Int32, hk_h K' S' o (l ++ hk_fm (fun q => [hk_c src q]) p d) → hk_fr (fun s => s = o) K S K' S' → post (xn, xc, xm, xd, xh, xA, xR, K', S', xY, xP, xE)) → wX_appendRun_3 post (nI o) (nI s) (nI to) (d + 1) (nI p) xn xc xm xd xh xA xR K S xY xP xE := by
  intro d
  induction d with
  | zero =>
    intro p K S l hp h hsrc hlen k
    refine br_t (nI_le (by omega) (by omega)) (k K S ?_ hk_fr_r)
    show hk_h K S o (l ++ [])
    rw [List.append_nil]; exact h
  | succ d ih =>
    intro p K S l hp h hsrc hlen k
    refine br_f (nI_ge (by omega) (by omega)) ⟨hk_vx hs (by omega), ?_⟩
    refine xa_append (c := hk_c src p) ho h (by omega) (hk_rd hsrc (by omega) (by omega) (by omega)) (fun K1 S1 h1 f1 => ?_)
    refine nm_r (nI_1 _) ?_
    refine ih (p + 1) K1 S1 (l ++ [hk_c src p]) (by omega) h1 (hk_fr_h f1 hso hsrc) (by rw [hk_len1]; omega) (fun K2 S2 h2 f2 => k K2 S2 ?_ (hk_fr_t f1 f2))
    rw [hk_fm_l, ← List.append_assoc]; exact h2
theorem xa_run {post : St2 → Prop} {o s p to : Nat} {src l : List Nat} (ho : o < 98) (hs : s < 98) (hso : s ≠ o) (hp : p ≤ to) (ht : to ≤ src.length) (hl : src.length ≤ 32) (h : hk_h xK xS o l) (hsrc : hk_h xK xS s src) (hlen : l.length < 90000)
    (k : ∀ K S : Nat → Int32, hk_h K S o (l ++ hk_fm (fun q => [hk_c src q]) p (to - p)) → hk_fr (fun s => s = o) xK xS K S → post (xn, xc, xm, xd, xh, xA, xR, K, S, xY, xP, xE)) : wpX_appendRun post (xn, xc, xm, xd, xh, xA, xR, xK, xS, xY, xP, xE) (nI o) (nI s) (nI p) (nI to) :=
  ⟨_, xa_run_l ho hs hso ht hl (to - p) p xK xS l (by omega) h hsrc (by omega) k⟩
/-- a whole term -/
theorem xa_all {post : St2 → Prop} {o s : Nat} {src l : List Nat} {y : Int32} (ho : o < 98) (hs : s < 98) (hso : s ≠ o) (hl : src.length ≤ 32) (h : hk_h xK xS o l) (hsrc : hk_h xK xS s src) (hlen : l.length < 90000) (hy : y = nI src.length)
    (k : ∀ K S : Nat → Int32, hk_h K S o (l ++ src) → hk_fr (fun s => s = o) xK xS K S → post (xn, xc, xm, xd, xh, xA, xR, K, S, xY, xP, xE)) : wpX_appendRun post (xn, xc, xm, xd, xh, xA, xR, xK, xS, xY, xP, xE) (nI o) (nI s) 0 y := by
  subst hy
  refine xa_run (p := 0) ho hs hso (by omega) (Nat.le_refl _) hl h hsrc hlen (fun K S h1 f1 => k K S ?_ f1)
  rw [Nat.sub_zero, hk_fm_all] at h1; exact h1
/-! depths -/
theorem xa_mk2 {post : St2 → Prop} {J : Int32 → (Nat → Int32) → (Nat → Int32) → (Nat → Int32) → (Nat → Int32) → (Nat → Int32) → (Nat → Int32) → (Nat → Int32) → Prop} {s n p e : Nat} (he : e ≤ 32) (hp : p < 32) :
    ∀ (d q : Nat) (E : Nat → Int32), e ≤ q + d → q < 1000 → (∀ E' : Nat → Int32, (∀ i, E' i = if q ≤ i ∧ i < e then E i + 1 else E i) → J (nI (p + 1)) xA xR xK xS xY xP E') →
      wX_markDepths_61 post J (nI s) (nI n) (nI p) (nI e) xn xc xm xd xh (d + 1) (nI q) xA xR xK xS xY xP E := by
  intro d
  induction d with
  | zero =>
    intro q E hq hq' k
    refine br_t (nI_le (by omega) (by omega)) (nm_r (nI_1 _) (k E (fun i => ?_)))
    rw [if_neg (by omega)]
  | succ d ih =>
    intro q E hq hq' k
    refine pk_le e q (fun z => nm_r (nI_1 _) (k E (fun i => ?_))) (fun z => ?_)
    · rw [if_neg (by omega)]
    · have V : vp_in (nI q) 32 := vp_in_nI (by omega) (by omega)
      refine ⟨V, V, nm_r (e' := upd E q (E q + 1)) (by rw [nI_clamp (by omega)]) (nm_r (nI_1 _) ?_)⟩
      refine ih (q + 1) (upd E q (E q + 1)) (by omega) (by omega) (fun E' hE => k E' (fun i => ?_))
      rw [hE i]
      by_cases w : i = q
      · subst w
        rw [if_neg (by omega), if_pos ⟨Nat.le_refl _, z⟩, pk_us]
      · rw [pk_un w]
        by_cases w2 : q + 1 ≤ i ∧ i < e
        · rw [if_pos w2, if_pos ⟨by omega, w2.2⟩]
        · rw [if_neg w2, if_neg (fun y => w2 ⟨by omega, y.2⟩)]
theorem xa_mk1 {post : St2 → Prop} {s n : Nat} {l : List Nat} (h : hk_h xK xS s l) (hs : s < 98) (g : hk_gt n l)
    (k : ∀ E' : Nat → Int32, (∀ i, i < l.length → E' i = nI (hk_dp l 0 i)) → post (xn, xc, xm, xd, xh, xA, xR, xK, xS, xY, xP, E')) :
    ∀ (d p : Nat) (E : Nat → Int32), p + d = l.length → (∀ i, i < l.length → E i = nI (hk_dn l i 0 (min p i))) → wX_markDepths_29 post (nI s) (nI l.length) xn xc xm xd xh (d + 1) (nI p) xA xR xK xS xY xP E := by
  have hl := g.2.1
  intro d
  induction d with
  | zero =>
    intro p E hp hE
    refine br_t (nI_le (by omega) (by omega)) (k E (fun i hi => ?_))
    rw [hE i hi, show min p i = i - 0 by omega]; rfl
  | succ d ih =>
    intro p E hp hE
    have pl : p < l.length := by omega
    refine br_f (nI_ge (by omega) (by omega)) ?_
    refine xa_kind h hs pl (by omega) (hk_gt_c g pl).1 ?_
    have hc := (hk_gt_c g pl).1
    have step : ∀ i, hk_dn l i 0 (p + 1) = hk_dn l i 0 p + (if hk_c l p / 65536 = 4 ∧ i < hk_e l p then 1 else 0) := by
      intro i
      show hk_dn l i 0 p + (if hk_c l (0 + p) / 65536 = 4 ∧ i < hk_e l (0 + p) then 1 else 0) = _
      rw [Nat.zero_add]
    refine pk_eq (hk_c l p / 65536) 4 (fun e4 => ?_) (fun e4 => ?_)
    · obtain ⟨m, -, ha⟩ := hk_at_ex g.1 pl
      have he := (hk_at_end ha).2.1.1
      refine xa_end h hs hl (fun c hc => (g.2.2 c hc).1) ha ?_
      refine nm_r (nI_1 _) ⟨_, xa_mk2 (by omega) (by omega) (hk_e l p) (p + 1) E (by omega) (by omega) (fun E' hE' => ih (p + 1) E' (by omega) (fun i hi => ?_))⟩
      rw [hE' i]
      by_cases w : p + 1 ≤ i
      · rw [show min (p + 1) i = p + 1 by omega, step i]
        by_cases w2 : i < hk_e l p
        · rw [if_pos ⟨w, w2⟩, if_pos ⟨e4, w2⟩, hE i hi, nI_1, show min p i = p by omega]
        · rw [if_neg (fun y => w2 y.2), if_neg (fun y => w2 y.2), hE i hi, show min p i = p by omega]; rfl
      · rw [if_neg (fun y => w y.1), hE i hi, show min p i = min (p + 1) i by omega]
    · refine nm_r (nI_1 _) ⟨_, xa_mk2 (e := p) (by omega) (by omega) 0 (p + 1) E (by omega) (by omega) (fun E' hE' => ih (p + 1) E' (by omega) (fun i hi => ?_))⟩
      rw [hE' i, if_neg (by omega), hE i hi]
      by_cases w : p + 1 ≤ i
      · rw [show min (p + 1) i = p + 1 by omega, step i, if_neg (fun y => e4 y.1), show min p i = p by omega]; rfl
      · rw [show min p i = min (p + 1) i by omega]
theorem xa_mk0 {post : St2 → Prop} {s n : Nat} {l : List Nat} (h : hk_h xK xS s l) (hs : s < 98) (g : hk_gt n l)
    (k : ∀ E' : Nat → Int32, (∀ i, i < l.length → E' i = nI (hk_dp l 0 i)) → post (xn, xc, xm, xd, xh, xA, xR, xK, xS, xY, xP, E')) :
    ∀ (d p : Nat) (E : Nat → Int32), p + d = l.length → (∀ i, i < p → E i = 0) → wX_markDepths_9 post (nI s) (nI l.length) xn xc xm xd xh (d + 1) (nI p) xA xR xK xS xY xP E := by
  have hl := g.2.1
  intro d
  induction d with
  | zero =>
    intro p E hp hE
    refine br_t (nI_le (by omega) (by omega)) ⟨_, xa_mk1 h hs g k l.length 0 E (by omega) (fun i hi => ?_)⟩
    rw [hE i (by omega), show min 0 i = 0 by omega]; rfl
  | succ d ih =>
    intro p E hp hE
    refine br_f (nI_ge (by omega) (by omega)) ⟨vp_in_nI (by omega) (by omega), nm_r (e' := upd E p 0) (by rw [nI_clamp (by omega)]) (nm_r (nI_1 _) ?_)⟩
    refine ih (p + 1) (upd E p 0) (by omega) (fun i hi => ?_)
    by_cases w : i = p
    · subst w; exact pk_us
    · rw [pk_un w]; exact hE i (by omega)
theorem xa_mark {post : St2 → Prop} {s n : Nat} {l : List Nat} (h : hk_h xK xS s l) (hs : s < 98) (g : hk_gt n l)
    (k : ∀ E' : Nat → Int32, (∀ i, i < l.length → E' i = nI (hk_dp l 0 i)) → post (xn, xc, xm, xd, xh, xA, xR, xK, xS, xY, xP, E')) : wpX_markDepths post (xn, xc, xm, xd, xh, xA, xR, xK, xS, xY, xP, xE) (nI s) :=
  ⟨vp_in_nI hs (by omega), nm_r (hk_sz h (by omega)) ⟨_, xa_mk0 h hs g k l.length 0 xE (by omega) (fun i hi => absurd hi (Nat.not_lt_zero i))⟩⟩
/-! abstraction -/
theorem xa_abs_l {post : St2 → Prop} {o v s f to vc : Nat} {l : List Nat} (ho : o < 98) (hs : s < 98) (hv32 : v < 32) (hso : s ≠ o) (hvo : v ≠ o) (hl : l.length ≤ 32) (hto : to ≤ l.length) (hc : ∀ c, c ∈ l → c < 524288) (hvc : vc < 524288)
    (hY : xY v = nI (vc % 256)) (hE : ∀ q, f ≤ q → q < to → xE q = nI (hk_dp l f q)) :
    ∀ (d p : Nat) (K S : Nat → Int32) (l0 : List Nat), p + d = to → f ≤ p → hk_h K S o l0 → hk_h K S s l → hk_h K S v [vc] → l0.length + d < 100000 →
      (∀ K' S' : Nat → Int32, hk_h K' S' o (l0 ++ hk_fm (fun q => [hk_ab1 l f vc q]) p d) → hk_fr (fun s => s = o) K S K' S' → post (xn, xc, xm, xd, xh, xA, xR, K', S', xY, xP, xE)) →
      wX_appendAbstraction_18 post (nI o) (nI v) (nI s) (nI to) (d + 1) (nI p) xn xc xm xd xh xA xR K S xY xP xE := by
  intro d
  induction d with
  | zero =>
    intro p K S l0 hp hf h hsrc hv hlen k
    refine br_t (nI_le (by omega) (by omega)) (k K S ?_ hk_fr_r)
    show hk_h K S o (l0 ++ [])
    rw [List.append_nil]; exact h
  | succ d ih =>
    intro p K S l0 hp hf h hsrc hv hlen k
    have pl : p < l.length := by omega
    have hxc := hc _ (hk_c_mem pl)
    have ev : K (nI v * 32).toNatClampNeg = nI vc := by
      rw [hk_ad0, nI_clamp (by omega)]
      exact hv.2 0 (Nat.zero_lt_one) (by decide)
    have go : ∀ y : Int32, y = nI (hk_ab1 l f vc p) → wX_appendAbstraction_76 post (wX_appendAbstraction_18 post (nI o) (nI v) (nI s) (nI to) (d + 1)) (nI o) (nI v) (nI s) (nI to) (nI p) y xn xc xm xd xh xA xR K S xY xP xE := by
      intro y hy
      refine xa_append (c := hk_ab1 l f vc p) ho h (by omega) hy (fun K1 S1 h1 f1 => ?_)
      refine nm_r (nI_1 _) ?_
      refine ih (p + 1) K1 S1 (l0 ++ [hk_ab1 l f vc p]) (by omega) (by omega) h1 (hk_fr_h f1 hso hsrc) (hk_fr_h f1 hvo hv) (by rw [hk_len1]; omega) (fun K2 S2 h2 f2 => k K2 S2 ?_ (hk_fr_t f1 f2))
      rw [hk_fm_l, ← List.append_assoc]; exact h2
    refine br_f (nI_ge (by omega) (by omega)) ⟨hk_vx hs (by omega), nm_r (hk_rd hsrc (by omega) pl (by omega)) ⟨by rw [hk_ad0]; exact vp_in_nI (by omega) (by omega), ?_⟩⟩
    rw [ev]
    refine pk_eq (hk_c l p) vc (fun e => ⟨vp_in_nI (by omega) (by omega), vp_in_nI (by omega) (by omega), nm_e (go _ ?_)⟩) (fun e => go _ ?_)
    · have hd := hk_dp_le l f p
      rw [nI_clamp (n := p) (by omega), nI_clamp (n := v) (by omega), hE p hf (by omega), hY]
      unfold hk_ab1
      rw [if_pos e, show (256 : Int32) = nI 256 from rfl, show (327680 : Int32) = nI 327680 from rfl, pk_mul, nI_add, nI_add]
    · unfold hk_ab1
      rw [if_neg e]
theorem xa_abs {post : St2 → Prop} {o v s f to vc n : Nat} {l l0 : List Nat} (ho : o < 98) (hs : s < 98) (hv32 : v < 32) (hso : s ≠ o) (hvo : v ≠ o) (g : hk_gt n l) (hf : f ≤ to) (hto : to ≤ l.length) (hvc : vc < 524288)
    (hY : xY v = nI (vc % 256)) (hE : ∀ q, f ≤ q → q < to → xE q = nI (hk_dp l f q)) (h : hk_h xK xS o l0) (hsrc : hk_h xK xS s l) (hv : hk_h xK xS v [vc]) (hlen : l0.length < 90000)
    (k : ∀ K S : Nat → Int32, hk_h K S o (l0 ++ hk_abl l f (to - f) vc) → hk_fr (fun s => s = o) xK xS K S → post (xn, xc, xm, xd, xh, xA, xR, K, S, xY, xP, xE)) : wpX_appendAbstraction post (xn, xc, xm, xd, xh, xA, xR, xK, xS, xY, xP, xE) (nI o) (nI v) (nI s) (nI f) (nI to) := by
  have hl := g.2.1
  refine ⟨vp_in_nI hv32 (by omega), ?_⟩
  refine xa_append (c := 262144 + vc % 256) ho h (by omega) ?_ (fun K1 S1 h1 f1 => ⟨to - f + 1, ?_⟩)
  · rw [nI_clamp (by omega), hY, show (262144 : Int32) = nI 262144 from rfl, nI_add]
  · refine xa_abs_l ho hs hv32 hso hvo hl hto (fun c hc => (g.2.2 c hc).1) hvc hY hE (to - f) f K1 S1 (l0 ++ [262144 + vc % 256]) (by omega) (Nat.le_refl _) h1 (hk_fr_h f1 hso hsrc) (hk_fr_h f1 hvo hv) (by rw [hk_len1]; omega) (fun K2 S2 h2 f2 => k K2 S2 ?_ (hk_fr_t f1 f2))
    rw [List.append_assoc] at h2; exact h2
/-! substitution -/
theorem xa_sub_l {post : St2 → Prop} {o v s t vc : Nat} {l u : List Nat} (ho : o < 98) (hs : s < 98) (hv98 : v < 98) (ht : t < 98) (hso : s ≠ o) (hvo : v ≠ o) (hto : t ≠ o) (hl : l.length ≤ 32) (hul : u.length ≤ 32) (hc : ∀ c, c ∈ l → c < 524288) (hvc : vc < 524288) :
    ∀ (d p : Nat) (K S : Nat → Int32) (l0 : List Nat), p + d = l.length → hk_h K S o l0 → hk_h K S s l → hk_h K S v [vc] → hk_h K S t u → l0.length + d * 32 < 80000 →
      (∀ K' S' : Nat → Int32, hk_h K' S' o (l0 ++ hk_fm (fun q => if hk_c l q = vc then u else [hk_c l q]) p d) → hk_fr (fun s => s = o) K S K' S' → post (xn, xc, xm, xd, xh, xA, xR, K', S', xY, xP, xE)) →
      wX_substitute_19 post (nI s) (nI v) (nI t) (nI o) (nI l.length) (d + 1) (nI p) xn xc xm xd xh xA xR K S xY xP xE := by
  intro d
  induction d with
  | zero =>
    intro p K S l0 hp h hsrc hv hu hlen k
    refine br_t (nI_le (by omega) (by omega)) (k K S ?_ hk_fr_r)
    show hk_h K S o (l0 ++ [])
    rw [List.append_nil]; exact h
  | succ d ih =>
    intro p K S l0 hp h hsrc hv hu hlen k
    have pl : p < l.length := by omega
    have hxc := hc _ (hk_c_mem pl)
    have ev : K (nI v * 32).toNatClampNeg = nI vc := by
      rw [hk_ad0, nI_clamp (by omega)]
      exact hv.2 0 (Nat.zero_lt_one) (by decide)
    refine br_f (nI_ge (by omega) (by omega)) ⟨hk_vx hs (by omega), nm_r (hk_rd hsrc (by omega) pl (by omega)) ⟨by rw [hk_ad0]; exact vp_in_nI (by omega) (by omega), ?_⟩⟩
    rw [ev]
    refine pk_eq (hk_c l p) vc (fun e => ⟨vp_in_nI ht (by omega), ?_⟩) (fun e => ?_)
    · refine xa_all ho ht hto hul h hu (by omega) (hk_sz hu (by omega)) (fun K1 S1 h1 f1 => ?_)
      refine nm_r (nI_1 _) ?_
      refine ih (p + 1) K1 S1 (l0 ++ u) (by omega) h1 (hk_fr_h f1 hso hsrc) (hk_fr_h f1 hvo hv) (hk_fr_h f1 hto hu) (by rw [List.length_append]; omega) (fun K2 S2 h2 f2 => k K2 S2 ?_ (hk_fr_t f1 f2))
      rw [hk_fm_l, ← List.append_assoc, if_pos e]; exact h2
    · refine xa_append (c := hk_c l p) ho h (by omega) rfl (fun K1 S1 h1 f1 => ?_)
      refine nm_r (nI_1 _) ?_
      refine ih (p + 1) K1 S1 (l0 ++ [hk_c l p]) (by omega) h1 (hk_fr_h f1 hso hsrc) (hk_fr_h f1 hvo hv) (hk_fr_h f1 hto hu) (by rw [hk_len1]; omega) (fun K2 S2 h2 f2 => k K2 S2 ?_ (hk_fr_t f1 f2))
      rw [hk_fm_l, ← List.append_assoc, if_neg e]; exact h2
theorem xa_sub {post : St2 → Prop} {o v s t vc n : Nat} {l u : List Nat} (ho : o < 98) (hs : s < 98) (hv98 : v < 98) (ht : t < 98) (hso : s ≠ o) (hvo : v ≠ o) (hto : t ≠ o) (g : hk_gt n l) (gu : hk_gt n u) (hvc : vc < 524288)
    (hsrc : hk_h xK xS s l) (hv : hk_h xK xS v [vc]) (hu : hk_h xK xS t u)
    (k : ∀ K S : Nat → Int32, hk_h K S o (hk_sb l vc u) → hk_fr (fun s => s = o) xK xS K S → post (xn, xc, xm, xd, xh, xA, xR, K, S, xY, xP, xE)) : wpX_substitute post (xn, xc, xm, xd, xh, xA, xR, xK, xS, xY, xP, xE) (nI s) (nI v) (nI t) (nI o) := by
  have hl := g.2.1
  have f0 : hk_fr (fun s => s = o) xK xS xK (upd xS o 0) := hk_fr_s
  refine ⟨vp_in_nI hs (by omega), nm_r (hk_sz hsrc (by omega)) ⟨vp_in_nI ho (by omega), nm_r (e' := upd xS o 0) (by rw [nI_clamp (by omega)]) ⟨l.length + 1, ?_⟩⟩⟩
  exact xa_sub_l ho hs hv98 ht hso hvo hto hl gu.2.1 (fun c hc => (g.2.2 c hc).1) hvc l.length 0 xK (upd xS o 0) [] (by omega) hk_h0 (hk_fr_h f0 hso hsrc) (hk_fr_h f0 hvo hv) (hk_fr_h f0 hto hu) (by show 0 + l.length * 32 < 80000; omega)
    (fun K2 S2 h2 f2 => k K2 S2 (by rw [List.nil_append] at h2; exact h2) (hk_fr_t f0 f2))
/-! contraction -/
theorem xa_lift_l {post : St2 → Prop} {o s f to lf : Nat} {l : List Nat} (ho : o < 98) (hs : s < 98) (hso : s ≠ o) (hl : l.length ≤ 32) (hto : to ≤ l.length) (hfe : to ≤ hk_e l f) (hc : ∀ c, c ∈ l → c < 524288) (hlf : lf ≤ 32)
    (hE : ∀ q, q < l.length → xE q = nI (hk_dp l 0 q)) (hff : f < l.length) :
    ∀ (d p : Nat) (K S : Nat → Int32) (l0 : List Nat), p + d = to → f ≤ p → hk_h K S o l0 → hk_h K S s l → l0.length + d < 100000 →
      (∀ K' S' : Nat → Int32, hk_h K' S' o (l0 ++ hk_fm (fun q => [hk_lf l f lf q]) p d) → hk_fr (fun s => s = o) K S K' S' → post (xn, xc, xm, xd, xh, xA, xR, K', S', xY, xP, xE)) →
      wX_appendLifted_3 post (nI o) (nI s) (nI f) (nI to) (nI lf) (d + 1) (nI p) xn xc xm xd xh xA xR K S xY xP xE := by
  intro d
  induction d with
  | zero =>
    intro p K S l0 hp hf h hsrc hlen k
    refine br_t (nI_le (by omega) (by omega)) (k K S ?_ hk_fr_r)
    show hk_h K S o (l0 ++ [])
    rw [List.append_nil]; exact h
  | succ d ih =>
    intro p K S l0 hp hf h hsrc hlen k
    have pl : p < l.length := by omega
    have hxc := hc _ (hk_c_mem pl)
    have hd := hk_dp_le l f p
    have ein : xE (nI p).toNatClampNeg - xE (nI f).toNatClampNeg = nI (hk_dp l f p) := by
      rw [nI_clamp (by omega), nI_clamp (by omega), hE p pl, hE f hff, hk_dp_sub hf (by omega), pk_sub (by omega), Nat.add_sub_cancel_left]
    have go : ∀ y : Int32, y = nI (hk_lf l f lf p) → wX_appendLifted_74 post (wX_appendLifted_3 post (nI o) (nI s) (nI f) (nI to) (nI lf) (d + 1)) (nI o) (nI s) (nI f) (nI to) (nI lf) (nI p) y xn xc xm xd xh xA xR K S xY xP xE := by
      intro y hy
      refine xa_append (c := hk_lf l f lf p) ho h (by omega) hy (fun K1 S1 h1 f1 => ?_)
      refine nm_r (nI_1 _) ?_
      refine ih (p + 1) K1 S1 (l0 ++ [hk_lf l f lf p]) (by omega) (by omega) h1 (hk_fr_h f1 hso hsrc) (by rw [hk_len1]; omega) (fun K2 S2 h2 f2 => k K2 S2 ?_ (hk_fr_t f1 f2))
      rw [hk_fm_l, ← List.append_assoc]; exact h2
    refine br_f (nI_ge (by omega) (by omega)) ⟨hk_vx hs (by omega), nm_r (hk_rd hsrc (by omega) pl (by omega)) ⟨vp_in_nI (by omega) (by omega), vp_in_nI (by omega) (by omega), nm_r ein ?_⟩⟩
    refine xa_kind hsrc hs pl (by omega) hxc ?_
    refine pk_eq (hk_c l p / 65536) 5 (fun e => ?_) (fun e => go _ ?_)
    · refine xa_index hsrc hs pl (by omega) hxc ?_
      refine pk_lt (hk_c l p / 256 % 256) (hk_dp l f p) (fun z => go _ ?_) (fun z => nm_e (go _ ?_))
      · unfold hk_lf
        rw [if_neg (fun y => by omega)]
      · unfold hk_lf
        rw [if_pos ⟨e, z⟩, show (256 : Int32) = nI 256 from rfl, pk_mul, nI_add]
    · unfold hk_lf
      rw [if_neg (fun y => e y.1)]
theorem xa_con_l {post : St2 → Prop} {o s b a r n : Nat} {l : List Nat} (ho : o < 98) (hs : s < 98) (hso : s ≠ o) (g : hk_gt n l) (hb : b < l.length) (hae : a = hk_e l b) (ha : a < l.length) (har : a ≤ r) (hre : r = hk_e l a) (hr : r ≤ l.length)
    (hE : ∀ q, q < l.length → xE q = nI (hk_dp l 0 q)) :
    ∀ (d p : Nat) (K S : Nat → Int32) (l0 : List Nat), p + d = a → b ≤ p → hk_h K S o l0 → hk_h K S s l → l0.length + d * 32 < 80000 →
      (∀ K' S' : Nat → Int32, hk_h K' S' o (l0 ++ hk_fm (hk_cb l b a r) p d ++ hk_fm (fun q => [hk_c l q]) r (l.length - r)) → hk_fr (fun s => s = o) K S K' S' → post (xn, xc, xm, xd, xh, xA, xR, K', S', xY, xP, xE)) →
      wX_contract_47 post (nI s) (nI o) (nI b) (nI a) (nI r) (d + 1) (nI p) xn xc xm xd xh xA xR K S xY xP xE := by
  have hl := g.2.1
  have hc : ∀ c, c ∈ l → c < 524288 := fun c hc => (g.2.2 c hc).1
  intro d
  induction d with
  | zero =>
    intro p K S l0 hp hf h hsrc hlen k
    refine br_t (nI_le (by omega) (by omega)) ⟨vp_in_nI hs (by omega), ?_⟩
    rw [hk_sz hsrc (by omega)]
    refine xa_run ho hs hso hr (Nat.le_refl _) hl h hsrc (by omega) (fun K1 S1 h1 f1 => k K1 S1 ?_ f1)
    show hk_h K1 S1 o (l0 ++ [] ++ _)
    rw [List.append_nil]; exact h1
  | succ d ih =>
    intro p K S l0 hp hf h hsrc hlen k
    have pl : p < l.length := by omega
    have hxc := hc _ (hk_c_mem pl)
    have hd := hk_dp_le l b p
    have ein : xE (nI p).toNatClampNeg - xE (nI b).toNatClampNeg = nI (hk_dp l b p) := by
      rw [nI_clamp (by omega), nI_clamp (by omega), hE p pl, hE b hb, hk_dp_sub hf (by omega), pk_sub (by omega), Nat.add_sub_cancel_left]
    have next : ∀ (K1 S1 : Nat → Int32) (w : List Nat), hk_cb l b a r p = w → w.length ≤ 32 → hk_h K1 S1 o (l0 ++ w) → hk_fr (fun s => s = o) K S K1 S1 → wX_contract_47 post (nI s) (nI o) (nI b) (nI a) (nI r) (d + 1) (nI (p + 1)) xn xc xm xd xh xA xR K1 S1 xY xP xE := by
      intro K1 S1 w ew hw h1 f1
      refine ih (p + 1) K1 S1 (l0 ++ w) (by omega) (by omega) h1 (hk_fr_h f1 hso hsrc) (by rw [List.length_append]; omega) (fun K2 S2 h2 f2 => k K2 S2 ?_ (hk_fr_t f1 f2))
      rw [hk_fm_l, ew, ← List.append_assoc]; exact h2
    have one : ∀ (P : St2 → Prop) (y : Int32) (c : Nat), (∀ K1 S1 : Nat → Int32, wX_contract_47 post (nI s) (nI o) (nI b) (nI a) (nI r) (d + 1) (nI (p + 1)) xn xc xm xd xh xA xR K1 S1 xY xP xE → P (xn, xc, xm, xd, xh, xA, xR, K1, S1, xY, xP, xE)) → y = nI c → hk_cb l b a r p = [c] → wpX_append P (xn, xc, xm, xd, xh, xA, xR, K, S, xY, xP, xE) (nI o) y := by
      intro P y c hP hy ew
      exact xa_append (c := c) ho h (by omega) hy (fun K1 S1 h1 f1 => hP K1 S1 (next K1 S1 [c] ew (by show 1 ≤ 32; decide) h1 f1))
    refine br_f (nI_ge (by omega) (by omega)) ⟨hk_vx hs (by omega), nm_r (hk_rd hsrc (by omega) pl (by omega)) ⟨vp_in_nI (by omega) (by omega), vp_in_nI (by omega) (by omega), nm_r ein ?_⟩⟩
    refine xa_kind hsrc hs pl (by omega) hxc ?_
    refine pk_eq (hk_c l p / 65536) 5 (fun e => ?_) (fun e => ?_)
    · refine xa_index hsrc hs pl (by omega) hxc ?_
      refine br_f (by decide) ?_
      refine pk_eq (hk_c l p / 256 % 256) (hk_dp l b p) (fun e2 => ⟨r - a + 1, ?_⟩) (fun e2 => ?_)
      · refine xa_lift_l ho hs hso hl hr (Nat.le_of_eq hre) hc (by omega) hE ha (r - a) a K S l0 (by omega) (Nat.le_refl _) h hsrc (by omega) (fun K1 S1 h1 f1 => ?_)
        refine nm_r (nI_1 _) (next K1 S1 _ ?_ ?_ h1 f1)
        · unfold hk_cb; rw [if_pos ⟨e, e2⟩]
        · rw [hk_fm_len]; omega
      · refine br_f (by decide) ?_
        refine pk_le (hk_c l p / 256 % 256) (hk_dp l b p) (fun z => ?_) (fun z => ?_)
        · exact one _ _ _ (fun K1 S1 q => nm_r (nI_1 _) q) rfl (by unfold hk_cb; rw [if_neg (fun y => e2 y.2), if_neg (fun y => by omega)])
        · exact one _ _ (hk_c l p - 256) (fun K1 S1 q => nm_r (nI_1 _) q) (pk_sub (b := 256) (by omega)) (by unfold hk_cb; rw [if_neg (fun y => e2 y.2), if_pos ⟨e, z⟩])
    · refine xa_index hsrc hs pl (by omega) hxc ?_
      refine br_t rfl (br_t rfl ?_)
      exact one _ _ _ (fun K1 S1 q => nm_r (nI_1 _) q) rfl (by unfold hk_cb; rw [if_neg (fun y => e y.1), if_neg (fun y => e y.1)])
theorem xa_contract {post : St2 → Prop} {o s r n : Nat} {l : List Nat} (ho : o < 98) (hs : s < 98) (hso : s ≠ o) (g : hk_gt n l) (hr : hk_rx l r) (hsrc : hk_h xK xS s l)
    (k : ∀ K S E : Nat → Int32, hk_h K S o (hk_con l r) → hk_fr (fun s => s = o) xK xS K S → post (xn, xc, xm, xd, xh, xA, xR, K, S, xY, xP, E)) : wpX_contract post (xn, xc, xm, xd, xh, xA, xR, xK, xS, xY, xP, xE) (nI s) (nI r) (nI o) := by
  have hl := g.2.1
  have hc : ∀ c, c ∈ l → c < 524288 := fun c hc => (g.2.2 c hc).1
  obtain ⟨m, t1, t2, t3, t4, o1, o2, s1, s2⟩ := hk_rx_at g.1 hr
  have w2 := hk_at_lt t2
  have w3 := hk_at_lt t3
  have w4 := t4.1
  have e2 : nI r + 2 = nI (r + 2) := nI_add r 2
  refine nm_r e2 ?_
  refine xa_end hsrc hs hl hc t2 ?_
  refine xa_end hsrc hs hl hc t3 ?_
  refine xa_mark hsrc hs g (fun E hE => ?_)
  refine ⟨vp_in_nI ho (by omega), nm_r (e' := upd xS o 0) (by rw [nI_clamp (by omega)]) ?_⟩
  have f0 : hk_fr (fun s => s = o) xK xS xK (upd xS o 0) := hk_fr_s
  refine xa_run (p := 0) ho hs hso (Nat.zero_le r) (by omega) hl hk_h0 (hk_fr_h f0 hso hsrc) (by decide) (fun K1 S1 h1 f1 => ⟨hk_e l (r + 2) - (r + 2) + 1, ?_⟩)
  rw [List.nil_append, Nat.sub_zero] at h1
  have f01 := hk_fr_t f0 f1
  refine xa_con_l ho hs hso g w2 rfl w3 (by omega) rfl w4 hE (hk_e l (r + 2) - (r + 2)) (r + 2) K1 S1 _ (by omega) (Nat.le_refl _) h1 (hk_fr_h f01 hso hsrc) (by rw [hk_fm_len]; omega) (fun K2 S2 h2 f2 => ?_)
  exact k K2 S2 E h2 (hk_fr_t f01 f2)
/-! copies and equations -/
theorem xa_copy_l {post : St2 → Prop} {s o : Nat} {l : List Nat} {S : Nat → Int32} (ho : o < 98) (hs : s < 98) (hso : s ≠ o) (hl : l.length ≤ 32) (hS : S o = nI l.length) (K0 S0 : Nat → Int32)
    (k : ∀ K' : Nat → Int32, hk_h K' S o l → hk_fr (fun s => s = o) K0 S0 K' S → post (xn, xc, xm, xd, xh, xA, xR, K', S, xY, xP, xE)) :
    ∀ (d p : Nat) (K : Nat → Int32), p + d = l.length → hk_h K S s l → (∀ i, i < p → K (o * 32 + i) = nI (hk_c l i)) → hk_fr (fun s => s = o) K0 S0 K S → wX_copyTerm_17 post (nI s) (nI o) (nI l.length) xn xc xm xd xh (d + 1) (nI p) xA xR K S xY xP xE := by
  intro d
  induction d with
  | zero =>
    intro p K hp h hd f
    exact br_t (nI_le (by omega) (by omega)) (k K ⟨hS, fun i hi _ => hd i (by omega)⟩ f)
  | succ d ih =>
    intro p K hp h hd f
    refine br_f (nI_ge (by omega) (by omega)) ⟨hk_vx hs (by omega), hk_vx ho (by omega), nm_r (e' := upd K (o * 32 + p) (nI (hk_c l p))) (by rw [hk_rd h (by omega) (by omega) (by omega), hk_ad, nI_clamp (by omega)]) (nm_r (nI_1 _) ?_)⟩
    refine ih (p + 1) _ (by omega) ⟨h.1, fun i hi h32 => ?_⟩ (fun i hi => ?_) (fun t ht => ⟨(f t ht).1, fun i hi => ?_⟩)
    · rw [pk_un (by omega)]; exact h.2 i hi h32
    · by_cases w : i = p
      · subst w; exact pk_us
      · rw [pk_un (by omega)]; exact hd i (by omega)
    · rw [pk_un (by have : t ≠ o := ht; omega)]; exact (f t ht).2 i hi
theorem xa_copy {post : St2 → Prop} {s o : Nat} {l : List Nat} (ho : o < 98) (hs : s < 98) (hso : s ≠ o) (hl : l.length ≤ 32) (h : hk_h xK xS s l)
    (k : ∀ K S : Nat → Int32, hk_h K S o l → hk_fr (fun s => s = o) xK xS K S → post (xn, xc, xm, xd, xh, xA, xR, K, S, xY, xP, xE)) : wpX_copyTerm post (xn, xc, xm, xd, xh, xA, xR, xK, xS, xY, xP, xE) (nI s) (nI o) := by
  refine ⟨vp_in_nI hs (by omega), nm_r (hk_sz h (by omega)) ⟨vp_in_nI ho (by omega), nm_r (e' := upd xS o (nI l.length)) (by rw [nI_clamp (by omega)]) ⟨l.length + 1, ?_⟩⟩⟩
  have f0 : hk_fr (fun s => s = o) xK xS xK (upd xS o (nI l.length)) := hk_fr_s
  exact xa_copy_l ho hs hso hl pk_us xK xS (fun K' => k K' _) l.length 0 xK (by omega) (hk_fr_h f0 hso h) (fun i hi => absurd hi (Nat.not_lt_zero i)) f0
theorem xa_start {post : St2 → Prop} {o a : Nat} (ho : o < 98)
    (k : ∀ K S : Nat → Int32, hk_h K S o [196608, 196608, 131072 + a] → hk_fr (fun s => s = o) xK xS K S → post (xn, xc, xm, xd, xh, xA, xR, K, S, xY, xP, xE)) : wpX_startEquation post (xn, xc, xm, xd, xh, xA, xR, xK, xS, xY, xP, xE) (nI o) (nI a) := by
  refine ⟨vp_in_nI ho (by omega), nm_r (e' := upd xS o 0) (by rw [nI_clamp (by omega)]) ?_⟩
  have f0 : hk_fr (fun s => s = o) xK xS xK (upd xS o 0) := hk_fr_s
  refine xa_append (c := 196608) (l := []) ho hk_h0 (by decide) rfl (fun K1 S1 h1 f1 => ?_)
  refine xa_append (c := 196608) (l := [196608]) ho h1 (by decide) rfl (fun K2 S2 h2 f2 => ?_)
  refine xa_append (c := 131072 + a) (l := [196608, 196608]) ho h2 (by decide) (nI_add 131072 a) (fun K3 S3 h3 f3 => ?_)
  exact k K3 S3 h3 (hk_fr_t (hk_fr_t (hk_fr_t f0 f1) f2) f3)
end
end
section
/-! the component: hypotheses of the theorem in the making -/
section
variable {xn xc xm xd xh : Int32} {xA xR xK xS xY xP xE : Nat → Int32}
theorem xa_hs_fr {W : Nat → Prop} {K S K' S' : Nat → Int32} {f : Nat} {H : List (List Nat)} (fr : hk_fr W K S K' S') (h : hk_hs (hk_h K S) f H) (hW : ∀ i, i < H.length → ¬ W (f + i)) : hk_hs (hk_h K' S') f H :=
  fun i hi => hk_fr_h fr (hW i hi) (h i hi)
/-- shifting up from the end, then the term itself -/
theorem xa_shift {post : Int32 → St2 → Prop} {nH s q f : Nat} {t : List Nat} {H : List (List Nat)} (hH : nH < 16) (hf : f = 32 + nH * 4 + 1) (hs : s < 98) (hsW : s < f ∨ f + 3 ≤ s) (lt : t.length ≤ 32) (lH : ∀ x, x ∈ H → x.length ≤ 32) (hq : q ≤ H.length) (hl : H.length < 3) (K0 S0 : Nat → Int32)
    (k : ∀ K S : Nat → Int32, hk_hs (hk_h K S) f (H.take q ++ t :: H.drop q) → hk_fr (fun s => f ≤ s ∧ s < f + 3) K0 S0 K S → post 1 (xn, xc, xm, xd, nI nH, xA, xR, K, S, xY, upd xP nH (nI (H.length + 1)), xE)) :
    ∀ (d i : Nat) (K S : Nat → Int32), i = q + d → i ≤ H.length → hk_h K S s t → (∀ j, j < i → hk_h K S (f + j) (H.getD j [])) → (∀ j, i ≤ j → j < H.length → hk_h K S (f + j + 1) (H.getD j [])) → hk_fr (fun s => f ≤ s ∧ s < f + 3) K0 S0 K S →
      wX_insertHyp_76 post (nI s) (nI f) (nI H.length) (nI q) (d + 1) (nI i) xn xc xm xd (nI nH) xA xR K S xY xP xE := by
  intro d
  induction d with
  | zero =>
    intro i K S hi hil hs1 lo hi1 fr
    refine br_t (nI_le (by omega) (by omega)) ?_
    rw [nI_add]
    refine xa_copy (by omega) hs (by omega) lt hs1 (fun K1 S1 h1 f1 => ?_)
    refine ⟨vp_in_nI hH (by omega), nm_r (e' := upd xP nH (nI (H.length + 1))) (by rw [nI_clamp (by omega), nI_1]) ?_⟩
    refine k K1 S1 (fun j hj => ?_) (hk_fr_t fr (hk_fr_w f1 (fun s e => by have e : s = f + q := e; omega)))
    rw [hk_put_len hq] at hj
    rcases Nat.lt_trichotomy j q with z | z | z
    · rw [hk_put_lo hq z]; exact hk_fr_h f1 (by intro e; have e : f + j = f + q := e; omega) (lo j (by omega))
    · subst z; rw [hk_put_at hq]; exact h1
    · obtain ⟨j', rfl⟩ : ∃ j', j = j' + 1 := ⟨j - 1, by omega⟩
      rw [hk_put_hi hq (by omega)]
      exact hk_fr_h f1 (by intro e; have e : f + (j' + 1) = f + q := e; omega) (hi1 j' (by omega) (by omega))
  | succ d ih =>
    intro i K S hi hil hs1 lo hi1 fr
    refine br_f (nI_ge (by omega) (by omega)) ?_
    have e1 : nI f + nI i - 1 = nI (f + (i - 1)) := by
      rw [nI_add, show f + i = f + (i - 1) + 1 by omega, nI_pred]
    rw [e1, nI_add]
    have src := lo (i - 1) (by omega)
    refine xa_copy (by omega) (by omega) (by omega) (lH _ (hk_ix_mem (by omega))) src (fun K1 S1 h1 f1 => ?_)
    have e2 : nI i + (-1) = nI (i - 1) := by
      have := pk_m1 (i - 1)
      rw [show i - 1 + 1 = i by omega] at this; exact this
    refine nm_r e2 ?_
    refine ih (i - 1) K1 S1 (by omega) (by omega) (hk_fr_h f1 (by intro e; have e : s = f + i := e; omega) hs1) (fun j hj => hk_fr_h f1 (by intro e; have e : f + j = f + i := e; omega) (lo j (by omega))) (fun j hj hj2 => ?_) (hk_fr_t fr (hk_fr_w f1 (fun s e => by have e : s = f + i := e; omega)))
    by_cases w : j = i - 1
    · subst w
      rw [show f + (i - 1) + 1 = f + i by omega]; exact h1
    · exact hk_fr_h f1 (by intro e; have e : f + j + 1 = f + i := e; omega) (hi1 j (by omega) hj2)
theorem xa_ins_l {post : Int32 → St2 → Prop} {s f n : Nat} {t : List Nat} {H : List (List Nat)} (hs : s < 98) (hf : f + 3 < 98) (g : hk_gt n t) (gH : ∀ x, x ∈ H → hk_gt n x) (ht : hk_h xK xS s t) (hh : hk_hs (hk_h xK xS) f H) (hl : H.length ≤ 3)
    (k : wX_insertHyp_46 post (nI s) (nI f) (nI H.length) (nI (hk_pos t H)) xn xc xm xd xh xA xR xK xS xY xP xE) :
    ∀ (d i : Nat), i + d = H.length → hk_pos t H = i + hk_pos t (H.drop i) → wX_insertHyp_22 post (nI s) (nI f) (nI H.length) xn xc xm xd xh xA xR xK xS xY xP xE (d + 1) (nI i) := by
  intro d
  induction d with
  | zero =>
    intro i hi hp
    rw [List.drop_of_length_le (by omega)] at hp
    have e : hk_pos t H = i := hp
    rw [e] at k
    exact br_t (nI_le (by omega) (by omega)) k
  | succ d ih =>
    intro i hi hp
    have il : i < H.length := by omega
    rw [hk_gd_drop il] at hp
    refine br_f (nI_ge (by omega) (by omega)) ?_
    rw [nI_add]
    refine xa_cmp (hh i il) ht (by omega) hs (gH _ (hk_ix_mem il)) g (fun r h1 h2 => ?_)
    refine br_c (fun z => ?_) (fun z => nm_r (nI_1 _) ?_)
    · have nlt : ¬ hk_lt (H.getD i []) t = true := fun y => absurd (h1.mpr y) (Int32.not_lt.mpr z)
      rw [hk_pos_f nlt] at hp
      rw [hp] at k; exact k
    · have lt : hk_lt (H.getD i []) t = true := h1.mp (Int32.not_le.mp z)
      rw [hk_pos_t lt] at hp
      exact ih (i + 1) (by omega) (by omega)
theorem xa_ins {post : Int32 → St2 → Prop} {nH s n f : Nat} {t : List Nat} {H : List (List Nat)} (hH : nH < 16) (hf : f = 32 + nH * 4 + 1) (hs : s < 98) (hsW : s < f ∨ f + 3 ≤ s) (g : hk_gt n t) (gH : ∀ x, x ∈ H → hk_gt n x) (ht : hk_h xK xS s t) (hh : hk_hs (hk_h xK xS) f H) (hP : xP nH = nI H.length) (hl : H.length ≤ 3)
    (k1 : (hk_ins t H).length ≤ 3 → ∀ K S P : Nat → Int32, hk_hs (hk_h K S) f (hk_ins t H) → hk_fr (fun s => f ≤ s ∧ s < f + 3) xK xS K S → P nH = nI (hk_ins t H).length → (∀ h, h ≠ nH → P h = xP h) → post 1 (xn, xc, xm, xd, nI nH, xA, xR, K, S, xY, P, xE))
    (k0 : 3 < (hk_ins t H).length → post 0 (xn, xc, xm, xd, nI nH, xA, xR, xK, xS, xY, xP, xE)) : wpX_insertHyp post (xn, xc, xm, xd, nI nH, xA, xR, xK, xS, xY, xP, xE) (nI s) := by
  unfold wpX_insertHyp
  dsimp only
  refine xa_part nH 1 ?_
  rw [← hf]
  refine ⟨vp_in_nI hH (by omega), nm_r (e' := nI H.length) (by rw [nI_clamp (by omega)]; exact hP) ⟨H.length + 1, ?_⟩⟩
  have hp := hk_pos_le (t := t) (H := H)
  refine xa_ins_l hs (by omega) g gH ht hh hl ?_ H.length 0 (by omega) (by rw [List.drop_zero, Nat.zero_add])
  have go : (hk_pos t H < H.length → H.getD (hk_pos t H) [] ≠ t) → wX_insertHyp_66 post (nI s) (nI f) (nI H.length) (nI (hk_pos t H)) xn xc xm xd (nI nH) xA xR xK xS xY xP xE := by
    intro ne
    have e := hk_ins_new ne
    have el : (hk_ins t H).length = H.length + 1 := by rw [e, hk_put_len hp]
    refine pk_lt H.length 3 (fun z => ⟨H.length - hk_pos t H + 1, ?_⟩) (fun z => k0 (by omega))
    refine xa_shift hH hf hs hsW g.2.1 (fun x hx => (gH x hx).2.1) hp z xK xS (fun K S h1 f1 => ?_) (H.length - hk_pos t H) H.length xK xS (by omega) (Nat.le_refl _) ht hh (fun j h1 h2 => by omega) hk_fr_r
    refine k1 (by omega) K S _ (by rw [e]; exact h1) f1 (by rw [pk_us, el]) (fun h hne => pk_un hne)
  refine pk_le H.length (hk_pos t H) (fun z => go (fun w => by omega)) (fun z => ?_)
  rw [nI_add]
  refine xa_cmp (hh _ z) ht (by omega) hs (gH _ (hk_ix_mem z)) g (fun r h1 h2 => ?_)
  refine br_c (fun w => ?_) (fun w => go (fun _ e => w (h2.mpr e)))
  have e := hk_ins_same z (h2.mp w)
  rw [e] at k1
  exact k1 hl xK xS xP hh hk_fr_r hP (fun h _ => rfl)
/-- what the exception says: none, or the term in a slot -/
def xa_exc (K S : Nat → Int32) (x : Int32) (n f : Nat) (wf : List Nat → Bool) : Prop :=
  (x = -1 ∧ ∀ t, wf t = true) ∨ ∃ (e : Nat) (l : List Nat), x = nI e ∧ e < 98 ∧ (e < f ∨ f + 3 ≤ e) ∧ hk_gt n l ∧ hk_h K S e l ∧ ∀ t, wf t = true ↔ t ≠ l
theorem xa_exc_fr {K S K' S' : Nat → Int32} {x : Int32} {n f : Nat} {wf : List Nat → Bool} (fr : hk_fr (fun s => f ≤ s ∧ s < f + 3) K S K' S') (h : xa_exc K S x n f wf) : xa_exc K' S' x n f wf := by
  rcases h with h | ⟨e, l, h1, h2, h3, h4, h5, h6⟩
  · exact Or.inl h
  · exact Or.inr ⟨e, l, h1, h2, h3, h4, hk_fr_h fr (by omega) h5, h6⟩
theorem xa_add_l {post : Int32 → St2 → Prop} {nH a n f : Nat} {A : List (List Nat)} {x : Int32} {wf : List Nat → Bool} (hH : nH < 16) (hf : f = 32 + nH * 4 + 1) (ha : a < nH) (lA : A.length ≤ 3) (gA : ∀ y, y ∈ A → hk_gt n y) :
    ∀ (d i : Nat) (K S P : Nat → Int32) (H : List (List Nat)), i + d = A.length → hk_hs (hk_h K S) (32 + a * 4 + 1) A → xa_exc K S x n f wf → hk_hs (hk_h K S) f H → P nH = nI H.length → H.length ≤ 3 → (∀ y, y ∈ H → hk_gt n y) →
      ((hk_un H ((A.drop i).filter wf)).length ≤ 3 → ∀ K' S' P' : Nat → Int32, hk_hs (hk_h K' S') f (hk_un H ((A.drop i).filter wf)) → hk_fr (fun s => f ≤ s ∧ s < f + 3) K S K' S' → P' nH = nI (hk_un H ((A.drop i).filter wf)).length → (∀ h, h ≠ nH → P' h = P h) → post 1 (xn, xc, xm, xd, nI nH, xA, xR, K', S', xY, P', xE)) →
      (3 < (hk_un H ((A.drop i).filter wf)).length → ∀ K' S' P' : Nat → Int32, hk_fr (fun s => f ≤ s ∧ s < f + 3) K S K' S' → (∀ h, h ≠ nH → P' h = P h) → post 0 (xn, xc, xm, xd, nI nH, xA, xR, K', S', xY, P', xE)) →
      wX_addHyps_10 post (nI a) x (nI A.length) (d + 1) (nI (i + 1)) xn xc xm xd (nI nH) xA xR K S xY P xE := by
  intro d
  induction d with
  | zero =>
    intro i K S P H hi hA hx hh hP hl gH k1 k0
    rw [List.drop_of_length_le (by omega)] at k1
    exact br_t (nI_lt (by omega) (by omega)) (k1 hl K S P hh hk_fr_r hP (fun _ _ => rfl))
  | succ d ih =>
    intro i K S P H hi hA hx hh hP hl gH k1 k0
    have il : i < A.length := by omega
    have hi1 := hA i il
    have gi := gA _ (hk_ix_mem il)
    rw [hk_gd_drop il] at k1 k0
    refine br_f (nI_nlt (by omega) (by omega)) ?_
    refine xa_part a (i + 1) ?_
    rw [show 32 + a * 4 + (i + 1) = 32 + a * 4 + 1 + i by omega]
    have yes : wf (A.getD i []) = true → wX_addHyps_39 post (wX_addHyps_10 post (nI a) x (nI A.length) (d + 1)) (nI a) x (nI A.length) (nI (i + 1)) (nI (32 + a * 4 + 1 + i)) xn xc xm xd (nI nH) xA xR K S xY P xE := by
      intro hw
      rw [List.filter_cons_of_pos hw] at k1 k0
      refine br_f (by decide) ?_
      refine xa_ins hH hf (by omega) (by omega) gi gH hi1 hh hP hl (fun h3 K1 S1 P1 h1 f1 p1 p2 => ?_) (fun h3 => ?_)
      · refine br_f (by decide) (nm_r (nI_1 _) ?_)
        refine ih (i + 1) K1 S1 P1 (hk_ins (A.getD i []) H) (by omega) (xa_hs_fr f1 hA (fun j hj => by omega)) (xa_exc_fr f1 hx) h1 p1 h3 (fun y hy => ?_) (fun q K2 S2 P2 h2 f2 q1 q2 => k1 q K2 S2 P2 h2 (hk_fr_t f1 f2) q1 (fun h hne => (q2 h hne).trans (p2 h hne))) (fun q K2 S2 P2 f2 q2 => k0 q K2 S2 P2 (hk_fr_t f1 f2) (fun h hne => (q2 h hne).trans (p2 h hne)))
        rcases hk_ins_mem.mp hy with e | e
        · rw [e]; exact gi
        · exact gH y e
      · refine br_t rfl (k0 ?_ K S P hk_fr_r (fun _ _ => rfl))
        have := (hk_un_len (ts := (A.drop (i + 1)).filter wf) (S := hk_ins (A.getD i []) H)).1
        show 3 < (hk_un (hk_ins (A.getD i []) H) ((A.drop (i + 1)).filter wf)).length
        omega
    rcases hx with ⟨rfl, hw⟩ | ⟨e, l, rfl, he, heW, ge, hle, hwf⟩
    · exact br_t rfl (yes (hw _))
    · refine br_f ?_ ?_
      · intro z
        have q : ¬ nI e < 0 := nI_pos (by omega)
        rw [z] at q; exact q (by decide)
      · refine xa_cmp hi1 hle (by omega) he gi ge (fun r h1 h2 => ?_)
        refine br_c (fun w => ?_) (fun w => yes ((hwf _).mpr (fun q => w (h2.mpr q))))
        have nw : ¬ wf (A.getD i []) = true := fun q => (hwf _).mp q (h2.mp w)
        rw [List.filter_cons_of_neg nw] at k1 k0
        refine br_t rfl (nm_r (nI_1 _) ?_)
        exact ih (i + 1) K S P H (by omega) hA (Or.inr ⟨e, l, rfl, he, heW, ge, hle, hwf⟩) hh hP hl gH k1 k0
theorem xa_add {post : Int32 → St2 → Prop} {nH a n f : Nat} {A H : List (List Nat)} {x : Int32} {wf : List Nat → Bool} (hH : nH < 16) (hf : f = 32 + nH * 4 + 1) (ha : a < nH) (lA : A.length ≤ 3) (gA : ∀ y, y ∈ A → hk_gt n y)
    (hPa : xP a = nI A.length) (hA : hk_hs (hk_h xK xS) (32 + a * 4 + 1) A) (hx : xa_exc xK xS x n f wf) (hh : hk_hs (hk_h xK xS) f H) (hP : xP nH = nI H.length) (hl : H.length ≤ 3) (gH : ∀ y, y ∈ H → hk_gt n y)
    (k1 : (hk_un H (A.filter wf)).length ≤ 3 → ∀ K' S' P' : Nat → Int32, hk_hs (hk_h K' S') f (hk_un H (A.filter wf)) → hk_fr (fun s => f ≤ s ∧ s < f + 3) xK xS K' S' → P' nH = nI (hk_un H (A.filter wf)).length → (∀ h, h ≠ nH → P' h = xP h) → post 1 (xn, xc, xm, xd, nI nH, xA, xR, K', S', xY, P', xE))
    (k0 : 3 < (hk_un H (A.filter wf)).length → ∀ K' S' P' : Nat → Int32, hk_fr (fun s => f ≤ s ∧ s < f + 3) xK xS K' S' → (∀ h, h ≠ nH → P' h = xP h) → post 0 (xn, xc, xm, xd, nI nH, xA, xR, K', S', xY, P', xE)) : wpX_addHyps post (xn, xc, xm, xd, nI nH, xA, xR, xK, xS, xY, xP, xE) (nI a) x :=
  ⟨vp_in_nI (by omega) (by omega), nm_r (e' := nI A.length) (by rw [nI_clamp (by omega)]; exact hPa) ⟨A.length + 1, xa_add_l hH hf ha lA gA A.length 0 xK xS xP H (by omega) hA hx hh hP hl gH (by rw [List.drop_zero]; exact k1) (by rw [List.drop_zero]; exact k0)⟩⟩
end
end
section
/-! what both sides hold: types T, nM terms with their types TY, nH theorems with HC hypotheses, G the codes by slots -/
def hk_R (T : hk_T) (nM : Nat) (TY : Nat → Nat) (nH : Nat) (HC : Nat → Nat) (G : Nat → List Nat) (A R Y P : Nat → Int32) (hd : Nat → List Nat → Prop) : Prop :=
  hk_tb T A R ∧ (∀ t, t < nM → Y t = nI (TY t) ∧ hd t (G t)) ∧ ∀ h, h < nH → P h = nI (HC h) ∧ ∀ p, p ≤ HC h → hd (32 + h * 4 + p) (G (32 + h * 4 + p))
def hk_I (T : hk_T) (nM : Nat) (TY : Nat → Nat) (nH : Nat) (HC : Nat → Nat) (G : Nat → List Nat) (cM cH : Nat) : Prop :=
  hk_ti T ∧ nM ≤ cM ∧ cM ≤ 32 ∧ nH ≤ cH ∧ cH ≤ 16 ∧ (∀ t, t < nM → TY t < T.1 ∧ hk_gt T.1 (G t) ∧ (hk_c (G t) 0 / 65536 = 1 → TY t = hk_c (G t) 0 % 256)) ∧ ∀ h, h < nH → HC h ≤ 3 ∧ ∀ p, p ≤ HC h → hk_gt T.1 (G (32 + h * 4 + p))
def hk_ug (G : Nat → List Nat) (k : Nat) (l : List Nat) : Nat → List Nat := fun j => if j = k then l else G j
theorem hk_ug_s (G : Nat → List Nat) (k : Nat) (l : List Nat) : hk_ug G k l k = l := if_pos rfl
theorem hk_ug_n {G : Nat → List Nat} {k j : Nat} {l : List Nat} (h : j ≠ k) : hk_ug G k l j = G j := if_neg h
theorem hk_R_term {T T' : hk_T} {nM : Nat} {TY : Nat → Nat} {nH : Nat} {HC : Nat → Nat} {G : Nat → List Nat} {A R Y P A' R' Y' : Nat → Int32} {hd hd' : Nat → List Nat → Prop} {l : List Nat} {ty : Nat}
    (h : hk_R T nM TY nH HC G A R Y P hd) (hT : hk_tb T' A' R') (hk : ∀ s l, s ≠ nM → hd s l → hd' s l) (hn : hd' nM l) (hY : Y' nM = nI ty) (hYo : ∀ t, t ≠ nM → Y' t = Y t) (h32 : nM < 32) :
    hk_R T' (nM + 1) (hk_up TY nM ty) nH HC (hk_ug G nM l) A' R' Y' P hd' := by
  obtain ⟨h1, h2, h3⟩ := h
  refine ⟨hT, fun t ht => ?_, fun q hq => ⟨(h3 q hq).1, fun p hp => ?_⟩⟩
  · by_cases e : t = nM
    · subst e
      rw [hk_up_s, hk_ug_s]; exact ⟨hY, hn⟩
    · rw [hk_up_n e, hk_ug_n e, hYo t e]
      exact ⟨(h2 t (by omega)).1, hk t _ e (h2 t (by omega)).2⟩
  · rw [hk_ug_n (by omega)]
    exact hk _ _ (by omega) ((h3 q hq).2 p hp)
theorem hk_I_term {T T' : hk_T} {nM : Nat} {TY : Nat → Nat} {nH : Nat} {HC : Nat → Nat} {G : Nat → List Nat} {cM cH : Nat} {l : List Nat} {ty : Nat}
    (h : hk_I T nM TY nH HC G cM cH) (ht : hk_ti T') (hn : T.1 ≤ T'.1) (hc : nM < cM) (hty : ty < T'.1) (g : hk_gt T'.1 l) (hv : hk_c l 0 / 65536 = 1 → ty = hk_c l 0 % 256) :
    hk_I T' (nM + 1) (hk_up TY nM ty) nH HC (hk_ug G nM l) cM cH := by
  obtain ⟨h1, h2, h3, h4, h5, h6, h7⟩ := h
  refine ⟨ht, hc, h3, h4, h5, fun t q => ?_, fun q hq => ⟨(h7 q hq).1, fun p hp => ?_⟩⟩
  · by_cases e : t = nM
    · subst e
      rw [hk_up_s, hk_ug_s]; exact ⟨hty, g, hv⟩
    · rw [hk_up_n e, hk_ug_n e]
      obtain ⟨a, b, c⟩ := h6 t (by omega)
      exact ⟨by omega, hk_gt_mono b hn, c⟩
  · rw [hk_ug_n (by omega)]
    exact hk_gt_mono ((h7 q hq).2 p hp) hn
def hk_gh (G : Nat → List Nat) (nH : Nat) (Cn : List Nat) (H : List (List Nat)) : Nat → List Nat :=
  fun j => if j < 32 + nH * 4 then G j else if j = 32 + nH * 4 then Cn else H.getD (j - (32 + nH * 4 + 1)) []
theorem hk_gh_lo {G : Nat → List Nat} {nH j : Nat} {Cn : List Nat} {H : List (List Nat)} (h : j < 32 + nH * 4) : hk_gh G nH Cn H j = G j := if_pos h
theorem hk_gh_0 {G : Nat → List Nat} {nH : Nat} {Cn : List Nat} {H : List (List Nat)} : hk_gh G nH Cn H (32 + nH * 4) = Cn := by
  unfold hk_gh; rw [if_neg (Nat.lt_irrefl _), if_pos rfl]
theorem hk_gh_p {G : Nat → List Nat} {nH i : Nat} {Cn : List Nat} {H : List (List Nat)} : hk_gh G nH Cn H (32 + nH * 4 + 1 + i) = H.getD i [] := by
  unfold hk_gh
  rw [if_neg (by omega), if_neg (by omega), show 32 + nH * 4 + 1 + i - (32 + nH * 4 + 1) = i by omega]
theorem hk_R_thm {T T' : hk_T} {nM : Nat} {TY : Nat → Nat} {nH : Nat} {HC : Nat → Nat} {G : Nat → List Nat} {A R Y P A' R' P' : Nat → Int32} {hd hd' : Nat → List Nat → Prop} {Cn : List Nat} {H : List (List Nat)}
    (h : hk_R T nM TY nH HC G A R Y P hd) (hT : hk_tb T' A' R') (hk : ∀ s l, s < 32 + nH * 4 → hd s l → hd' s l) (hC : hd' (32 + nH * 4) Cn) (hH : hk_hs hd' (32 + nH * 4 + 1) H) (hP : P' nH = nI H.length) (hPo : ∀ h, h ≠ nH → P' h = P h) (h32 : nM ≤ 32) (l3 : ∀ h, h < nH → HC h ≤ 3) :
    hk_R T' nM TY (nH + 1) (hk_up HC nH H.length) (hk_gh G nH Cn H) A' R' Y P' hd' := by
  obtain ⟨h1, h2, h3⟩ := h
  refine ⟨hT, fun t ht => ?_, fun q hq => ?_⟩
  · rw [hk_gh_lo (by omega)]
    exact ⟨(h2 t ht).1, hk t _ (by omega) (h2 t ht).2⟩
  · by_cases e : q = nH
    · subst e
      rw [hk_up_s]
      refine ⟨hP, fun p hp => ?_⟩
      cases p with
      | zero => rw [Nat.add_zero, hk_gh_0]; exact hC
      | succ i =>
        rw [show 32 + q * 4 + (i + 1) = 32 + q * 4 + 1 + i by omega, hk_gh_p]
        exact hH i (by omega)
    · rw [hk_up_n e, hPo q e]
      have w := l3 q (by omega)
      refine ⟨(h3 q (by omega)).1, fun p hp => ?_⟩
      rw [hk_gh_lo (by omega)]
      exact hk _ _ (by omega) ((h3 q (by omega)).2 p hp)
theorem hk_I_thm {T T' : hk_T} {nM : Nat} {TY : Nat → Nat} {nH : Nat} {HC : Nat → Nat} {G : Nat → List Nat} {cM cH : Nat} {Cn : List Nat} {H : List (List Nat)}
    (h : hk_I T nM TY nH HC G cM cH) (ht : hk_ti T') (hn : T.1 ≤ T'.1) (hc : nH < cH) (g : hk_gt T'.1 Cn) (gH : ∀ y, y ∈ H → hk_gt T'.1 y) (l3 : H.length ≤ 3) :
    hk_I T' nM TY (nH + 1) (hk_up HC nH H.length) (hk_gh G nH Cn H) cM cH := by
  obtain ⟨h1, h2, h3, h4, h5, h6, h7⟩ := h
  refine ⟨ht, h2, h3, hc, h5, fun t q => ?_, fun q hq => ?_⟩
  · rw [hk_gh_lo (by omega)]
    obtain ⟨a, b, c⟩ := h6 t q
    exact ⟨by omega, hk_gt_mono b hn, c⟩
  · by_cases e : q = nH
    · subst e
      rw [hk_up_s]
      refine ⟨l3, fun p hp => ?_⟩
      cases p with
      | zero => rw [Nat.add_zero, hk_gh_0]; exact g
      | succ i =>
        rw [show 32 + q * 4 + (i + 1) = 32 + q * 4 + 1 + i by omega, hk_gh_p]
        exact gH _ (hk_ix_mem (by omega))
    · rw [hk_up_n e]
      refine ⟨(h7 q (by omega)).1, fun p hp => ?_⟩
      have := (h7 q (by omega)).1
      rw [hk_gh_lo (by omega)]
      exact hk_gt_mono ((h7 q (by omega)).2 p hp) hn
theorem hk_R_keep {T : hk_T} {nM : Nat} {TY : Nat → Nat} {nH : Nat} {HC : Nat → Nat} {G : Nat → List Nat} {A R Y P A' R' P' : Nat → Int32} {hd hd' : Nat → List Nat → Prop}
    (h : hk_R T nM TY nH HC G A R Y P hd) (hT : hk_tb T A' R') (hk : ∀ s l, s < 32 + nH * 4 → hd s l → hd' s l) (hPo : ∀ h, h ≠ nH → P' h = P h) (h32 : nM ≤ 32) (h3 : ∀ h, h < nH → HC h ≤ 3) :
    hk_R T nM TY nH HC G A' R' Y P' hd' := by
  obtain ⟨h1, h2, h4⟩ := h
  refine ⟨hT, fun t ht => ⟨(h2 t ht).1, hk t _ (by omega) (h2 t ht).2⟩, fun q hq => ?_⟩
  rw [hPo q (by omega)]
  have := h3 q hq
  exact ⟨(h4 q hq).1, fun p hp => hk _ _ (by omega) ((h4 q hq).2 p hp)⟩
/-- the hypotheses of a theorem as a list -/
def hk_H (G : Nat → List Nat) (f n : Nat) : List (List Nat) := (List.range n).map (fun i => G (f + i))
theorem hk_H_len (G : Nat → List Nat) (f n : Nat) : (hk_H G f n).length = n := by simp [hk_H]
theorem hk_H_gd {G : Nat → List Nat} {f n i : Nat} (h : i < n) : (hk_H G f n).getD i [] = G (f + i) := by
  simp [hk_H, List.getD_eq_getElem?_getD, h]
theorem hk_H_mem {G : Nat → List Nat} {f n : Nat} {x : List Nat} (h : x ∈ hk_H G f n) : ∃ i, i < n ∧ x = G (f + i) := by
  obtain ⟨i, hi, e⟩ := List.mem_map.mp h
  exact ⟨i, List.mem_range.mp hi, e.symm⟩
theorem hk_R_hs {T : hk_T} {nM : Nat} {TY : Nat → Nat} {nH : Nat} {HC : Nat → Nat} {G : Nat → List Nat} {A R Y P : Nat → Int32} {hd : Nat → List Nat → Prop} (h : hk_R T nM TY nH HC G A R Y P hd) {a : Nat} (ha : a < nH) :
    hk_hs hd (32 + a * 4 + 1) (hk_H G (32 + a * 4 + 1) (HC a)) ∧ P a = nI (hk_H G (32 + a * 4 + 1) (HC a)).length ∧ hd (32 + a * 4) (G (32 + a * 4)) := by
  obtain ⟨h1, h2, h3⟩ := h
  refine ⟨fun i hi => ?_, ?_, ?_⟩
  · rw [hk_H_len] at hi
    rw [hk_H_gd hi]
    have := (h3 a ha).2 (i + 1) (by omega)
    rw [show 32 + a * 4 + (i + 1) = 32 + a * 4 + 1 + i by omega] at this
    exact this
  · rw [hk_H_len]; exact (h3 a ha).1
  · have := (h3 a ha).2 0 (by omega)
    rw [Nat.add_zero] at this
    exact this
theorem hk_I_hs {T : hk_T} {nM : Nat} {TY : Nat → Nat} {nH : Nat} {HC : Nat → Nat} {G : Nat → List Nat} {cM cH : Nat} (h : hk_I T nM TY nH HC G cM cH) {a : Nat} (ha : a < nH) :
    (hk_H G (32 + a * 4 + 1) (HC a)).length ≤ 3 ∧ (∀ y, y ∈ hk_H G (32 + a * 4 + 1) (HC a) → hk_gt T.1 y) ∧ hk_gt T.1 (G (32 + a * 4)) := by
  obtain ⟨h1, h2, h3, h4, h5, h6, h7⟩ := h
  refine ⟨?_, fun y hy => ?_, ?_⟩
  · rw [hk_H_len]; exact (h7 a ha).1
  · obtain ⟨i, hi, rfl⟩ := hk_H_mem hy
    have := (h7 a ha).2 (i + 1) (by omega)
    rw [show 32 + a * 4 + (i + 1) = 32 + a * 4 + 1 + i by omega] at this
    exact this
  · have := (h7 a ha).2 0 (by omega)
    rw [Nat.add_zero] at this
    exact this
/-- a variable's term is its one node -/
theorem hk_I_var {T : hk_T} {nM : Nat} {TY : Nat → Nat} {nH : Nat} {HC : Nat → Nat} {G : Nat → List Nat} {cM cH : Nat} (h : hk_I T nM TY nH HC G cM cH) {t : Nat} (ht : t < nM) (hk : hk_c (G t) 0 / 65536 = 1) :
    G t = [hk_c (G t) 0] ∧ TY t = hk_c (G t) 0 % 256 ∧ hk_c (G t) 0 < 524288 := by
  obtain ⟨h1, h2, h3, h4, h5, h6, h7⟩ := h
  obtain ⟨a, b, c⟩ := h6 t ht
  exact ⟨hk_leaf b.1 (hk_ar_k hk (by decide) (by decide)), c hk, (hk_gt_c b (hk_gt_pos b)).1⟩
/-! the outcome of a rule: refused, or a conclusion, hypotheses and a table -/
abbrev hk_O : Type := Option (List Nat × List (List Nat) × hk_T)
def hk_good (T : hk_T) : hk_O → Prop
  | none => True
  | some (Cn, H, T') => hk_gt T'.1 Cn ∧ (∀ y, y ∈ H → hk_gt T'.1 y) ∧ H.length ≤ 3 ∧ hk_ti T' ∧ T.1 ≤ T'.1
def xr_K (post : Int32 → St2 → Prop) (T : hk_T) (nM nH : Nat) (xc xd : Int32) (xK xS xY xP : Nat → Int32) : hk_O → Prop
  | none => ∀ A R K S P E : Nat → Int32, hk_tb T A R → hk_fr (fun s => 32 + nH * 4 ≤ s) xK xS K S → (∀ h, h ≠ nH → P h = xP h) → post 0 (nI T.1, xc, nI nM, xd, nI nH, A, R, K, S, xY, P, E)
  | some (Cn, H, T') => ∀ A R K S P E : Nat → Int32, hk_tb T' A R → hk_h K S (32 + nH * 4) Cn → hk_hs (hk_h K S) (32 + nH * 4 + 1) H → hk_fr (fun s => 32 + nH * 4 ≤ s) xK xS K S → P nH = nI H.length → (∀ h, h ≠ nH → P h = xP h) →
      post 1 (nI T'.1, xc, nI nM, xd, nI nH, A, R, K, S, xY, P, E)
/-! normal order -/
def hk_nf : Nat → List Nat → Option (List Nat)
  | 0, l => match hk_lr l l.length 0 with
    | none => some l
    | some _ => none
  | k + 1, l => match hk_lr l l.length 0 with
    | none => some l
    | some r => if (hk_con l r).length ≤ 32 then hk_nf k (hk_con l r) else none
theorem hk_nf_n {l : List Nat} (k : Nat) (h : hk_lr l l.length 0 = none) : hk_nf k l = some l := by
  cases k with
  | zero => rw [hk_nf, h]
  | succ k => rw [hk_nf, h]
theorem hk_nf_0 {l : List Nat} {r : Nat} (h : hk_lr l l.length 0 = some r) : hk_nf 0 l = none := by rw [hk_nf, h]
theorem hk_nf_s {l : List Nat} {k r : Nat} (h : hk_lr l l.length 0 = some r) (hl : (hk_con l r).length ≤ 32) : hk_nf (k + 1) l = hk_nf k (hk_con l r) := by
  rw [hk_nf, h]; exact if_pos hl
theorem hk_nf_z {l : List Nat} {k r : Nat} (h : hk_lr l l.length 0 = some r) (hl : ¬ (hk_con l r).length ≤ 32) : hk_nf (k + 1) l = none := by
  rw [hk_nf, h]; exact if_neg hl
theorem hk_con_gt {n : Nat} {l : List Nat} {r : Nat} (g : hk_gt n l) (h : hk_rx l r) (hl : (hk_con l r).length ≤ 32) : hk_gt n (hk_con l r) :=
  ⟨hk_con_run g.1 g.2.1 h, hl, hk_con_gc g.1 g.2.1 h g.2.2⟩
theorem hk_nf_gt {n : Nat} {r : List Nat} : ∀ {k : Nat} {l : List Nat}, hk_gt n l → hk_nf k l = some r → hk_gt n r
  | k, l, g, h => by
    cases e : hk_lr l l.length 0 with
    | none =>
      rw [hk_nf_n k e] at h; cases h; exact g
    | some j =>
      cases k with
      | zero => rw [hk_nf_0 e] at h; cases h
      | succ k =>
        by_cases z : (hk_con l j).length ≤ 32
        · rw [hk_nf_s e z] at h
          exact hk_nf_gt (hk_con_gt g (hk_lr_in e) z) h
        · rw [hk_nf_z e z] at h; cases h
/-! the conclusions that the rules on equations build -/
theorem hk_ise_sides {n : Nat} {l : List Nat} (g : hk_gt n l) (he : hk_ise l) :
    hk_run 1 (hk_fm (fun q => [hk_c l q]) 3 (hk_e l 3 - 3)) = some 0 ∧ hk_run 1 (hk_fm (fun q => [hk_c l q]) (hk_e l 3) (l.length - hk_e l 3)) = some 0 ∧
      (∀ c, c ∈ hk_fm (fun q => [hk_c l q]) 3 (hk_e l 3 - 3) → hk_gc n c) ∧ (∀ c, c ∈ hk_fm (fun q => [hk_c l q]) (hk_e l 3) (l.length - hk_e l 3) → hk_gc n c) ∧
      hk_c l 2 % 256 < n ∧ hk_c l 2 % 256 < 256 ∧ hk_fm (fun q => [hk_c l q]) (hk_e l 3) (l.length - hk_e l 3) = l.drop (hk_e l 3) ∧ hk_fm (fun q => [hk_c l q]) 3 (hk_e l 3 - 3) = (l.drop 3).take (hk_e l 3 - 3) := by
  obtain ⟨t1, t2, t3, t4, t5, t6, t7⟩ := hk_ise_at g.1 he
  have e1 : hk_fm (fun q => [hk_c l q]) (hk_e l 3) (l.length - hk_e l 3) = l.drop (hk_e l 3) := by
    rw [hk_fm_sub _ _ (by omega), List.take_of_length_le (by rw [List.length_drop]; omega)]
  have e2 : hk_fm (fun q => [hk_c l q]) 3 (hk_e l 3 - 3) = (l.drop 3).take (hk_e l 3 - 3) := hk_fm_sub _ _ (by omega)
  refine ⟨by rw [e2]; exact t6, by rw [e1]; exact t7, fun c hc => ?_, fun c hc => ?_, ?_, Nat.mod_lt _ (by decide), e1, e2⟩
  · rw [e2] at hc
    exact g.2.2 c (List.mem_of_mem_drop (List.mem_of_mem_take hc))
  · rw [e1] at hc
    exact g.2.2 c (List.mem_of_mem_drop hc)
  · exact (hk_gt_c g (show 2 < l.length by omega)).2 he.2.2
def vl_trans (la lb : List Nat) : List Nat :=
  [196608, 196608, 131072 + hk_c la 2 % 256] ++ hk_fm (fun q => [hk_c la q]) 3 (hk_e la 3 - 3) ++ hk_fm (fun q => [hk_c lb q]) (hk_e lb 3) (lb.length - hk_e lb 3)
def wc_trans (la lb : List Nat) (HA HB : List (List Nat)) : Prop :=
  hk_ise la ∧ hk_ise lb ∧ la.drop (hk_e la 3) = (lb.drop 3).take (hk_e lb 3 - 3) ∧ (vl_trans la lb).length ≤ 32 ∧ (hk_un [] (HA ++ HB)).length ≤ 3
theorem vg_trans {n : Nat} {la lb : List Nat} (hn : n ≤ 48) (ga : hk_gt n la) (gb : hk_gt n lb) (ea : hk_ise la) (eb : hk_ise lb) (hl : (vl_trans la lb).length ≤ 32) : hk_gt n (vl_trans la lb) := by
  obtain ⟨a1, a2, a3, a4, a5, a6, a7, a8⟩ := hk_ise_sides ga ea
  obtain ⟨b1, b2, b3, b4, b5, b6, b7, b8⟩ := hk_ise_sides gb eb
  exact ⟨hk_eq_run a6 a1 b2, hl, hk_eq_gc a5 hn a3 b4⟩
def vl_comb (c : Nat) (la lb : List Nat) : List Nat :=
  [196608, 196608, 131072 + c] ++ [196608] ++ hk_fm (fun q => [hk_c la q]) 3 (hk_e la 3 - 3) ++ hk_fm (fun q => [hk_c lb q]) 3 (hk_e lb 3 - 3) ++ [196608] ++
    hk_fm (fun q => [hk_c la q]) (hk_e la 3) (la.length - hk_e la 3) ++ hk_fm (fun q => [hk_c lb q]) (hk_e lb 3) (lb.length - hk_e lb 3)
def wc_comb (T : hk_T) (cc : Nat) (la lb : List Nat) (HA HB : List (List Nat)) : Prop :=
  hk_ise la ∧ hk_ise lb ∧ 3 ≤ hk_c la 2 % 256 ∧ T.2.1 (hk_c la 2 % 256) = hk_c lb 2 % 256 ∧ (vl_comb cc la lb).length ≤ 32 ∧ (hk_un [] (HA ++ HB)).length ≤ 3 ∧ T.1 + hk_nd T cc ≤ 48
theorem vg_comb {n c : Nat} {la lb : List Nat} (hn : n ≤ 48) (hc : c < n) (ga : hk_gt n la) (gb : hk_gt n lb) (ea : hk_ise la) (eb : hk_ise lb) (hl : (vl_comb c la lb).length ≤ 32) : hk_gt n (vl_comb c la lb) := by
  obtain ⟨a1, a2, a3, a4, a5, a6, a7, a8⟩ := hk_ise_sides ga ea
  obtain ⟨b1, b2, b3, b4, b5, b6, b7, b8⟩ := hk_ise_sides gb eb
  have e : vl_comb c la lb = hk_eq c (196608 :: (hk_fm (fun q => [hk_c la q]) 3 (hk_e la 3 - 3) ++ hk_fm (fun q => [hk_c lb q]) 3 (hk_e lb 3 - 3))) (196608 :: (hk_fm (fun q => [hk_c la q]) (hk_e la 3) (la.length - hk_e la 3) ++ hk_fm (fun q => [hk_c lb q]) (hk_e lb 3) (lb.length - hk_e lb 3))) := by
    unfold vl_comb hk_eq
    simp
  have two : ∀ x y : List Nat, hk_run 1 x = some 0 → hk_run 1 y = some 0 → hk_run 1 (196608 :: (x ++ y)) = some 0 := by
    intro x y hx hy
    rw [hk_run_s, hk_ar_3 (by decide)]
    show hk_run 2 (x ++ y) = _
    rw [hk_run_app _ _ _ _ (hk_run1 hx 1)]; exact hy
  have gc : ∀ x y : List Nat, (∀ c, c ∈ x → hk_gc n c) → (∀ c, c ∈ y → hk_gc n c) → ∀ c, c ∈ 196608 :: (x ++ y) → hk_gc n c := by
    intro x y hx hy c hc
    rcases List.mem_cons.mp hc with z | z
    · exact ⟨by omega, fun y => by omega⟩
    · rcases List.mem_append.mp z with z | z
      · exact hx c z
      · exact hy c z
  refine ⟨?_, hl, ?_⟩
  · rw [e]; exact hk_eq_run (by omega) (two _ _ a1 b1) (two _ _ a2 b2)
  · rw [e]; exact hk_eq_gc hc hn (gc _ _ a3 b3) (gc _ _ a4 b4)
def vl_abs (c vc : Nat) (la : List Nat) : List Nat := [196608, 196608, 131072 + c] ++ hk_abl la 3 (hk_e la 3 - 3) vc ++ hk_abl la (hk_e la 3) (la.length - hk_e la 3) vc
def wc_abs (T : hk_T) (la : List Nat) (HA : List (List Nat)) (vc : Nat) : Prop :=
  hk_ise la ∧ vc / 65536 = 1 ∧ (∀ h, h ∈ HA → ¬ vc ∈ h) ∧ la.length + 2 ≤ 32 ∧ ∃ t, (hk_xa T (vc % 256) (hk_c la 2 % 256)).1 = some t
theorem vg_abs {n c vc : Nat} {la : List Nat} (hn : n ≤ 48) (hc : c < n) (hv : vc / 65536 = 1) (ga : hk_gt n la) (ea : hk_ise la) (hl : la.length + 2 ≤ 32) : hk_gt n (vl_abs c vc la) := by
  obtain ⟨a1, a2, a3, a4, a5, a6, a7, a8⟩ := hk_ise_sides ga ea
  obtain ⟨t1, t2, t3, t4, t5, t6, t7⟩ := hk_ise_at ga.1 ea
  refine ⟨hk_eq_run (by omega) (hk_abl_run (by omega) hv a1) (hk_abl_run (by omega) hv a2), ?_, hk_eq_gc hc hn (hk_abl_gc (by omega) ga.2.1 ga.2.2) (hk_abl_gc (by omega) ga.2.1 ga.2.2)⟩
  unfold vl_abs
  rw [List.length_append, List.length_append, hk_abl_len, hk_abl_len]
  show 3 + (hk_e la 3 - 3 + 1) + (la.length - hk_e la 3 + 1) ≤ 32
  omega
def vl_mp (la : List Nat) : List Nat := hk_fm (fun q => [hk_c la q]) (hk_e la 3) (la.length - hk_e la 3)
def wc_mp (la lb : List Nat) (HA HB : List (List Nat)) : Prop := hk_ise la ∧ (la.drop 3).take (hk_e la 3 - 3) = lb ∧ (hk_un [] (HA ++ HB)).length ≤ 3
theorem vg_mp {n : Nat} {la : List Nat} (ga : hk_gt n la) (ea : hk_ise la) : hk_gt n (vl_mp la) := by
  obtain ⟨a1, a2, a3, a4, a5, a6, a7, a8⟩ := hk_ise_sides ga ea
  have := ga.2.1
  exact ⟨a2, by unfold vl_mp; rw [hk_fm_len]; omega, a4⟩
def hk_ne (l : List Nat) : List Nat → Bool := fun t => decide (t ≠ l)
theorem hk_ne_iff (l t : List Nat) : hk_ne l t = true ↔ t ≠ l := decide_eq_true_iff
def vh_ded (la lb : List Nat) (HA HB : List (List Nat)) : List (List Nat) := hk_un [] (HA.filter (hk_ne lb) ++ HB.filter (hk_ne la))
def wc_ded (la lb : List Nat) (HA HB : List (List Nat)) : Prop := (vh_ded la lb HA HB).length ≤ 3 ∧ (hk_eq 0 la lb).length ≤ 32
def vh_inst (HA : List (List Nat)) (vc : Nat) (u : List Nat) : List (List Nat) := HA.map (fun h => hk_sb h vc u)
def wc_inst (la u : List Nat) (HA : List (List Nat)) (vc : Nat) : Prop :=
  (hk_sb la vc u).length ≤ 32 ∧ (∀ h, h ∈ HA → (hk_sb h vc u).length ≤ 32) ∧ (hk_un [] (vh_inst HA vc u)).length ≤ 3
theorem vg_inst {n vc : Nat} {l u : List Nat} (hv : vc / 65536 = 1) (g : hk_gt n l) (gu : hk_gt n u) (hl : (hk_sb l vc u).length ≤ 32) : hk_gt n (hk_sb l vc u) :=
  ⟨hk_sb_run g.1 hv gu.1, hl, hk_sb_gc g.2.2 gu.2.2⟩
end
section
/-! the component's rules -/
section
variable {xn xc xm xd xh : Int32} {xA xR xK xS xY xP xE : Nat → Int32} {T : hk_T} {nM nH cM cH : Nat} {TY HC : Nat → Nat} {G : Nat → List Nat}
theorem xa_iseq {post : Int32 → Prop} {a n : Nat} {l : List Nat} (ha : a < nH) (hH : nH ≤ 16) (h : hk_h xK xS (32 + a * 4) l) (g : hk_gt n l) (k1 : hk_ise l → post 1) (k0 : ¬ hk_ise l → post 0) : wpX_isEquation post (xn, xc, xm, xd, nI nH, xA, xR, xK, xS, xY, xP, xE) (nI a) := by
  have hl := g.2.1
  have l0 := hk_gt_pos g
  refine hk_ok1 (by omega) ha (br_f (by decide) ?_)
  refine xa_part a 0 ?_
  rw [Nat.add_zero]
  have c0 := (hk_gt_c g l0).1
  refine xa_kind (p := 0) h (by omega) l0 (by omega) c0 ?_
  refine pk_eq (hk_c l 0 / 65536) 3 (fun e0 => ?_) (fun e => k0 (fun q => e q.1))
  have a1 := hk_at_s (hk_at0 g.1)
  rw [hk_ar_3 e0] at a1
  have l1 := hk_at_lt a1
  have c1 : hk_c l 1 < 524288 := (hk_gt_c g l1).1
  refine xa_kind (p := 1) h (by omega) l1 (by omega) c1 ?_
  refine pk_eq (hk_c l 1 / 65536) 3 (fun e1 => ?_) (fun e => k0 (fun q => e q.2.1))
  have a2 := hk_at_s a1
  rw [hk_ar_3 e1] at a2
  have l2 := hk_at_lt a2
  have c2 : hk_c l 2 < 524288 := (hk_gt_c g l2).1
  refine xa_kind (p := 2) h (by omega) l2 (by omega) c2 ?_
  exact pk_eq (hk_c l 2 / 65536) 2 (fun e2 => k1 ⟨e0, e1, e2⟩) (fun e => k0 (fun q => e q.2.2))
theorem xa_iseq0 {post : Int32 → Prop} {x : Int32} (h : ∀ j, j < nH → x ≠ nI j) (k : post 0) : wpX_isEquation post (xn, xc, xm, xd, nI nH, xA, xR, xK, xS, xY, xP, xE) x := hk_ok0 h (br_t rfl k)
theorem xa_var {post : Int32 → Prop} {t n : Nat} {l : List Nat} (ht : t < nM) (h32 : nM ≤ 32) (h : hk_h xK xS t l) (g : hk_gt n l) (k1 : hk_c l 0 / 65536 = 1 → post 1) (k0 : ¬ hk_c l 0 / 65536 = 1 → post 0) : wpX_isVariable post (xn, xc, nI nM, xd, xh, xA, xR, xK, xS, xY, xP, xE) (nI t) := by
  have c0 := (hk_gt_c g (hk_gt_pos g)).1
  refine hk_ok1 (by omega) ht (br_f (by decide) ?_)
  refine xa_kind (p := 0) h (by omega) (hk_gt_pos g) (by omega) c0 ?_
  exact pk_eq (hk_c l 0 / 65536) 1 k1 k0
theorem xa_var0 {post : Int32 → Prop} {x : Int32} (h : ∀ j, j < nM → x ≠ nI j) (k : post 0) : wpX_isVariable post (xn, xc, nI nM, xd, xh, xA, xR, xK, xS, xY, xP, xE) x := hk_ok0 h (br_t rfl k)
theorem xa_conc {post : Int32 → St2 → Prop} {a s t : Nat} {l r : List Nat} (hb : hk_tb T xA xR) (ht : hk_ti T) (ha : a < T.1) (hH : nH < 16) (hs : s < 98) (ht' : t < 98) (hso : s ≠ 32 + nH * 4) (hto : t ≠ 32 + nH * 4) (ll : l.length ≤ 32) (lr : r.length ≤ 32) (h1 : hk_h xK xS s l) (h2 : hk_h xK xS t r)
    (k1 : (hk_eq a l r).length ≤ 32 ∧ T.1 + hk_nd T a ≤ 48 → ∀ A R K S : Nat → Int32, hk_tb (hk_ie T a).2 A R → hk_h K S (32 + nH * 4) (hk_eq a l r) → hk_fr (fun s => s = 32 + nH * 4) xK xS K S → post 1 (nI (hk_ie T a).2.1, xc, xm, xd, nI nH, A, R, K, S, xY, xP, xE))
    (k0 : ¬ ((hk_eq a l r).length ≤ 32 ∧ T.1 + hk_nd T a ≤ 48) → ∀ A R K S : Nat → Int32, hk_tb T A R → hk_fr (fun s => s = 32 + nH * 4) xK xS K S → post 0 (nI T.1, xc, xm, xd, nI nH, A, R, K, S, xY, xP, xE)) : wpX_concludeEquation post (nI T.1, xc, xm, xd, nI nH, xA, xR, xK, xS, xY, xP, xE) (nI a) (nI s) (nI t) := by
  have el := hk_eq_len a l r
  unfold wpX_concludeEquation
  dsimp only
  refine xa_part nH 0 ?_
  rw [Nat.add_zero]
  refine xa_start (by omega) (fun K1 S1 q1 f1 => ⟨vp_in_nI hs (by omega), ?_⟩)
  have s1 := hk_fr_h f1 hso h1
  have t1 := hk_fr_h f1 hto h2
  refine xa_all (by omega) hs hso ll q1 s1 (by simp) (hk_sz s1 (by omega)) (fun K2 S2 q2 f2 => ⟨vp_in_nI ht' (by omega), ?_⟩)
  have t2 := hk_fr_h f2 hto t1
  refine xa_all (by omega) ht' hto lr q2 t2 (by rw [List.length_append]; show 3 + l.length < 90000; omega) (hk_sz t2 (by omega)) (fun K3 S3 q3 f3 => ?_)
  have f13 := hk_fr_t (hk_fr_t f1 f2) f3
  have q3 : hk_h K3 S3 (32 + nH * 4) (hk_eq a l r) := q3
  refine ⟨vp_in_nI (by omega) (by omega), ?_⟩
  dsimp only
  rw [hk_sz q3 (by omega)]
  refine pk_lt 32 (hk_eq a l r).length (fun z => k0 (fun y => by omega) xA xR K3 S3 hb f13) (fun z => ?_)
  refine xa_internEq hb ht ha (fun A R hb' => ?_)
  rcases Nat.lt_or_ge 48 (T.1 + hk_nd T a) with w | w
  · rw [hk_xe_nofit ht (by omega)] at hb' ⊢
    exact br_t rfl (k0 (fun y => by omega) A R K3 S3 hb' f13)
  · obtain ⟨e, j, hj⟩ := hk_xe_fit ht ha w
    have hj2 := (hk_ie_ok ht ha).2.2 j hj
    have hj3 := (hk_ie_ok ht ha).1.2.1
    rw [e] at hb' ⊢
    rw [hj]
    exact br_f (hk_o_ne (by omega)) (k1 ⟨z, w⟩ A R K3 S3 hb' q3 f13)
/-! t = r for a term t: REFL, BETA, BETA_NORM -/
def hk_fq (T : hk_T) (a : Nat) (l r : List Nat) : Prop := (hk_eq a l r).length ≤ 32 ∧ T.1 + hk_nd T a ≤ 48
theorem hk_fq_good {T : hk_T} {a : Nat} {l r : List Nat} (ht : hk_ti T) (ha : a < T.1) (gl : hk_gt T.1 l) (rr : hk_run 1 r = some 0) (rc : ∀ c, c ∈ r → hk_gc T.1 c) (h : hk_fq T a l r) : hk_good T (some (hk_eq a l r, [], (hk_ie T a).2)) := by
  obtain ⟨i1, i2, i3⟩ := hk_ie_ok ht ha
  have hn := ht.2.1
  have g : hk_gt T.1 (hk_eq a l r) := ⟨hk_eq_run (by omega) gl.1 rr, h.1, hk_eq_gc ha hn gl.2.2 rc⟩
  exact ⟨hk_gt_mono g i2, fun y hy => absurd hy List.not_mem_nil, by decide, i1, i2⟩
theorem xr_refl0 {post : Int32 → St2 → Prop} {x : Int32} (hb : hk_tb T xA xR) (h : ∀ j, j < nM → x ≠ nI j) (k : xr_K post T nM nH xc xd xK xS xY xP none) : wpX_byRefl post (nI T.1, xc, nI nM, xd, nI nH, xA, xR, xK, xS, xY, xP, xE) x :=
  hk_ok0 h (br_t rfl (k xA xR xK xS xP xE hb hk_fr_r (fun _ _ => rfl)))
theorem xr_refl {post : Int32 → St2 → Prop} {t : Nat} (I : hk_I T nM TY nH HC G cM cH) (R : hk_R T nM TY nH HC G xA xR xY xP (hk_h xK xS)) (hH : nH < cH) (hP : xP nH = nI 0) (ht : t < nM)
    (k1 : hk_fq T (TY t) (G t) (G t) → xr_K post T nM nH xc xd xK xS xY xP (some (hk_eq (TY t) (G t) (G t), [], (hk_ie T (TY t)).2))) (k0 : ¬ hk_fq T (TY t) (G t) (G t) → xr_K post T nM nH xc xd xK xS xY xP none) : wpX_byRefl post (nI T.1, xc, nI nM, xd, nI nH, xA, xR, xK, xS, xY, xP, xE) (nI t) := by
  obtain ⟨i1, i2, i3, i4, i5, i6, i7⟩ := I
  obtain ⟨r1, r2, r3⟩ := R
  obtain ⟨ty, g, -⟩ := i6 t ht
  obtain ⟨eY, eh⟩ := r2 t ht
  refine hk_ok1 (by omega) ht (br_f (by decide) ⟨vp_in_nI (by omega) (by omega), ?_⟩)
  rw [nI_clamp (by omega), eY]
  refine xa_conc r1 i1 ty (by omega) (by omega) (by omega) (by omega) (by omega) g.2.1 g.2.1 eh eh (fun c A R K S hb h f => br_f (by decide) ?_) (fun c A R K S hb f => br_t rfl ?_)
  · exact k1 c A R K S xP xE hb h (fun i hi => absurd hi (Nat.not_lt_zero i)) (hk_fr_w f (fun s e => Nat.le_of_eq e.symm)) hP (fun _ _ => rfl)
  · exact k0 c A R K S xP xE hb (hk_fr_w f (fun s e => Nat.le_of_eq e.symm)) (fun _ _ => rfl)
theorem xr_beta0 {post : Int32 → St2 → Prop} {x : Int32} (hb : hk_tb T xA xR) (h : ∀ j, j < nM → x ≠ nI j) (k : xr_K post T nM nH xc xd xK xS xY xP none) : wpX_byBeta post (nI T.1, xc, nI nM, xd, nI nH, xA, xR, xK, xS, xY, xP, xE) x :=
  hk_ok0 h (br_t rfl (k xA xR xK xS xP xE hb hk_fr_r (fun _ _ => rfl)))
theorem xr_beta {post : Int32 → St2 → Prop} {t : Nat} (I : hk_I T nM TY nH HC G cM cH) (R : hk_R T nM TY nH HC G xA xR xY xP (hk_h xK xS)) (hH : nH < cH) (hP : xP nH = nI 0) (ht : t < nM)
    (k1 : hk_rx (G t) 0 ∧ hk_fq T (TY t) (G t) (hk_con (G t) 0) → xr_K post T nM nH xc xd xK xS xY xP (some (hk_eq (TY t) (G t) (hk_con (G t) 0), [], (hk_ie T (TY t)).2))) (k0 : ¬ (hk_rx (G t) 0 ∧ hk_fq T (TY t) (G t) (hk_con (G t) 0)) → xr_K post T nM nH xc xd xK xS xY xP none) : wpX_byBeta post (nI T.1, xc, nI nM, xd, nI nH, xA, xR, xK, xS, xY, xP, xE) (nI t) := by
  obtain ⟨i1, i2, i3, i4, i5, i6, i7⟩ := I
  obtain ⟨r1, r2, r3⟩ := R
  obtain ⟨ty, g, -⟩ := i6 t ht
  obtain ⟨eY, eh⟩ := r2 t ht
  refine hk_ok1 (by omega) ht (br_f (by decide) ?_)
  refine xa_redex (p := 0) eh (by omega) g (hk_gt_pos g) (fun rx => br_f (by decide) ?_) (fun rx => br_t rfl (k0 (fun c => rx c.1) xA xR xK xS xP xE r1 hk_fr_r (fun _ _ => rfl)))
  refine xa_contract (o := 96) (r := 0) (by omega) (by omega) (by omega) g rx eh (fun K S E h f => ?_)
  have f' := hk_fr_w (V := fun s => 32 + nH * 4 ≤ s) f (fun s e => by have e : s = 96 := e; omega)
  have big := hk_con_len g.1 g.2.1 rx
  refine pk_lt 32 (hk_con (G t) 0).length (fun z => k0 (fun c => ?_) xA xR K S xP E r1 f' (fun _ _ => rfl)) (fun z => ⟨vp_in_nI (by omega) (by omega), ?_⟩) rfl h.1
  · have := c.2.1
    rw [hk_eq_len] at this
    omega
  rw [nI_clamp (by omega), eY]
  refine xa_conc r1 i1 ty (by omega) (s := t) (t := 96) (by omega) (by omega) (by omega) (by omega) g.2.1 z (hk_fr_h f (by omega) eh) h (fun c A R K2 S2 hb h2 f2 => br_f (by decide) ?_) (fun c A R K2 S2 hb f2 => br_t rfl ?_)
  · exact k1 ⟨rx, c⟩ A R K2 S2 xP E hb h2 (fun i hi => absurd hi (Nat.not_lt_zero i)) (hk_fr_t f' (hk_fr_w f2 (fun s e => Nat.le_of_eq e.symm))) hP (fun _ _ => rfl)
  · exact k0 (fun q => c q.2) A R K2 S2 xP E hb (hk_fr_t f' (hk_fr_w f2 (fun s e => Nat.le_of_eq e.symm))) (fun _ _ => rfl)
end
end
section
/-! the component's rules, continued -/
section
variable {xn xc xm xd xh : Int32} {xA xR xK xS xY xP xE : Nat → Int32} {T : hk_T} {nM nH cM cH : Nat} {TY HC : Nat → Nat} {G : Nat → List Nat}
theorem xr_norm_l {post : Int32 → St2 → Prop} {t n : Nat} (K0 S0 : Nat → Int32) :
    ∀ (d st : Nat) (K S E : Nat → Int32) (cur : List Nat), st + d = 64 → hk_gt n cur → hk_h K S 96 cur → hk_fr (fun s => s = 96 ∨ s = 97) K0 S0 K S →
      (∀ r, hk_nf d cur = some r → ∀ K' S' E' : Nat → Int32, hk_h K' S' 96 r → hk_fr (fun s => s = 96 ∨ s = 97) K0 S0 K' S' → wX_byBetaNorm_81 post (nI t) (-1) xn xc xm xd xh xA xR K' S' xY xP E') →
      (hk_nf d cur = none → ∀ K' S' E' : Nat → Int32, hk_fr (fun s => s = 96 ∨ s = 97) K0 S0 K' S' → post 0 (xn, xc, xm, xd, xh, xA, xR, K', S', xY, xP, E')) →
      wX_byBetaNorm_26 post (nI t) (d + 1) (hk_o (hk_lr cur cur.length 0)) (nI st) xn xc xm xd xh xA xR K S xY xP E := by
  intro d
  induction d with
  | zero =>
    intro st K S E cur hst g h fr kS k0
    refine br_t (nI_le (a := 64) (by omega) (by omega)) ?_
    cases e : hk_lr cur cur.length 0 with
    | none => exact kS cur (hk_nf_n 0 e) K S E h fr
    | some r =>
      have w := (hk_lr_in e).1
      have hl := g.2.1
      exact br_f (hk_o_ne (by omega)) (k0 (hk_nf_0 e) K S E fr)
  | succ d ih =>
    intro st K S E cur hst g h fr kS k0
    refine br_f (nI_ge (b := 64) (by omega) (by omega)) ?_
    cases e : hk_lr cur cur.length 0 with
    | none => exact br_t rfl (kS cur (hk_nf_n (d + 1) e) K S E h fr)
    | some r =>
      have rx := hk_lr_in e
      have w := rx.1
      have hl := g.2.1
      refine br_f (hk_o_ne (by omega)) ?_
      refine xa_contract (s := 96) (o := 97) (r := r) (by omega) (by omega) (by omega) g rx h (fun K1 S1 E1 h1 f1 => ?_)
      have fr1 := hk_fr_t fr (hk_fr_w f1 (fun s e => Or.inr e))
      have big := hk_con_len g.1 g.2.1 rx
      refine pk_le (hk_con cur r).length 32 (fun z => ?_) (fun z => k0 (hk_nf_z e (by omega)) K1 S1 E1 fr1) h1.1 rfl
      rw [hk_nf_s e z] at kS k0
      have g1 := hk_con_gt g rx z
      refine xa_copy (s := 97) (o := 96) (by omega) (by omega) (by omega) z h1 (fun K2 S2 h2 f2 => ?_)
      refine xa_lr (s := 96) h2 (by omega) g1 (nm_r (nI_1 _) ?_)
      exact ih (st + 1) K2 S2 E1 (hk_con cur r) (by omega) g1 h2 (hk_fr_t fr1 (hk_fr_w f2 (fun s e => Or.inl e))) kS k0
theorem xr_norm0 {post : Int32 → St2 → Prop} {x : Int32} (hb : hk_tb T xA xR) (h : ∀ j, j < nM → x ≠ nI j) (k : xr_K post T nM nH xc xd xK xS xY xP none) : wpX_byBetaNorm post (nI T.1, xc, nI nM, xd, nI nH, xA, xR, xK, xS, xY, xP, xE) x :=
  hk_ok0 h (br_t rfl (k xA xR xK xS xP xE hb hk_fr_r (fun _ _ => rfl)))
theorem xr_norm {post : Int32 → St2 → Prop} {t : Nat} (I : hk_I T nM TY nH HC G cM cH) (R : hk_R T nM TY nH HC G xA xR xY xP (hk_h xK xS)) (hH : nH < cH) (hP : xP nH = nI 0) (ht : t < nM)
    (k1 : ∀ r, hk_nf 64 (G t) = some r → hk_fq T (TY t) (G t) r → xr_K post T nM nH xc xd xK xS xY xP (some (hk_eq (TY t) (G t) r, [], (hk_ie T (TY t)).2))) (k0 : (∀ r, hk_nf 64 (G t) = some r → ¬ hk_fq T (TY t) (G t) r) → xr_K post T nM nH xc xd xK xS xY xP none) : wpX_byBetaNorm post (nI T.1, xc, nI nM, xd, nI nH, xA, xR, xK, xS, xY, xP, xE) (nI t) := by
  obtain ⟨i1, i2, i3, i4, i5, i6, i7⟩ := I
  obtain ⟨r1, r2, r3⟩ := R
  obtain ⟨ty, g, -⟩ := i6 t ht
  obtain ⟨eY, eh⟩ := r2 t ht
  have W : ∀ s, s = 96 ∨ s = 97 → 32 + nH * 4 ≤ s := fun s e => by omega
  refine hk_ok1 (by omega) ht (br_f (by decide) ?_)
  refine xa_copy (s := t) (o := 96) (by omega) (by omega) (by omega) g.2.1 eh (fun K1 S1 h1 f1 => ?_)
  refine xa_lr (s := 96) h1 (by omega) g ⟨65, ?_⟩
  refine xr_norm_l xK xS 64 0 K1 S1 xE (G t) (by omega) g h1 (hk_fr_w f1 (fun s e => Or.inl e)) (fun r hr K2 S2 E2 h2 f2 => ?_) (fun hn K2 S2 E2 f2 => ?_)
  · have gr := hk_nf_gt g hr
    refine br_t rfl ⟨vp_in_nI (by omega) (by omega), ?_⟩
    rw [nI_clamp (by omega), eY]
    refine xa_conc r1 i1 ty (by omega) (s := t) (t := 96) (by omega) (by omega) (by omega) (by omega) g.2.1 gr.2.1 (hk_fr_h f2 (by omega) eh) h2 (fun c A R K3 S3 hb h3 f3 => br_f (by decide) ?_) (fun c A R K3 S3 hb f3 => br_t rfl ?_)
    · exact k1 r hr c A R K3 S3 xP E2 hb h3 (fun i hi => absurd hi (Nat.not_lt_zero i)) (hk_fr_t (hk_fr_w f2 W) (hk_fr_w f3 (fun s e => Nat.le_of_eq e.symm))) hP (fun _ _ => rfl)
    · refine k0 (fun q hq => ?_) A R K3 S3 xP E2 hb (hk_fr_t (hk_fr_w f2 W) (hk_fr_w f3 (fun s e => Nat.le_of_eq e.symm))) (fun _ _ => rfl)
      rw [hr] at hq
      cases hq
      exact c
  · refine k0 (fun q hq => ?_) xA xR K2 S2 xP E2 r1 (hk_fr_w f2 W) (fun _ _ => rfl)
    rw [hn] at hq; cases hq
theorem xr_assume0 {post : Int32 → St2 → Prop} {x : Int32} (hb : hk_tb T xA xR) (h : ∀ j, j < nM → x ≠ nI j) (k : xr_K post T nM nH xc xd xK xS xY xP none) : wpX_byAssume post (nI T.1, xc, nI nM, xd, nI nH, xA, xR, xK, xS, xY, xP, xE) x :=
  hk_ok0 h (br_t rfl (k xA xR xK xS xP xE hb hk_fr_r (fun _ _ => rfl)))
theorem xr_assume {post : Int32 → St2 → Prop} {t : Nat} (I : hk_I T nM TY nH HC G cM cH) (R : hk_R T nM TY nH HC G xA xR xY xP (hk_h xK xS)) (hH : nH < cH) (hP : xP nH = nI 0) (ht : t < nM)
    (k1 : TY t = 0 → xr_K post T nM nH xc xd xK xS xY xP (some (G t, [G t], T))) (k0 : TY t ≠ 0 → xr_K post T nM nH xc xd xK xS xY xP none) : wpX_byAssume post (nI T.1, xc, nI nM, xd, nI nH, xA, xR, xK, xS, xY, xP, xE) (nI t) := by
  obtain ⟨i1, i2, i3, i4, i5, i6, i7⟩ := I
  obtain ⟨r1, r2, r3⟩ := R
  obtain ⟨ty, g, -⟩ := i6 t ht
  obtain ⟨eY, eh⟩ := r2 t ht
  have hn := i1.2.1
  refine hk_ok1 (by omega) ht (br_f (by decide) ⟨vp_in_nI (by omega) (by omega), ?_⟩)
  rw [nI_clamp (by omega), eY]
  refine pk_eq (TY t) 0 (fun z => ?_) (fun z => k0 z xA xR xK xS xP xE r1 hk_fr_r (fun _ _ => rfl))
  refine xa_part nH 0 ?_
  rw [Nat.add_zero]
  refine xa_copy (by omega) (by omega) (by omega) g.2.1 eh (fun K1 S1 h1 f1 => ?_)
  refine xa_ins (H := []) (n := T.1) (by omega) rfl (by omega) (by omega) g hk_nilm (hk_fr_h f1 (by omega) eh) (fun i hi => absurd hi (Nat.not_lt_zero i)) hP (by decide) (fun _ K2 S2 P2 h2 f2 p1 p2 => ⟨rfl, ?_⟩) (fun h3 => absurd h3 (by show ¬ 3 < 1; decide))
  exact k1 z xA xR K2 S2 P2 xE r1 (hk_fr_h f2 (by omega) h1) h2 (hk_fr_t (hk_fr_w f1 (fun s e => Nat.le_of_eq e.symm)) (hk_fr_w f2 (fun s e => by have e : 32 + nH * 4 + 1 ≤ s ∧ s < 32 + nH * 4 + 1 + 3 := e; omega))) p1 p2
theorem xr_trans {post : Int32 → St2 → Prop} {a b : Nat} {HA HB : List (List Nat)} (I : hk_I T nM TY nH HC G cM cH) (R : hk_R T nM TY nH HC G xA xR xY xP (hk_h xK xS)) (hH : nH < cH) (hP : xP nH = nI 0) (ha : a < nH) (hb : b < nH) (eA : HA = hk_H G (32 + a * 4 + 1) (HC a)) (eB : HB = hk_H G (32 + b * 4 + 1) (HC b))
    (k1 : wc_trans (G (32 + a * 4)) (G (32 + b * 4)) HA HB → xr_K post T nM nH xc xd xK xS xY xP (some (vl_trans (G (32 + a * 4)) (G (32 + b * 4)), hk_un [] (HA ++ HB), T)))
    (k0 : ¬ wc_trans (G (32 + a * 4)) (G (32 + b * 4)) HA HB → xr_K post T nM nH xc xd xK xS xY xP none) : wpX_byTrans post (nI T.1, xc, nI nM, xd, nI nH, xA, xR, xK, xS, xY, xP, xE) (nI a) (nI b) := by
  obtain ⟨sA, pA, cA⟩ := hk_R_hs R ha
  obtain ⟨sB, pB, cB⟩ := hk_R_hs R hb
  obtain ⟨lA, gA, gcA⟩ := hk_I_hs I ha
  obtain ⟨lB, gB, gcB⟩ := hk_I_hs I hb
  rw [← eA] at sA pA lA gA
  rw [← eB] at sB pB lB gB
  obtain ⟨i1, i2, i3, i4, i5, i6, i7⟩ := I
  obtain ⟨r1, r2, r3⟩ := R
  generalize G (32 + a * 4) = la at *
  generalize G (32 + b * 4) = lb at *
  have la32 := gcA.2.1
  have lb32 := gcB.2.1
  have ref : ∀ (c : ¬ wc_trans la lb HA HB), post 0 (nI T.1, xc, nI nM, xd, nI nH, xA, xR, xK, xS, xY, xP, xE) := fun c => k0 c xA xR xK xS xP xE r1 hk_fr_r (fun _ _ => rfl)
  unfold wpX_byTrans
  dsimp only
  refine xa_iseq ha (by omega) cA gcA (fun ea => br_f (by decide) ?_) (fun ea => br_t rfl (ref (fun c => ea c.1)))
  refine xa_iseq hb (by omega) cB gcB (fun eb => br_f (by decide) ?_) (fun eb => br_t rfl (ref (fun c => eb c.2.1)))
  refine xa_part a 0 ?_
  refine xa_part b 0 ?_
  rw [Nat.add_zero, Nat.add_zero]
  obtain ⟨t1, t2, t3, t4, t5, t6, t7⟩ := hk_ise_at gcA.1 ea
  obtain ⟨u1, u2, u3, u4, u5, u6, u7⟩ := hk_ise_at gcB.1 eb
  obtain ⟨-, -, -, -, ty, ty2, dA, -⟩ := hk_ise_sides gcA ea
  have hn := i1.2.1
  refine xa_end (p := 3) cA (by omega) la32 (fun c hc => (gcA.2.2 c hc).1) t1 ?_
  refine xa_end (p := 3) cB (by omega) lb32 (fun c hc => (gcB.2.2 c hc).1) u1 ?_
  refine ⟨vp_in_nI (by omega) (by omega), nm_r (e' := nI (la.length - hk_e la 3)) (by rw [hk_sz cA (by omega), pk_sub (by omega)]) ?_⟩
  have e3 : nI (hk_e lb 3) - 3 = nI (hk_e lb 3 - 3) := pk_sub (b := 3) (by omega)
  rw [e3]
  have dl : (la.drop (hk_e la 3)).take (la.length - hk_e la 3) = la.drop (hk_e la 3) := List.take_of_length_le (by rw [List.length_drop]; omega)
  refine pk_eq (hk_e lb 3 - 3) (la.length - hk_e la 3) (fun en => ?_) (fun en => ref (fun c => ?_))
  rotate_left
  · have := congrArg List.length c.2.2.1
    rw [List.length_drop, List.length_take, List.length_drop] at this
    omega
  refine xa_same cA cB (by omega) (by omega) gcA gcB (f := hk_e la 3) (g := 3) (m := la.length - hk_e la 3) (by omega) (by omega) (fun es => br_f (by decide) ?_) (fun es => br_t rfl (ref (fun c => es ?_)))
  rotate_left
  · rw [dl, ← en]; exact c.2.2.1
  rw [dl, ← en] at es
  refine xa_part nH 0 ?_
  rw [Nat.add_zero]
  refine xa_type (p := 2) cA (by omega) (by omega) (by omega) (hk_gt_c gcA (by omega)).1 ?_
  refine xa_start (by omega) (fun K1 S1 q1 f1 => ?_)
  refine xa_run (p := 3) (by omega) (by omega) (by omega) (by omega) (by omega) la32 q1 (hk_fr_h f1 (by omega) cA) (by simp) (fun K2 S2 q2 f2 => ⟨vp_in_nI (by omega) (by omega), ?_⟩)
  have f12 := hk_fr_t f1 f2
  have cB2 := hk_fr_h f12 (by omega) cB
  try dsimp only
  rw [hk_sz cB2 (by omega)]
  refine xa_run (by omega) (by omega) (by omega) (by omega) (Nat.le_refl _) lb32 q2 cB2 (by rw [List.length_append, hk_fm_len]; show 3 + (hk_e la 3 - 3) < 90000; omega) (fun K3 S3 q3 f3 => ⟨vp_in_nI (by omega) (by omega), ?_⟩)
  have f13 := hk_fr_t f12 f3
  have q3 : hk_h K3 S3 (32 + nH * 4) (vl_trans la lb) := q3
  have F13 := hk_fr_w (V := fun s => 32 + nH * 4 ≤ s) f13 (fun s e => Nat.le_of_eq e.symm)
  try dsimp only
  rw [hk_sz q3 (by omega)]
  have big : (vl_trans la lb).length < 2000 := by
    unfold vl_trans
    rw [List.length_append, List.length_append, hk_fm_len, hk_fm_len]
    show 3 + (hk_e la 3 - 3) + (lb.length - hk_e lb 3) < 2000
    omega
  refine pk_lt 32 (vl_trans la lb).length (fun z => k0 (fun c => by have := c.2.2.2.1; omega) xA xR K3 S3 xP xE r1 F13 (fun _ _ => rfl)) (fun z => ?_)
  have V : ∀ s, 32 + nH * 4 + 1 ≤ s ∧ s < 32 + nH * 4 + 1 + 3 → 32 + nH * 4 ≤ s := fun s e => by omega
  refine xa_add (H := []) (wf := fun _ => true) (n := T.1) (by omega) rfl ha lA gA pA (xa_hs_fr f13 sA (fun i hi => by omega)) (Or.inl ⟨rfl, fun _ => rfl⟩) (fun i hi => absurd hi (Nat.not_lt_zero i)) hP (by decide) hk_nilm (fun h3 K4 S4 P4 h4 f4 p1 p2 => br_f (by decide) ?_) (fun h3 K4 S4 P4 f4 p2 => br_t rfl ?_)
  rotate_left
  · rw [hk_ft] at h3
    refine k0 (fun c => ?_) xA xR K4 S4 P4 xE r1 (hk_fr_t F13 (hk_fr_w f4 V)) p2
    have c5 := c.2.2.2.2
    rw [hk_un_app] at c5
    have := (hk_un_len (ts := HB) (S := hk_un [] HA)).1
    omega
  rw [hk_ft] at h3 h4 p1
  refine xa_add (H := hk_un [] HA) (wf := fun _ => true) (n := T.1) (by omega) rfl hb lB gB ((p2 b (by omega)).trans pB) (xa_hs_fr f4 (xa_hs_fr f13 sB (fun i hi => by omega)) (fun i hi => by omega)) (Or.inl ⟨rfl, fun _ => rfl⟩) h4 p1 h3 (hk_un_gt hk_nilm gA) (fun h5 K5 S5 P5 h6 f5 p3 p4 => br_f (by decide) ?_) (fun h5 K5 S5 P5 f5 p4 => br_t rfl ?_)
  · rw [hk_ft, ← hk_un_app] at h5 h6 p3
    exact k1 ⟨ea, eb, es, z, h5⟩ xA xR K5 S5 P5 xE r1 (hk_fr_h f5 (by omega) (hk_fr_h f4 (by omega) q3)) h6 (hk_fr_t (hk_fr_t F13 (hk_fr_w f4 V)) (hk_fr_w f5 V)) p3 (fun h hne => (p4 h hne).trans (p2 h hne))
  · rw [hk_ft, ← hk_un_app] at h5
    exact k0 (fun c => by have := c.2.2.2.2; omega) xA xR K5 S5 P5 xE r1 (hk_fr_t (hk_fr_t F13 (hk_fr_w f4 V)) (hk_fr_w f5 V)) (fun h hne => (p4 h hne).trans (p2 h hne))
end
end
section
/-! the component's rules, continued: MK_COMB, ABS, EQ_MP, DEDUCT_ANTISYM, INST -/
section
variable {xn xc xm xd xh : Int32} {xA xR xK xS xY xP xE : Nat → Int32} {T : hk_T} {nM nH cM cH : Nat} {TY HC : Nat → Nat} {G : Nat → List Nat}
theorem xr_comb {post : Int32 → St2 → Prop} {a b cc : Nat} {HA HB : List (List Nat)} (I : hk_I T nM TY nH HC G cM cH) (R : hk_R T nM TY nH HC G xA xR xY xP (hk_h xK xS)) (hH : nH < cH) (hP : xP nH = nI 0) (ha : a < nH) (hb : b < nH) (eA : HA = hk_H G (32 + a * 4 + 1) (HC a)) (eB : HB = hk_H G (32 + b * 4 + 1) (HC b)) (hcc : cc = T.2.2 (hk_c (G (32 + a * 4)) 2 % 256))
    (k1 : wc_comb T cc (G (32 + a * 4)) (G (32 + b * 4)) HA HB → xr_K post T nM nH xc xd xK xS xY xP (some (vl_comb cc (G (32 + a * 4)) (G (32 + b * 4)), hk_un [] (HA ++ HB), (hk_ie T cc).2)))
    (k0 : ¬ wc_comb T cc (G (32 + a * 4)) (G (32 + b * 4)) HA HB → xr_K post T nM nH xc xd xK xS xY xP none) : wpX_byMkComb post (nI T.1, xc, nI nM, xd, nI nH, xA, xR, xK, xS, xY, xP, xE) (nI a) (nI b) := by
  obtain ⟨sA, pA, cA⟩ := hk_R_hs R ha
  obtain ⟨sB, pB, cB⟩ := hk_R_hs R hb
  obtain ⟨lA, gA, gcA⟩ := hk_I_hs I ha
  obtain ⟨lB, gB, gcB⟩ := hk_I_hs I hb
  rw [← eA] at sA pA lA gA
  rw [← eB] at sB pB lB gB
  obtain ⟨i1, i2, i3, i4, i5, i6, i7⟩ := I
  obtain ⟨r1, r2, r3⟩ := R
  generalize G (32 + a * 4) = la at *
  generalize G (32 + b * 4) = lb at *
  have la32 := gcA.2.1
  have lb32 := gcB.2.1
  have ref : ∀ (c : ¬ wc_comb T cc la lb HA HB), post 0 (nI T.1, xc, nI nM, xd, nI nH, xA, xR, xK, xS, xY, xP, xE) := fun c => k0 c xA xR xK xS xP xE r1 hk_fr_r (fun _ _ => rfl)
  unfold wpX_byMkComb
  dsimp only
  refine xa_iseq ha (by omega) cA gcA (fun ea => br_f (by decide) ?_) (fun ea => br_t rfl (ref (fun c => ea c.1)))
  refine xa_iseq hb (by omega) cB gcB (fun eb => br_f (by decide) ?_) (fun eb => br_t rfl (ref (fun c => eb c.2.1)))
  refine xa_part a 0 ?_
  refine xa_part b 0 ?_
  rw [Nat.add_zero, Nat.add_zero]
  obtain ⟨t1, t2, t3, t4, t5, t6, t7⟩ := hk_ise_at gcA.1 ea
  obtain ⟨u1, u2, u3, u4, u5, u6, u7⟩ := hk_ise_at gcB.1 eb
  obtain ⟨-, -, -, -, fT, fT2, -, -⟩ := hk_ise_sides gcA ea
  obtain ⟨-, -, -, -, aT, aT2, -, -⟩ := hk_ise_sides gcB eb
  have hn := i1.2.1
  refine xa_type (p := 2) cA (by omega) (by omega) (by omega) (hk_gt_c gcA (by omega)).1 ?_
  refine xa_type (p := 2) cB (by omega) (by omega) (by omega) (hk_gt_c gcB (by omega)).1 ?_
  refine xa_takes r1 i1 fT (by omega) (fun g3 gD => br_f (by decide) ?_) (fun g3 => br_t rfl (ref (fun c => g3 ⟨c.2.2.1, c.2.2.2.1⟩)))
  have cT := (i1.2.2.2.2.2.2 _ g3 fT).2
  rw [← hcc] at cT
  have eR : xR (nI (hk_c la 2 % 256)).toNatClampNeg = nI cc := by rw [nI_clamp (by omega), (r1 _ g3 fT).2, hcc]
  refine xa_end (p := 3) cA (by omega) la32 (fun c hc => (gcA.2.2 c hc).1) t1 ?_
  refine xa_end (p := 3) cB (by omega) lb32 (fun c hc => (gcB.2.2 c hc).1) u1 ?_
  refine xa_part nH 0 ?_
  rw [Nat.add_zero]
  have V48 : vp_in (nI (hk_c la 2 % 256)) 48 := vp_in_nI (by omega) (by omega)
  refine ⟨V48, ?_⟩
  rw [eR]
  refine xa_start (by omega) (fun K1 S1 q1 f1 => ?_)
  refine xa_append (c := 196608) (by omega) q1 (by simp) rfl (fun K2 S2 q2 f2 => ?_)
  have f12 := hk_fr_t f1 f2
  refine xa_run (p := 3) (by omega) (by omega) (by omega) (by omega) (by omega) la32 q2 (hk_fr_h f12 (by omega) cA) (by simp) (fun K3 S3 q3 f3 => ?_)
  have f13 := hk_fr_t f12 f3
  have n3 : ([196608, 196608, 131072 + cc] ++ [196608] ++ hk_fm (fun q => [hk_c la q]) 3 (hk_e la 3 - 3)).length = 4 + (hk_e la 3 - 3) := by
    rw [List.length_append, hk_fm_len]; rfl
  refine xa_run (p := 3) (by omega) (by omega) (by omega) (by omega) (by omega) lb32 q3 (hk_fr_h f13 (by omega) cB) (by omega) (fun K4 S4 q4 f4 => ?_)
  have f14 := hk_fr_t f13 f4
  have n4 := congrArg (· + (hk_e lb 3 - 3)) n3
  refine xa_append (c := 196608) (by omega) q4 (by rw [List.length_append, hk_fm_len]; omega) rfl (fun K5 S5 q5 f5 => ⟨vp_in_nI (by omega) (by omega), ?_⟩)
  have f15 := hk_fr_t f14 f5
  have cA5 := hk_fr_h f15 (by omega) cA
  try dsimp only
  rw [hk_sz cA5 (by omega)]
  refine xa_run (by omega) (by omega) (by omega) (by omega) (Nat.le_refl _) la32 q5 cA5 (by rw [List.length_append, List.length_append, hk_fm_len, n3]; show 4 + (hk_e la 3 - 3) + (hk_e lb 3 - 3) + 1 < 90000; omega) (fun K6 S6 q6 f6 => ⟨vp_in_nI (by omega) (by omega), ?_⟩)
  have f16 := hk_fr_t f15 f6
  have cB6 := hk_fr_h f16 (by omega) cB
  try dsimp only
  rw [hk_sz cB6 (by omega)]
  refine xa_run (by omega) (by omega) (by omega) (by omega) (Nat.le_refl _) lb32 q6 cB6 (by rw [List.length_append, List.length_append, List.length_append, hk_fm_len, hk_fm_len, n3]; show 4 + (hk_e la 3 - 3) + (hk_e lb 3 - 3) + 1 + (la.length - hk_e la 3) < 90000; omega) (fun K7 S7 q7 f7 => ⟨vp_in_nI (by omega) (by omega), ?_⟩)
  have f17 := hk_fr_t f16 f7
  have q7 : hk_h K7 S7 (32 + nH * 4) (vl_comb cc la lb) := q7
  have F17 := hk_fr_w (V := fun s => 32 + nH * 4 ≤ s) f17 (fun s e => Nat.le_of_eq e.symm)
  try dsimp only
  rw [hk_sz q7 (by omega)]
  have big : (vl_comb cc la lb).length < 2000 := by
    unfold vl_comb
    rw [List.length_append, List.length_append, List.length_append, List.length_append, n3, hk_fm_len, hk_fm_len, hk_fm_len]
    show 4 + (hk_e la 3 - 3) + (hk_e lb 3 - 3) + 1 + (la.length - hk_e la 3) + (lb.length - hk_e lb 3) < 2000
    omega
  refine pk_lt 32 (vl_comb cc la lb).length (fun z => k0 (fun c => by have := c.2.2.2.2.1; omega) xA xR K7 S7 xP xE r1 F17 (fun _ _ => rfl)) (fun z => ?_)
  have V : ∀ s, 32 + nH * 4 + 1 ≤ s ∧ s < 32 + nH * 4 + 1 + 3 → 32 + nH * 4 ≤ s := fun s e => by omega
  refine xa_add (H := []) (wf := fun _ => true) (n := T.1) (by omega) rfl ha lA gA pA (xa_hs_fr f17 sA (fun i hi => by omega)) (Or.inl ⟨rfl, fun _ => rfl⟩) (fun i hi => absurd hi (Nat.not_lt_zero i)) hP (by decide) hk_nilm (fun h3 K8 S8 P8 h8 f8 p1 p2 => br_f (by decide) ?_) (fun h3 K8 S8 P8 f8 p2 => br_t rfl ?_)
  rotate_left
  · rw [hk_ft] at h3
    refine k0 (fun c => ?_) xA xR K8 S8 P8 xE r1 (hk_fr_t F17 (hk_fr_w f8 V)) p2
    have c5 := c.2.2.2.2.2.1
    rw [hk_un_app] at c5
    have := (hk_un_len (ts := HB) (S := hk_un [] HA)).1
    omega
  rw [hk_ft] at h3 h8 p1
  refine xa_add (H := hk_un [] HA) (wf := fun _ => true) (n := T.1) (by omega) rfl hb lB gB ((p2 b (by omega)).trans pB) (xa_hs_fr f8 (xa_hs_fr f17 sB (fun i hi => by omega)) (fun i hi => by omega)) (Or.inl ⟨rfl, fun _ => rfl⟩) h8 p1 h3 (hk_un_gt hk_nilm gA) (fun h5 K9 S9 P9 h9 f9 p3 p4 => br_f (by decide) ⟨V48, ?_⟩) (fun h5 K9 S9 P9 f9 p4 => br_t rfl ?_)
  rotate_left
  · rw [hk_ft, ← hk_un_app] at h5
    exact k0 (fun c => by have := c.2.2.2.2.2.1; omega) xA xR K9 S9 P9 xE r1 (hk_fr_t (hk_fr_t F17 (hk_fr_w f8 V)) (hk_fr_w f9 V)) (fun h hne => (p4 h hne).trans (p2 h hne))
  rw [hk_ft, ← hk_un_app] at h5 h9 p3
  have F19 := hk_fr_t (hk_fr_t F17 (hk_fr_w f8 V)) (hk_fr_w f9 V)
  dsimp only
  rw [eR]
  refine xa_internEq r1 i1 cT (fun A R hb' => ?_)
  rcases Nat.lt_or_ge 48 (T.1 + hk_nd T cc) with w | w
  · rw [hk_xe_nofit i1 (by omega)] at hb' ⊢
    exact br_t rfl (k0 (fun c => by have := c.2.2.2.2.2.2; omega) A R K9 S9 P9 xE hb' F19 (fun h hne => (p4 h hne).trans (p2 h hne)))
  · obtain ⟨e, j, hj⟩ := hk_xe_fit i1 cT w
    have hj2 := (hk_ie_ok i1 cT).2.2 j hj
    have hj3 := (hk_ie_ok i1 cT).1.2.1
    rw [e] at hb' ⊢
    rw [hj]
    exact br_f (hk_o_ne (by omega)) (k1 ⟨ea, eb, g3, gD, z, h5, w⟩ A R K9 S9 P9 xE hb' (hk_fr_h f9 (by omega) (hk_fr_h f8 (by omega) q7)) h9 F19 p3 (fun h hne => (p4 h hne).trans (p2 h hne)))
theorem xa_occh_l {post : Int32 → Prop} {v a vc n : Nat} {A : List (List Nat)} (hv : xK (nI v * 32).toNatClampNeg = nI vc) (hvc : vc < 524288) (hv98 : v < 98) (ha : a < 16) (lA : A.length ≤ 3) (gA : ∀ y, y ∈ A → hk_gt n y) (hA : hk_hs (hk_h xK xS) (32 + a * 4 + 1) A) :
    ∀ (d i : Nat), i + d = A.length → ((∃ h, h ∈ A.drop i ∧ vc ∈ h) → post 1) → ((∀ h, h ∈ A.drop i → ¬ vc ∈ h) → post 0) → wX_occursInHyps_10 post (nI v) (nI a) (nI A.length) xn xc xm xd xh xA xR xK xS xY xP xE (d + 1) (nI (i + 1)) := by
  intro d
  induction d with
  | zero =>
    intro i hi k1 k0
    refine br_t (nI_lt (by omega) (by omega)) (k0 (fun h hh => ?_))
    rw [List.drop_of_length_le (by omega)] at hh
    exact absurd hh List.not_mem_nil
  | succ d ih =>
    intro i hi k1 k0
    have il : i < A.length := by omega
    rw [hk_gd_drop il] at k1 k0
    refine br_f (nI_nlt (by omega) (by omega)) ?_
    refine xa_part a (i + 1) ?_
    rw [show 32 + a * 4 + (i + 1) = 32 + a * 4 + 1 + i by omega]
    refine xa_occ hv hvc (hA i il) (by omega) hv98 (gA _ (hk_ix_mem il)) (fun z => br_f (by decide) (k1 ⟨_, List.mem_cons_self, z⟩)) (fun z => br_t rfl (nm_r (nI_1 _) ?_))
    refine ih (i + 1) (by omega) (fun q => k1 ?_) (fun q => k0 (fun h hh => ?_))
    · obtain ⟨h, h1, h2⟩ := q
      exact ⟨h, List.mem_cons_of_mem _ h1, h2⟩
    · rcases List.mem_cons.mp hh with e | e
      · rw [e]; exact z
      · exact q h e
theorem xa_occh {post : Int32 → Prop} {v a vc n : Nat} {A : List (List Nat)} (hv : xK (nI v * 32).toNatClampNeg = nI vc) (hvc : vc < 524288) (hv98 : v < 98) (ha : a < 16) (lA : A.length ≤ 3) (gA : ∀ y, y ∈ A → hk_gt n y) (hPa : xP a = nI A.length) (hA : hk_hs (hk_h xK xS) (32 + a * 4 + 1) A)
    (k1 : (∃ h, h ∈ A ∧ vc ∈ h) → post 1) (k0 : (∀ h, h ∈ A → ¬ vc ∈ h) → post 0) : wpX_occursInHyps post (xn, xc, xm, xd, xh, xA, xR, xK, xS, xY, xP, xE) (nI v) (nI a) :=
  ⟨vp_in_nI ha (by omega), nm_r (e' := nI A.length) (by rw [nI_clamp (by omega)]; exact hPa) ⟨A.length + 1, xa_occh_l hv hvc hv98 ha lA gA hA A.length 0 (by omega) k1 k0⟩⟩
theorem xr_abs {post : Int32 → St2 → Prop} {a v vc : Nat} {HA : List (List Nat)} (I : hk_I T nM TY nH HC G cM cH) (R : hk_R T nM TY nH HC G xA xR xY xP (hk_h xK xS)) (hH : nH < cH) (hP : xP nH = nI 0) (ha : a < nH) (hv : v < nM) (eA : HA = hk_H G (32 + a * 4 + 1) (HC a)) (evc : vc = hk_c (G v) 0)
    (k1 : ∀ t, (hk_xa T (vc % 256) (hk_c (G (32 + a * 4)) 2 % 256)).1 = some t → wc_abs T (G (32 + a * 4)) HA vc → xr_K post T nM nH xc xd xK xS xY xP (some (vl_abs t vc (G (32 + a * 4)), hk_un [] HA, (hk_xa T (vc % 256) (hk_c (G (32 + a * 4)) 2 % 256)).2)))
    (k0 : ¬ wc_abs T (G (32 + a * 4)) HA vc → xr_K post T nM nH xc xd xK xS xY xP none) : wpX_byAbs post (nI T.1, xc, nI nM, xd, nI nH, xA, xR, xK, xS, xY, xP, xE) (nI a) (nI v) := by
  obtain ⟨sA, pA, cA⟩ := hk_R_hs R ha
  obtain ⟨lA, gA, gcA⟩ := hk_I_hs I ha
  have vI := hk_I_var I hv
  rw [← evc] at vI
  rw [← eA] at sA pA lA gA
  obtain ⟨i1, i2, i3, i4, i5, i6, i7⟩ := I
  obtain ⟨r1, r2, r3⟩ := R
  obtain ⟨tyv, gv, -⟩ := i6 v hv
  obtain ⟨eYv, ehv⟩ := r2 v hv
  generalize G (32 + a * 4) = la at *
  have la32 := gcA.2.1
  have hn := i1.2.1
  have ref : ∀ (c : ¬ wc_abs T la HA vc), post 0 (nI T.1, xc, nI nM, xd, nI nH, xA, xR, xK, xS, xY, xP, xE) := fun c => k0 c xA xR xK xS xP xE r1 hk_fr_r (fun _ _ => rfl)
  unfold wpX_byAbs
  dsimp only
  refine xa_iseq ha (by omega) cA gcA (fun ea => br_f (by decide) ?_) (fun ea => br_t rfl (ref (fun c => ea c.1)))
  refine xa_var hv (by omega) ehv gv (fun ek => br_f (by decide) ?_) (fun ek => br_t rfl (ref (fun c => ek (by rw [← evc]; exact c.2.1))))
  rw [← evc] at ek
  obtain ⟨v1, v2, v3⟩ := vI ek
  rw [v1] at ehv
  have hvc : xK (nI v * 32).toNatClampNeg = nI vc := by
    rw [hk_ad0, nI_clamp (by omega)]
    exact ehv.2 0 (Nat.zero_lt_one) (by decide)
  refine xa_occh hvc v3 (by omega) (by omega) lA gA pA sA (fun oc => br_f (by decide) (ref (fun c => ?_))) (fun oc => br_t rfl ?_)
  · obtain ⟨h, h1, h2⟩ := oc
    exact c.2.2.1 h h1 h2
  refine xa_part a 0 ?_
  rw [Nat.add_zero]
  refine ⟨vp_in_nI (by omega) (by omega), ?_⟩
  try dsimp only
  rw [hk_sz cA (by omega)]
  have e2 : (2 : Int32) + nI la.length = nI (2 + la.length) := nI_add 2 la.length
  rw [e2]
  refine pk_lt 32 (2 + la.length) (fun z => ref (fun c => by have := c.2.2.2.1; omega)) (fun z => ?_)
  have V : ∀ s, 32 + nH * 4 + 1 ≤ s ∧ s < 32 + nH * 4 + 1 + 3 → 32 + nH * 4 ≤ s := fun s e => by omega
  have lU := (hk_un_len (ts := HA) (S := [])).2
  have lU : (hk_un [] HA).length ≤ 0 + HA.length := lU
  refine xa_add (H := []) (wf := fun _ => true) (n := T.1) (by omega) rfl ha lA gA pA sA (Or.inl ⟨rfl, fun _ => rfl⟩) (fun i hi => absurd hi (Nat.not_lt_zero i)) hP (by decide) hk_nilm (fun h3 K4 S4 P4 h4 f4 p1 p2 => br_f (by decide) ?_) (fun h3 K4 S4 P4 f4 p2 => ?_)
  rotate_left
  · rw [hk_ft] at h3
    omega
  rw [hk_ft] at h3 h4 p1
  have F4 := hk_fr_w (V := fun s => 32 + nH * 4 ≤ s) f4 V
  obtain ⟨t1, t2, t3, t4, t5, t6, t7⟩ := hk_ise_at gcA.1 ea
  obtain ⟨-, -, -, -, sT, sT2, -, -⟩ := hk_ise_sides gcA ea
  have cA4 := hk_fr_h f4 (by omega) cA
  have ehv4 := hk_fr_h f4 (by omega) ehv
  refine xa_type (p := 2) cA4 (by omega) (by omega) (by omega) (hk_gt_c gcA (by omega)).1 ⟨vp_in_nI (by omega) (by omega), ?_⟩
  dsimp only
  rw [nI_clamp (n := v) (by omega), eYv, v2]
  have dT : vc % 256 < T.1 := by rw [← v2]; exact tyv
  refine xa_internAbs r1 i1 dT sT (fun A R hb' => ?_)
  cases hx : (hk_xa T (vc % 256) (hk_c la 2 % 256)).1 with
  | none =>
    have e0 := hk_xa_none i1 dT sT hx
    rw [e0] at hb' ⊢
    refine br_t rfl (k0 (fun c => ?_) A R K4 S4 P4 xE hb' F4 p2)
    obtain ⟨t, ht⟩ := c.2.2.2.2
    rw [hx] at ht; cases ht
  | some t =>
    have ht48 := hk_xa_in i1 dT sT hx
    refine br_f (hk_o_ne (by omega)) ?_
    refine xa_part nH 0 ?_
    rw [Nat.add_zero]
    refine xa_end (p := 3) cA4 (by omega) la32 (fun c hc => (gcA.2.2 c hc).1) t1 ?_
    refine xa_start (by omega) (fun K5 S5 q5 f5 => ?_)
    have cA5 := hk_fr_h f5 (by omega) cA4
    have ehv5 := hk_fr_h f5 (by omega) ehv4
    refine xa_mark cA5 (by omega) gcA (fun E hE => ?_)
    refine xa_abs (f := 3) (by omega) (by omega) (by omega) (by omega) (by omega) gcA (by omega) (by omega) v3 (eYv.trans (congrArg nI v2)) (fun q h1 h2 => (hE q (by omega)).trans (by rw [hk_ise_dl ea h1])) q5 cA5 ehv5 (by simp) (fun K6 S6 q6 f6 => ⟨vp_in_nI (by omega) (by omega), ?_⟩)
    have cA6 := hk_fr_h f6 (by omega) cA5
    have ehv6 := hk_fr_h f6 (by omega) ehv5
    try dsimp only
    rw [hk_sz cA6 (by omega)]
    refine xa_abs (f := hk_e la 3) (by omega) (by omega) (by omega) (by omega) (by omega) gcA (by omega) (Nat.le_refl _) v3 (eYv.trans (congrArg nI v2)) (fun q h1 h2 => (hE q (by omega)).trans (by rw [hk_ise_dr ea t3 h1])) q6 cA6 ehv6 (by rw [List.length_append, hk_abl_len]; show 3 + (hk_e la 3 - 3 + 1) < 90000; omega) (fun K7 S7 q7 f7 => ?_)
    have f57 := hk_fr_t (hk_fr_t f5 f6) f7
    exact k1 t hx ⟨ea, ek, oc, by omega, t, hx⟩ A R K7 S7 P4 E hb' q7 (xa_hs_fr f57 h4 (fun i hi => by intro e; have e : 32 + nH * 4 + 1 + i = 32 + nH * 4 := e; omega)) (hk_fr_t F4 (hk_fr_w f57 (fun s e => Nat.le_of_eq e.symm))) p1 p2
theorem xr_mp {post : Int32 → St2 → Prop} {a b : Nat} {HA HB : List (List Nat)} (I : hk_I T nM TY nH HC G cM cH) (R : hk_R T nM TY nH HC G xA xR xY xP (hk_h xK xS)) (hH : nH < cH) (hP : xP nH = nI 0) (ha : a < nH) (hb : b < nH) (eA : HA = hk_H G (32 + a * 4 + 1) (HC a)) (eB : HB = hk_H G (32 + b * 4 + 1) (HC b))
    (k1 : wc_mp (G (32 + a * 4)) (G (32 + b * 4)) HA HB → xr_K post T nM nH xc xd xK xS xY xP (some (vl_mp (G (32 + a * 4)), hk_un [] (HA ++ HB), T)))
    (k0 : ¬ wc_mp (G (32 + a * 4)) (G (32 + b * 4)) HA HB → xr_K post T nM nH xc xd xK xS xY xP none) : wpX_byEqMp post (nI T.1, xc, nI nM, xd, nI nH, xA, xR, xK, xS, xY, xP, xE) (nI a) (nI b) := by
  obtain ⟨sA, pA, cA⟩ := hk_R_hs R ha
  obtain ⟨sB, pB, cB⟩ := hk_R_hs R hb
  obtain ⟨lA, gA, gcA⟩ := hk_I_hs I ha
  obtain ⟨lB, gB, gcB⟩ := hk_I_hs I hb
  rw [← eA] at sA pA lA gA
  rw [← eB] at sB pB lB gB
  obtain ⟨i1, i2, i3, i4, i5, i6, i7⟩ := I
  obtain ⟨r1, r2, r3⟩ := R
  generalize G (32 + a * 4) = la at *
  generalize G (32 + b * 4) = lb at *
  have la32 := gcA.2.1
  have lb32 := gcB.2.1
  have ref : ∀ (c : ¬ wc_mp la lb HA HB), post 0 (nI T.1, xc, nI nM, xd, nI nH, xA, xR, xK, xS, xY, xP, xE) := fun c => k0 c xA xR xK xS xP xE r1 hk_fr_r (fun _ _ => rfl)
  unfold wpX_byEqMp
  dsimp only
  refine xa_iseq ha (by omega) cA gcA (fun ea => br_f (by decide) ?_) (fun ea => br_t rfl (ref (fun c => ea c.1)))
  refine hk_ok1 (by omega) hb (br_f (by decide) ?_)
  refine xa_part a 0 ?_
  refine xa_part b 0 ?_
  rw [Nat.add_zero, Nat.add_zero]
  obtain ⟨t1, t2, t3, t4, t5, t6, t7⟩ := hk_ise_at gcA.1 ea
  have hn := i1.2.1
  refine xa_end (p := 3) cA (by omega) la32 (fun c hc => (gcA.2.2 c hc).1) t1 ?_
  have VB : vp_in (nI (32 + b * 4)) 98 := vp_in_nI (by omega) (by omega)
  refine ⟨VB, ?_⟩
  have e3 : nI (hk_e la 3) - 3 = nI (hk_e la 3 - 3) := pk_sub (b := 3) (by omega)
  rw [e3, hk_sz cB (by omega)]
  have dl : (lb.drop 0).take lb.length = lb := by rw [List.drop_zero, List.take_length]
  refine pk_eq (hk_e la 3 - 3) lb.length (fun en => ⟨VB, ?_⟩) (fun en => ref (fun c => ?_))
  rotate_left
  · have := congrArg List.length c.2.1
    rw [List.length_take, List.length_drop] at this
    omega
  refine xa_same cA cB (by omega) (by omega) gcA gcB (f := 3) (g := 0) (m := lb.length) (by omega) (by omega) (fun es => br_f (by decide) ?_) (fun es => br_t rfl (ref (fun c => es ?_)))
  rotate_left
  · rw [dl, ← en]; exact c.2.1
  rw [dl, ← en] at es
  refine xa_part nH 0 ?_
  rw [Nat.add_zero]
  refine ⟨vp_in_nI (by omega) (by omega), nm_r (e' := upd xS (32 + nH * 4) 0) (by rw [nI_clamp (by omega)]) ⟨vp_in_nI (by omega) (by omega), ?_⟩⟩
  have f0 : hk_fr (fun s => s = 32 + nH * 4) xK xS xK (upd xS (32 + nH * 4) 0) := hk_fr_s
  have cA0 := hk_fr_h f0 (by omega) cA
  try dsimp only
  rw [hk_sz cA0 (by omega)]
  refine xa_run (by omega) (by omega) (by omega) (by omega) (Nat.le_refl _) la32 hk_h0 cA0 (by decide) (fun K3 S3 q3 f3 => ?_)
  have f13 := hk_fr_t f0 f3
  have q3 : hk_h K3 S3 (32 + nH * 4) (vl_mp la) := q3
  have F13 := hk_fr_w (V := fun s => 32 + nH * 4 ≤ s) f13 (fun s e => Nat.le_of_eq e.symm)
  have V : ∀ s, 32 + nH * 4 + 1 ≤ s ∧ s < 32 + nH * 4 + 1 + 3 → 32 + nH * 4 ≤ s := fun s e => by omega
  refine xa_add (H := []) (wf := fun _ => true) (n := T.1) (by omega) rfl ha lA gA pA (xa_hs_fr f13 sA (fun i hi => by omega)) (Or.inl ⟨rfl, fun _ => rfl⟩) (fun i hi => absurd hi (Nat.not_lt_zero i)) hP (by decide) hk_nilm (fun h3 K4 S4 P4 h4 f4 p1 p2 => br_f (by decide) ?_) (fun h3 K4 S4 P4 f4 p2 => br_t rfl ?_)
  rotate_left
  · rw [hk_ft] at h3
    refine k0 (fun c => ?_) xA xR K4 S4 P4 xE r1 (hk_fr_t F13 (hk_fr_w f4 V)) p2
    have c5 := c.2.2
    rw [hk_un_app] at c5
    have := (hk_un_len (ts := HB) (S := hk_un [] HA)).1
    omega
  rw [hk_ft] at h3 h4 p1
  refine xa_add (H := hk_un [] HA) (wf := fun _ => true) (n := T.1) (by omega) rfl hb lB gB ((p2 b (by omega)).trans pB) (xa_hs_fr f4 (xa_hs_fr f13 sB (fun i hi => by omega)) (fun i hi => by omega)) (Or.inl ⟨rfl, fun _ => rfl⟩) h4 p1 h3 (hk_un_gt hk_nilm gA) (fun h5 K5 S5 P5 h6 f5 p3 p4 => br_f (by decide) ?_) (fun h5 K5 S5 P5 f5 p4 => br_t rfl ?_)
  · rw [hk_ft, ← hk_un_app] at h5 h6 p3
    exact k1 ⟨ea, es, h5⟩ xA xR K5 S5 P5 xE r1 (hk_fr_h f5 (by omega) (hk_fr_h f4 (by omega) q3)) h6 (hk_fr_t (hk_fr_t F13 (hk_fr_w f4 V)) (hk_fr_w f5 V)) p3 (fun h hne => (p4 h hne).trans (p2 h hne))
  · rw [hk_ft, ← hk_un_app] at h5
    exact k0 (fun c => by have := c.2.2; omega) xA xR K5 S5 P5 xE r1 (hk_fr_t (hk_fr_t F13 (hk_fr_w f4 V)) (hk_fr_w f5 V)) (fun h hne => (p4 h hne).trans (p2 h hne))
theorem xr_ded {post : Int32 → St2 → Prop} {a b : Nat} {HA HB : List (List Nat)} (I : hk_I T nM TY nH HC G cM cH) (R : hk_R T nM TY nH HC G xA xR xY xP (hk_h xK xS)) (hH : nH < cH) (hP : xP nH = nI 0) (ha : a < nH) (hb : b < nH) (eA : HA = hk_H G (32 + a * 4 + 1) (HC a)) (eB : HB = hk_H G (32 + b * 4 + 1) (HC b))
    (k1 : wc_ded (G (32 + a * 4)) (G (32 + b * 4)) HA HB → xr_K post T nM nH xc xd xK xS xY xP (some (hk_eq 0 (G (32 + a * 4)) (G (32 + b * 4)), vh_ded (G (32 + a * 4)) (G (32 + b * 4)) HA HB, T)))
    (k0 : ¬ wc_ded (G (32 + a * 4)) (G (32 + b * 4)) HA HB → xr_K post T nM nH xc xd xK xS xY xP none) : wpX_byDeductAntisym post (nI T.1, xc, nI nM, xd, nI nH, xA, xR, xK, xS, xY, xP, xE) (nI a) (nI b) := by
  obtain ⟨sA, pA, cA⟩ := hk_R_hs R ha
  obtain ⟨sB, pB, cB⟩ := hk_R_hs R hb
  obtain ⟨lA, gA, gcA⟩ := hk_I_hs I ha
  obtain ⟨lB, gB, gcB⟩ := hk_I_hs I hb
  rw [← eA] at sA pA lA gA
  rw [← eB] at sB pB lB gB
  obtain ⟨i1, i2, i3, i4, i5, i6, i7⟩ := I
  obtain ⟨r1, r2, r3⟩ := R
  generalize G (32 + a * 4) = la at *
  generalize G (32 + b * 4) = lb at *
  obtain ⟨b1, b2⟩ := hk_bool i1
  refine hk_ok1 (by omega) ha (br_f (by decide) ?_)
  refine hk_ok1 (by omega) hb (br_f (by decide) ?_)
  refine xa_part a 0 ?_
  refine xa_part b 0 ?_
  rw [Nat.add_zero, Nat.add_zero]
  have V : ∀ s, 32 + nH * 4 + 1 ≤ s ∧ s < 32 + nH * 4 + 1 + 3 → 32 + nH * 4 ≤ s := fun s e => by omega
  refine xa_add (H := []) (wf := hk_ne lb) (n := T.1) (by omega) rfl ha lA gA pA sA (Or.inr ⟨32 + b * 4, lb, rfl, by omega, by omega, gcB, cB, hk_ne_iff lb⟩) (fun i hi => absurd hi (Nat.not_lt_zero i)) hP (by decide) hk_nilm (fun h3 K4 S4 P4 h4 f4 p1 p2 => br_f (by decide) ?_) (fun h3 K4 S4 P4 f4 p2 => br_t rfl ?_)
  rotate_left
  · refine k0 (fun c => ?_) xA xR K4 S4 P4 xE r1 (hk_fr_w f4 V) p2
    have c5 := c.1
    unfold vh_ded at c5
    rw [hk_un_app] at c5
    have := (hk_un_len (ts := HB.filter (hk_ne la)) (S := hk_un [] (HA.filter (hk_ne lb)))).1
    omega
  refine xa_add (H := hk_un [] (HA.filter (hk_ne lb))) (wf := hk_ne la) (n := T.1) (by omega) rfl hb lB gB ((p2 b (by omega)).trans pB) (xa_hs_fr f4 sB (fun i hi => by omega)) (Or.inr ⟨32 + a * 4, la, rfl, by omega, by omega, gcA, hk_fr_h f4 (by omega) cA, hk_ne_iff la⟩) h4 p1 h3 (hk_un_gt hk_nilm (fun y hy => gA y ((List.mem_filter.mp hy).1))) (fun h5 K5 S5 P5 h6 f5 p3 p4 => br_f (by decide) ?_) (fun h5 K5 S5 P5 f5 p4 => br_t rfl ?_)
  rotate_left
  · rw [← hk_un_app] at h5
    refine k0 (fun c => ?_) xA xR K5 S5 P5 xE r1 (hk_fr_t (hk_fr_w f4 V) (hk_fr_w f5 V)) (fun h hne => (p4 h hne).trans (p2 h hne))
    have c5 := c.1
    unfold vh_ded at c5
    omega
  rw [← hk_un_app] at h5 h6 p3
  have F5 := hk_fr_t (hk_fr_w f4 V) (hk_fr_w f5 V)
  have f45 := hk_fr_t f4 f5
  refine xa_conc (a := 0) r1 i1 (by have := i1.1; omega) (by omega) (by omega) (by omega) (by omega) (by omega) gcA.2.1 gcB.2.1 (hk_fr_h f45 (by omega) cA) (hk_fr_h f45 (by omega) cB) (fun c A R K6 S6 hb6 q6 f6 => br_f (by decide) ?_) (fun c A R K6 S6 hb6 f6 => br_t rfl ?_)
  · rw [b2] at hb6 ⊢
    exact k1 ⟨h5, c.1⟩ A R K6 S6 P5 xE hb6 q6 (xa_hs_fr f6 h6 (fun i hi => by intro e; have e : 32 + nH * 4 + 1 + i = 32 + nH * 4 := e; omega)) (hk_fr_t F5 (hk_fr_w f6 (fun s e => Nat.le_of_eq e.symm))) p3 (fun h hne => (p4 h hne).trans (p2 h hne))
  · refine k0 (fun q => c ⟨q.2, by have := i1.2.1; omega⟩) A R K6 S6 P5 xE hb6 (hk_fr_t F5 (hk_fr_w f6 (fun s e => Nat.le_of_eq e.symm))) (fun h hne => (p4 h hne).trans (p2 h hne))
/-- the hypotheses with the term put in -/
theorem xr_inst_l {post : Int32 → St2 → Prop} {a v t vc n : Nat} {A : List (List Nat)} {u : List Nat} (hH : nH < 16) (ha : a < nH) (hv : v < 32) (ht : t < 32) (lA : A.length ≤ 3) (gA : ∀ y, y ∈ A → hk_gt n y) (gu : hk_gt n u) (hvk : vc / 65536 = 1) (hvc : vc < 524288) :
    ∀ (d i : Nat) (K S P : Nat → Int32) (H : List (List Nat)), i + d = A.length → hk_hs (hk_h K S) (32 + a * 4 + 1) A → hk_h K S v [vc] → hk_h K S t u → hk_hs (hk_h K S) (32 + nH * 4 + 1) H → P nH = nI H.length → H.length ≤ 3 → (∀ y, y ∈ H → hk_gt n y) →
      ((∀ h, h ∈ A.drop i → (hk_sb h vc u).length ≤ 32) → (hk_un H (vh_inst (A.drop i) vc u)).length ≤ 3 → ∀ K' S' P' : Nat → Int32, hk_hs (hk_h K' S') (32 + nH * 4 + 1) (hk_un H (vh_inst (A.drop i) vc u)) → hk_fr (fun s => 32 + nH * 4 + 1 ≤ s) K S K' S' → P' nH = nI (hk_un H (vh_inst (A.drop i) vc u)).length → (∀ h, h ≠ nH → P' h = P h) → post 1 (xn, xc, xm, xd, nI nH, xA, xR, K', S', xY, P', xE)) →
      (¬ ((∀ h, h ∈ A.drop i → (hk_sb h vc u).length ≤ 32) ∧ (hk_un H (vh_inst (A.drop i) vc u)).length ≤ 3) → ∀ K' S' P' : Nat → Int32, hk_fr (fun s => 32 + nH * 4 + 1 ≤ s) K S K' S' → (∀ h, h ≠ nH → P' h = P h) → post 0 (xn, xc, xm, xd, nI nH, xA, xR, K', S', xY, P', xE)) →
      wX_byInst_93 post (nI a) (nI v) (nI t) (nI A.length) (d + 1) (nI (i + 1)) xn xc xm xd (nI nH) xA xR K S xY P xE := by
  intro d
  induction d with
  | zero =>
    intro i K S P H hi hA hV hU hh hP hl gH k1 k0
    rw [List.drop_of_length_le (by omega)] at k1
    exact br_t (nI_lt (by omega) (by omega)) (k1 (fun h hh => absurd hh List.not_mem_nil) hl K S P hh hk_fr_r hP (fun _ _ => rfl))
  | succ d ih =>
    intro i K S P H hi hA hV hU hh hP hl gH k1 k0
    have il : i < A.length := by omega
    have gi := gA _ (hk_ix_mem il)
    rw [hk_gd_drop il] at k1 k0
    refine br_f (nI_nlt (by omega) (by omega)) ?_
    refine xa_part a (i + 1) ?_
    rw [show 32 + a * 4 + (i + 1) = 32 + a * 4 + 1 + i by omega]
    refine xa_sub (o := 96) (by omega) (by omega) (by omega) (by omega) (by omega) (by omega) (by omega) gi gu hvc (hA i il) hV hU (fun K1 S1 h1 f1 => ?_)
    have f1' := hk_fr_w (V := fun s => 32 + nH * 4 + 1 ≤ s) f1 (fun s e => by have e : s = 96 := e; omega)
    have big := hk_sb_len gi.2.1 gu.2.1 (vc := vc)
    refine pk_lt 32 (hk_sb (A.getD i []) vc u).length (fun z => k0 (fun c => ?_) K1 S1 P f1' (fun _ _ => rfl)) (fun z => ?_) rfl h1.1
    · have := c.1 _ List.mem_cons_self
      omega
    have gs := vg_inst hvk gi gu z
    refine xa_ins (s := 96) (n := n) hH rfl (by omega) (by omega) gs gH h1 (xa_hs_fr f1 hh (fun j hj => by intro e; have e : 32 + nH * 4 + 1 + j = 96 := e; omega)) hP hl (fun h3 K2 S2 P2 h2 f2 p1 p2 => br_f (by decide) (nm_r (nI_1 _) ?_)) (fun h3 => br_t rfl (k0 (fun c => ?_) K1 S1 P f1' (fun _ _ => rfl)))
    · have f2' := hk_fr_w (V := fun s => 32 + nH * 4 + 1 ≤ s) f2 (fun s e => e.1)
      have f12 := hk_fr_t f1' f2'
      refine ih (i + 1) K2 S2 P2 (hk_ins (hk_sb (A.getD i []) vc u) H) (by omega) (xa_hs_fr f12 hA (fun j hj => by omega)) (hk_fr_h f12 (by omega) hV) (hk_fr_h f12 (by omega) hU) h2 p1 h3 (fun y hy => ?_) (fun c1 c2 K3 S3 P3 h4 f3 q1 q2 => k1 (fun h hh => ?_) c2 K3 S3 P3 h4 (hk_fr_t f12 f3) q1 (fun h hne => (q2 h hne).trans (p2 h hne))) (fun c K3 S3 P3 f3 q2 => k0 (fun q => c ⟨fun h hh => q.1 h (List.mem_cons_of_mem _ hh), q.2⟩) K3 S3 P3 (hk_fr_t f12 f3) (fun h hne => (q2 h hne).trans (p2 h hne)))
      · rcases hk_ins_mem.mp hy with e | e
        · rw [e]; exact gs
        · exact gH y e
      · rcases List.mem_cons.mp hh with e | e
        · rw [e]; exact z
        · exact c1 h e
    · have c2 : (hk_un (hk_ins (hk_sb (A.getD i []) vc u) H) (vh_inst (A.drop (i + 1)) vc u)).length ≤ 3 := c.2
      have := (hk_un_len (ts := vh_inst (A.drop (i + 1)) vc u) (S := hk_ins (hk_sb (A.getD i []) vc u) H)).1
      omega
theorem xr_inst {post : Int32 → St2 → Prop} {a v t vc : Nat} {HA : List (List Nat)} (I : hk_I T nM TY nH HC G cM cH) (R : hk_R T nM TY nH HC G xA xR xY xP (hk_h xK xS)) (hH : nH < cH) (hP : xP nH = nI 0) (ha : a < nH) (hv : v < nM) (ht : t < nM) (eA : HA = hk_H G (32 + a * 4 + 1) (HC a)) (evc : vc = hk_c (G v) 0)
    (k1 : (vc / 65536 = 1 ∧ TY t = vc % 256) ∧ wc_inst (G (32 + a * 4)) (G t) HA vc → xr_K post T nM nH xc xd xK xS xY xP (some (hk_sb (G (32 + a * 4)) vc (G t), hk_un [] (vh_inst HA vc (G t)), T)))
    (k0 : ¬ ((vc / 65536 = 1 ∧ TY t = vc % 256) ∧ wc_inst (G (32 + a * 4)) (G t) HA vc) → xr_K post T nM nH xc xd xK xS xY xP none) : wpX_byInst post (nI T.1, xc, nI nM, xd, nI nH, xA, xR, xK, xS, xY, xP, xE) (nI a) (nI v) (nI t) := by
  obtain ⟨sA, pA, cA⟩ := hk_R_hs R ha
  obtain ⟨lA, gA, gcA⟩ := hk_I_hs I ha
  have vI := hk_I_var I hv
  rw [← evc] at vI
  rw [← eA] at sA pA lA gA
  obtain ⟨i1, i2, i3, i4, i5, i6, i7⟩ := I
  obtain ⟨r1, r2, r3⟩ := R
  obtain ⟨tyv, gv, -⟩ := i6 v hv
  obtain ⟨eYv, ehv⟩ := r2 v hv
  obtain ⟨tyt, gt, -⟩ := i6 t ht
  obtain ⟨eYt, eht⟩ := r2 t ht
  have hn := i1.2.1
  generalize G (32 + a * 4) = la at *
  have ref : ∀ (c : ¬ ((vc / 65536 = 1 ∧ TY t = vc % 256) ∧ wc_inst la (G t) HA vc)), post 0 (nI T.1, xc, nI nM, xd, nI nH, xA, xR, xK, xS, xY, xP, xE) := fun c => k0 c xA xR xK xS xP xE r1 hk_fr_r (fun _ _ => rfl)
  refine hk_ok1 (by omega) ha (br_f (by decide) ?_)
  refine xa_var hv (by omega) ehv gv (fun ek => br_f (by decide) ?_) (fun ek => br_t rfl (ref (fun c => ek (by rw [← evc]; exact c.1.1))))
  rw [← evc] at ek
  obtain ⟨v1, v2, v3⟩ := vI ek
  rw [v1] at ehv
  refine hk_ok1 (by omega) ht (br_f (by decide) ⟨vp_in_nI (by omega) (by omega), vp_in_nI (by omega) (by omega), ?_⟩)
  rw [nI_clamp (n := v) (by omega), nI_clamp (n := t) (by omega), eYv, eYt]
  refine pk_eq (TY v) (TY t) (fun et => ?_) (fun et => ref (fun c => et (by rw [v2, c.1.2])))
  refine xa_part a 0 ?_
  refine xa_part nH 0 ?_
  rw [Nat.add_zero, Nat.add_zero]
  have big := hk_sb_len gcA.2.1 gt.2.1 (vc := vc)
  refine xa_sub (by omega) (by omega) (by omega) (by omega) (by omega) (by omega) (by omega) gcA gt v3 cA ehv eht (fun K1 S1 h1 f1 => ⟨vp_in_nI (by omega) (by omega), ?_⟩)
  have F1 := hk_fr_w (V := fun s => 32 + nH * 4 ≤ s) f1 (fun s e => Nat.le_of_eq e.symm)
  try dsimp only
  rw [hk_sz h1 (by omega)]
  refine pk_le (hk_sb la vc (G t)).length 32 (fun z => ⟨vp_in_nI (by omega) (by omega), nm_r (e' := nI HA.length) (by rw [nI_clamp (by omega)]; exact pA) ⟨HA.length + 1, ?_⟩⟩) (fun z => k0 (fun c => by have := c.2.1; omega) xA xR K1 S1 xP xE r1 F1 (fun _ _ => rfl))
  refine xr_inst_l (by omega) ha (by omega) (by omega) lA gA gt ek v3 HA.length 0 K1 S1 xP [] (by omega) (xa_hs_fr f1 sA (fun i hi => by intro e; have e : 32 + a * 4 + 1 + i = 32 + nH * 4 := e; omega)) (hk_fr_h f1 (by omega) ehv) (hk_fr_h f1 (by omega) eht) (fun i hi => absurd hi (Nat.not_lt_zero i)) hP (by decide) hk_nilm ?_ ?_
  · rw [List.drop_zero]
    intro c1 c2 K2 S2 P2 h2 f2 q1 q2
    exact k1 ⟨⟨ek, by rw [← et, v2]⟩, z, c1, c2⟩ xA xR K2 S2 P2 xE r1 (hk_fr_h f2 (by omega) h1) h2 (hk_fr_t F1 (hk_fr_w f2 (fun s e => by have e : 32 + nH * 4 + 1 ≤ s := e; omega))) q1 q2
  · rw [List.drop_zero]
    intro c K2 S2 P2 f2 q2
    exact k0 (fun q => c ⟨q.2.2.1, q.2.2.2⟩) xA xR K2 S2 P2 xE r1 (hk_fr_t F1 (hk_fr_w f2 (fun s e => by have e : 32 + nH * 4 + 1 ≤ s := e; omega))) q2
end
end
section
/-! refused: a handle that isn't one -/
section
variable {xn xc xm xd xh : Int32} {xA xR xK xS xY xP xE : Nat → Int32} {T : hk_T} {nM nH cM cH : Nat} {TY HC : Nat → Nat} {G : Nat → List Nat}
theorem xz_trans0 {post : Int32 → St2 → Prop} {x y : Int32} (hb : hk_tb T xA xR) (h : ∀ j, j < nH → x ≠ nI j) (k : xr_K post T nM nH xc xd xK xS xY xP none) : wpX_byTrans post (nI T.1, xc, nI nM, xd, nI nH, xA, xR, xK, xS, xY, xP, xE) x y := by
  have K := k xA xR xK xS xP xE hb hk_fr_r (fun _ _ => rfl)
  unfold wpX_byTrans
  dsimp only
  exact xa_iseq0 h (br_t rfl K)
theorem xz_trans1 {post : Int32 → St2 → Prop} {y : Int32} {a n : Nat} {l : List Nat} (hb : hk_tb T xA xR) (hH : nH ≤ 16) (ha : a < nH) (cA : hk_h xK xS (32 + a * 4) l) (gA : hk_gt n l) (h : ∀ j, j < nH → y ≠ nI j) (k : xr_K post T nM nH xc xd xK xS xY xP none) : wpX_byTrans post (nI T.1, xc, nI nM, xd, nI nH, xA, xR, xK, xS, xY, xP, xE) (nI a) y := by
  have K := k xA xR xK xS xP xE hb hk_fr_r (fun _ _ => rfl)
  unfold wpX_byTrans
  dsimp only
  refine xa_iseq ha hH cA gA (fun _ => br_f (by decide) ?_) (fun _ => br_t rfl K)
  exact xa_iseq0 h (br_t rfl K)
theorem xz_comb0 {post : Int32 → St2 → Prop} {x y : Int32} (hb : hk_tb T xA xR) (h : ∀ j, j < nH → x ≠ nI j) (k : xr_K post T nM nH xc xd xK xS xY xP none) : wpX_byMkComb post (nI T.1, xc, nI nM, xd, nI nH, xA, xR, xK, xS, xY, xP, xE) x y := by
  have K := k xA xR xK xS xP xE hb hk_fr_r (fun _ _ => rfl)
  unfold wpX_byMkComb
  dsimp only
  exact xa_iseq0 h (br_t rfl K)
theorem xz_comb1 {post : Int32 → St2 → Prop} {y : Int32} {a n : Nat} {l : List Nat} (hb : hk_tb T xA xR) (hH : nH ≤ 16) (ha : a < nH) (cA : hk_h xK xS (32 + a * 4) l) (gA : hk_gt n l) (h : ∀ j, j < nH → y ≠ nI j) (k : xr_K post T nM nH xc xd xK xS xY xP none) : wpX_byMkComb post (nI T.1, xc, nI nM, xd, nI nH, xA, xR, xK, xS, xY, xP, xE) (nI a) y := by
  have K := k xA xR xK xS xP xE hb hk_fr_r (fun _ _ => rfl)
  unfold wpX_byMkComb
  dsimp only
  refine xa_iseq ha hH cA gA (fun _ => br_f (by decide) ?_) (fun _ => br_t rfl K)
  exact xa_iseq0 h (br_t rfl K)
theorem xz_mp0 {post : Int32 → St2 → Prop} {x y : Int32} (hb : hk_tb T xA xR) (h : ∀ j, j < nH → x ≠ nI j) (k : xr_K post T nM nH xc xd xK xS xY xP none) : wpX_byEqMp post (nI T.1, xc, nI nM, xd, nI nH, xA, xR, xK, xS, xY, xP, xE) x y := by
  have K := k xA xR xK xS xP xE hb hk_fr_r (fun _ _ => rfl)
  unfold wpX_byEqMp
  dsimp only
  exact xa_iseq0 h (br_t rfl K)
theorem xz_mp1 {post : Int32 → St2 → Prop} {y : Int32} {a n : Nat} {l : List Nat} (hb : hk_tb T xA xR) (hH : nH ≤ 16) (ha : a < nH) (cA : hk_h xK xS (32 + a * 4) l) (gA : hk_gt n l) (h : ∀ j, j < nH → y ≠ nI j) (k : xr_K post T nM nH xc xd xK xS xY xP none) : wpX_byEqMp post (nI T.1, xc, nI nM, xd, nI nH, xA, xR, xK, xS, xY, xP, xE) (nI a) y := by
  have K := k xA xR xK xS xP xE hb hk_fr_r (fun _ _ => rfl)
  unfold wpX_byEqMp
  dsimp only
  refine xa_iseq ha hH cA gA (fun _ => br_f (by decide) ?_) (fun _ => br_t rfl K)
  exact hk_ok0 h (br_t rfl K)
theorem xz_ded0 {post : Int32 → St2 → Prop} {x y : Int32} (hb : hk_tb T xA xR) (h : ∀ j, j < nH → x ≠ nI j) (k : xr_K post T nM nH xc xd xK xS xY xP none) : wpX_byDeductAntisym post (nI T.1, xc, nI nM, xd, nI nH, xA, xR, xK, xS, xY, xP, xE) x y := by
  have K := k xA xR xK xS xP xE hb hk_fr_r (fun _ _ => rfl)
  unfold wpX_byDeductAntisym
  dsimp only
  exact hk_ok0 h (br_t rfl K)
theorem xz_ded1 {post : Int32 → St2 → Prop} {y : Int32} {a n : Nat} {l : List Nat} (hb : hk_tb T xA xR) (hH : nH ≤ 16) (ha : a < nH) (cA : hk_h xK xS (32 + a * 4) l) (gA : hk_gt n l) (h : ∀ j, j < nH → y ≠ nI j) (k : xr_K post T nM nH xc xd xK xS xY xP none) : wpX_byDeductAntisym post (nI T.1, xc, nI nM, xd, nI nH, xA, xR, xK, xS, xY, xP, xE) (nI a) y := by
  have K := k xA xR xK xS xP xE hb hk_fr_r (fun _ _ => rfl)
  unfold wpX_byDeductAntisym
  dsimp only
  refine hk_ok1 (by omega) ha (br_f (by decide) ?_)
  exact hk_ok0 h (br_t rfl K)
theorem xz_abs0 {post : Int32 → St2 → Prop} {x y : Int32} (hb : hk_tb T xA xR) (h : ∀ j, j < nH → x ≠ nI j) (k : xr_K post T nM nH xc xd xK xS xY xP none) : wpX_byAbs post (nI T.1, xc, nI nM, xd, nI nH, xA, xR, xK, xS, xY, xP, xE) x y := by
  have K := k xA xR xK xS xP xE hb hk_fr_r (fun _ _ => rfl)
  unfold wpX_byAbs
  dsimp only
  exact xa_iseq0 h (br_t rfl K)
theorem xz_abs1 {post : Int32 → St2 → Prop} {y : Int32} {a n : Nat} {l : List Nat} (hb : hk_tb T xA xR) (hH : nH ≤ 16) (ha : a < nH) (cA : hk_h xK xS (32 + a * 4) l) (gA : hk_gt n l) (h : ∀ j, j < nM → y ≠ nI j) (k : xr_K post T nM nH xc xd xK xS xY xP none) : wpX_byAbs post (nI T.1, xc, nI nM, xd, nI nH, xA, xR, xK, xS, xY, xP, xE) (nI a) y := by
  have K := k xA xR xK xS xP xE hb hk_fr_r (fun _ _ => rfl)
  unfold wpX_byAbs
  dsimp only
  refine xa_iseq ha hH cA gA (fun _ => br_f (by decide) ?_) (fun _ => br_t rfl K)
  exact xa_var0 h (br_t rfl K)
theorem xz_inst0 {post : Int32 → St2 → Prop} {x y z : Int32} (hb : hk_tb T xA xR) (h : ∀ j, j < nH → x ≠ nI j) (k : xr_K post T nM nH xc xd xK xS xY xP none) : wpX_byInst post (nI T.1, xc, nI nM, xd, nI nH, xA, xR, xK, xS, xY, xP, xE) x y z := by
  have K := k xA xR xK xS xP xE hb hk_fr_r (fun _ _ => rfl)
  unfold wpX_byInst
  dsimp only
  exact hk_ok0 h (br_t rfl K)
theorem xz_inst1 {post : Int32 → St2 → Prop} {y z : Int32} {a n : Nat} {l : List Nat} (hb : hk_tb T xA xR) (hH : nH ≤ 16) (ha : a < nH) (cA : hk_h xK xS (32 + a * 4) l) (gA : hk_gt n l) (h : ∀ j, j < nM → y ≠ nI j) (k : xr_K post T nM nH xc xd xK xS xY xP none) : wpX_byInst post (nI T.1, xc, nI nM, xd, nI nH, xA, xR, xK, xS, xY, xP, xE) (nI a) y z := by
  have K := k xA xR xK xS xP xE hb hk_fr_r (fun _ _ => rfl)
  unfold wpX_byInst
  dsimp only
  refine hk_ok1 (by omega) ha (br_f (by decide) ?_)
  exact xa_var0 h (br_t rfl K)
theorem xz_inst2 {post : Int32 → St2 → Prop} {z : Int32} {a v n : Nat} {l : List Nat} (hb : hk_tb T xA xR) (hH : nH ≤ 16) (h32 : nM ≤ 32) (ha : a < nH) (hv : v < nM) (cv : hk_h xK xS v l) (gv : hk_gt n l) (h : ∀ j, j < nM → z ≠ nI j) (k : xr_K post T nM nH xc xd xK xS xY xP none) : wpX_byInst post (nI T.1, xc, nI nM, xd, nI nH, xA, xR, xK, xS, xY, xP, xE) (nI a) (nI v) z := by
  have K := k xA xR xK xS xP xE hb hk_fr_r (fun _ _ => rfl)
  unfold wpX_byInst
  dsimp only
  refine hk_ok1 (by omega) ha (br_f (by decide) ?_)
  refine xa_var hv h32 cv gv (fun _ => br_f (by decide) ?_) (fun _ => br_t rfl K)
  exact hk_ok0 h (br_t rfl K)
end
end
section
/-! rule -/
section
variable {xn xc xm xd xh : Int32} {xA xR xK xS xY xP xE : Nat → Int32} {T : hk_T} {nM nH cM cH : Nat} {TY HC : Nat → Nat} {G : Nat → List Nat}
def zx_K (post : Int32 → St2 → Prop) (T : hk_T) (nM nH : Nat) (xc xd : Int32) (xK xS xY xP : Nat → Int32) : hk_O → Prop
  | none => ∀ A R K S P E : Nat → Int32, hk_tb T A R → hk_fr (fun s => 32 + nH * 4 ≤ s) xK xS K S → (∀ h, h ≠ nH → P h = xP h) → post (-1) (nI T.1, xc, nI nM, xd, nI nH, A, R, K, S, xY, P, E)
  | some (Cn, H, T') => ∀ A R K S P E : Nat → Int32, hk_tb T' A R → hk_h K S (32 + nH * 4) Cn → hk_hs (hk_h K S) (32 + nH * 4 + 1) H → hk_fr (fun s => 32 + nH * 4 ≤ s) xK xS K S → P nH = nI H.length → (∀ h, h ≠ nH → P h = xP h) →
      post (nI nH) (nI T'.1, xc, nI nM, xd, nI (nH + 1), A, R, K, S, xY, P, E)
theorem zx_up {post Q : Int32 → St2 → Prop} {o : hk_O} (hQ : ∀ (r : Int32) (xn xc xm xd xh : Int32) (xA xR xK xS xY xP xE : Nat → Int32), wX_rule_188 post r xn xc xm xd xh xA xR xK xS xY xP xE → Q r (xn, xc, xm, xd, xh, xA, xR, xK, xS, xY, xP, xE)) (k : zx_K post T nM nH xc xd xK xS xY xP o) : xr_K Q T nM nH xc xd xK xS xY (upd xP nH 0) o := by
  cases o with
  | none =>
    intro A R K S P E hb f p
    exact hQ _ _ _ _ _ _ _ _ _ _ _ _ _ (br_t rfl (k A R K S P E hb f (fun h hne => (p h hne).trans (pk_un hne))))
  | some q =>
    obtain ⟨Cn, H, T'⟩ := q
    intro A R K S P E hb h1 h2 f p1 p2
    refine hQ _ _ _ _ _ _ _ _ _ _ _ _ _ (br_f (by decide) (nm_r (nI_1 _) ?_))
    rw [nI_pred]
    exact k A R K S P E hb h1 h2 f p1 (fun h hne => (p2 h hne).trans (pk_un hne))
theorem hk_R_zero (J : hk_I T nM TY nH HC G cM cH) (RX : hk_R T nM TY nH HC G xA xR xY xP (hk_h xK xS)) : hk_R T nM TY nH HC G xA xR xY (upd xP nH 0) (hk_h xK xS) :=
  hk_R_keep RX RX.1 (fun s l _ h => h) (fun h hne => pk_un hne) (by have := J.2.1; have := J.2.2.1; omega) (fun h hh => (J.2.2.2.2.2.2 h hh).1)
theorem vr_combg {la lb : List Nat} {HA HB : List (List Nat)} (J : hk_I T nM TY nH HC G cM cH) (ga : hk_gt T.1 la) (gb : hk_gt T.1 lb) (gU : ∀ y, y ∈ hk_un [] (HA ++ HB) → hk_gt T.1 y) (c : wc_comb T (T.2.2 (hk_c la 2 % 256)) la lb HA HB) : hk_good T (some (vl_comb (T.2.2 (hk_c la 2 % 256)) la lb, hk_un [] (HA ++ HB), (hk_ie T (T.2.2 (hk_c la 2 % 256))).2)) := by
  obtain ⟨-, -, -, -, fT, fT2, -, -⟩ := hk_ise_sides ga c.1
  have cT := (J.1.2.2.2.2.2.2 _ c.2.2.1 fT).2
  obtain ⟨i1, i2, i3⟩ := hk_ie_ok J.1 cT
  exact ⟨hk_gt_mono (vg_comb J.1.2.1 cT ga gb c.1 c.2.1 c.2.2.2.2.1) i2, fun y hy => hk_gt_mono (gU y hy) i2, c.2.2.2.2.2.1, i1, i2⟩
end
end
section
theorem hk_clamp (x : Int32) (lo hi : Nat) (h : lo ≤ hi) (hh : hi < 2 ^ 31) : ∃ c, lo ≤ c ∧ c ≤ hi ∧ ∀ A : Int32 → Prop, A (nI c) → ((nI lo ≤ x → ((x ≤ nI hi → A x) ∧ (¬ x ≤ nI hi → A (nI hi)))) ∧ (¬ nI lo ≤ x → A (nI lo))) := by
  by_cases h1 : nI lo ≤ x
  · by_cases h2 : x ≤ nI hi
    · have h0 : ¬ x < 0 := Int32.not_lt.mpr (Int32.le_trans (nI_pos' (by omega)) h1)
      obtain ⟨j, hj, rfl⟩ := nI_of h0
      rw [nI_leI (by omega) hj] at h1
      have h2' := h2
      rw [nI_leI hj hh] at h2'
      exact ⟨j, h1, h2', fun A a => br_t (nI_le h1 hj) (br_t h2 a)⟩
    · exact ⟨hi, h, Nat.le_refl _, fun A a => br_t h1 (br_f h2 a)⟩
  · exact ⟨lo, Nat.le_refl _, h, fun A a => br_f h1 a⟩
theorem hk_I_types {T T' : hk_T} {nM : Nat} {TY : Nat → Nat} {nH : Nat} {HC : Nat → Nat} {G : Nat → List Nat} {cM cH : Nat} (h : hk_I T nM TY nH HC G cM cH) (ht : hk_ti T') (hn : T.1 ≤ T'.1) : hk_I T' nM TY nH HC G cM cH := by
  obtain ⟨h1, h2, h3, h4, h5, h6, h7⟩ := h
  refine ⟨ht, h2, h3, h4, h5, fun t q => ?_, fun q hq => ⟨(h7 q hq).1, fun p hp => hk_gt_mono ((h7 q hq).2 p hp) hn⟩⟩
  obtain ⟨a, b, c⟩ := h6 t q
  exact ⟨by omega, hk_gt_mono b hn, c⟩
section
variable {xn xc xm xd xh : Int32} {xA xR xK xS xY xP xE : Nat → Int32} {T T' : hk_T} {nM nH cM cH : Nat} {TY HC : Nat → Nat} {G : Nat → List Nat}
theorem xa_keep {post : Int32 → St2 → Prop} {ty : Nat} (h : nM < 32) (k : post (nI nM) (xn, xc, nI (nM + 1), xd, xh, xA, xR, xK, xS, upd xY nM (nI ty), xP, xE)) : wpX_keepTerm post (xn, xc, nI nM, xd, xh, xA, xR, xK, xS, xY, xP, xE) (nI ty) := by
  refine ⟨vp_in_nI h (by omega), nm_r (e' := upd xY nM (nI ty)) (by rw [nI_clamp (by omega)]) (nm_r (nI_1 _) ?_)⟩
  rw [nI_pred]; exact k
theorem xa_isPart {post : Int32 → Prop} {t n : Nat} {x : Int32} (ht : t < nH) (hH : nH ≤ 16) (hP : xP t = nI n) (hn : n ≤ 3) (k0 : (∀ j, j < n + 1 → x ≠ nI j) → post 0) (k1 : ∀ j, j < n + 1 → x = nI j → post 1) : wpX_isPart post (xn, xc, xm, xd, nI nH, xA, xR, xK, xS, xY, xP, xE) (nI t) x := by
  refine hk_ok1 (by omega) ht (br_f (by decide) ?_)
  rcases hk_val x (n + 1) with z | ⟨j, hj, rfl⟩
  · refine br_c (fun _ => k0 z) (fun q => ⟨vp_in_nI (by omega) (by omega), ?_⟩)
    rw [nI_clamp (by omega), hP]
    obtain ⟨j, hj, rfl⟩ := nI_of q
    refine br_t (nI_lt ?_ hj) (k0 z)
    rcases Nat.lt_or_ge n j with w | w
    · exact w
    · exact absurd rfl (z j (by omega))
  · refine br_f (nI_pos (by omega)) ⟨vp_in_nI (by omega) (by omega), ?_⟩
    rw [nI_clamp (by omega), hP]
    exact br_f (nI_nlt (by omega) (by omega)) (k1 j hj rfl)
end
theorem hk_id0 {A B : Prop} {x : Int32} (h : ∀ j, j < 16 → x ≠ nI j) (a : A) : (x < 0 → A) ∧ (¬ x < 0 → ((15 < x → A) ∧ (¬ 15 < x → B))) := by
  refine br_c (fun _ => a) (fun z => ?_)
  obtain ⟨j, hj, rfl⟩ := nI_of z
  refine br_t (nI_lt (a := 15) ?_ hj) a
  rcases Nat.lt_or_ge 15 j with q | q
  · exact q
  · exact absurd rfl (h j (by omega))
theorem hk_id1 {A B : Prop} {j : Nat} (hj : j < 16) (b : B) : (nI j < 0 → A) ∧ (¬ nI j < 0 → ((15 < nI j → A) ∧ (¬ 15 < nI j → B))) :=
  br_f (nI_pos (by omega)) (br_f (nI_nlt (a := 15) (by omega) (by omega)) b)
theorem hk_gt_1 {n c : Nat} (h : hk_ar c = 0) (hc : hk_gc n c) : hk_gt n [c] :=
  ⟨by rw [hk_run_s, h]; rfl, by show 1 ≤ 32; decide, fun x hx => by rw [List.mem_singleton.mp hx]; exact hc⟩
theorem hk_comb_gt {n : Nat} {a b : List Nat} (ga : hk_gt n a) (gb : hk_gt n b) (hl : 1 + a.length + b.length ≤ 32) : hk_gt n ([196608] ++ a ++ b) := by
  refine ⟨?_, by rw [List.length_append, List.length_append]; exact hl, fun c hc => ?_⟩
  · show hk_run 1 (196608 :: (a ++ b)) = some 0
    rw [hk_run_s, hk_ar_3 (by decide)]
    show hk_run 2 (a ++ b) = _
    rw [hk_run_app _ _ _ _ (hk_run1 ga.1 1)]; exact gb.1
  · rcases List.mem_append.mp hc with z | z
    · rcases List.mem_append.mp z with z | z
      · rw [List.mem_singleton.mp z]; exact ⟨by omega, fun y => by omega⟩
      · exact ga.2.2 c z
    · exact gb.2.2 c z
end
section
/-! the meaning of codes. Values: below 16 one of the base types e / 4; 16 .. 31 EQ at e / 4 - 4; 32 .. 47 EQ at e / 4 - 8 with its first argument -/
def sv_ok (e : Nat) : Bool := if e < 12 then decide (e % 4 < 2) else if e < 16 then true else if e < 32 then decide (e % 4 = 0) else if e < 44 then decide (e % 4 < 2) else decide (e < 48)
def sv_ar (x : Nat) : Option (Nat × Nat) :=
  if x / 16 = 2 then (if x / 4 % 4 = 0 then some (3, 2 ^ (x % 4)) else none) else if x / 16 = 0 then some (x / 4 % 4, x % 4) else none
def sv_cb (f x : Nat) : Option Nat :=
  match sv_ar x with
  | none => none
  | some (t, v) =>
    if f / 16 = 1 then (if t = f / 4 % 4 then some (32 + f / 4 % 4 * 4 + v) else none)
    else if f / 16 = 2 then (if t = f / 4 % 4 then some (if f % 4 = v then 1 else 0) else none)
    else if f / 16 = 0 ∧ f / 4 % 4 = 3 then (if t = 0 then some (f % 4 / 2 ^ v % 2) else none) else none
def sv_n (e : Nat) : Nat := if e = 32 then 13 else if e = 33 then 14 else e
def sv_t (e : Nat) : Nat := if e < 16 then e / 4 else if e = 32 ∨ e = 33 then 3 else 9
def sv_all (p : Nat → Bool) : Bool := (List.range 48).all p
theorem sv_all_o {p : Nat → Bool} (h : sv_all p = true) {e : Nat} (he : e < 48) : p e = true := List.all_eq_true.mp h e (List.mem_range.mpr he)
theorem sv_ok_lt {e : Nat} (h : sv_ok e = true) : e < 48 := by
  unfold sv_ok at h
  split at h
  · omega
  · split at h
    · omega
    · split at h
      · omega
      · split at h
        · omega
        · exact of_decide_eq_true h
theorem sv_f1 : sv_all (fun f => sv_all (fun x => !sv_ok f || !sv_ok x || (match sv_cb f x with | none => true | some e => sv_ok e))) = true := by decide +kernel
theorem sv_f2 : sv_all (fun f => sv_all (fun x => !sv_ok f || !sv_ok x || decide (sv_cb (sv_n f) (sv_n x) = sv_cb f x))) = true := by decide +kernel
/-- EQ at a, both arguments: the types agree, and the answer is whether they are the same -/
def sv_q (a x y : Nat) : Bool :=
  match sv_cb (16 + a * 4) x with
  | none => !decide (sv_t x = a)
  | some g => match sv_cb g y with
    | none => !(decide (sv_t x = a) && decide (sv_t y = a))
    | some e => decide (sv_t x = a) && decide (sv_t y = a) && decide (e = if sv_n x = sv_n y then 1 else 0)
theorem sv_f3 : ∀ a, a < 4 → sv_all (fun x => sv_all (fun y => !sv_ok x || !sv_ok y || sv_q a x y)) = true := by
  intro a ha
  have : a = 0 ∨ a = 1 ∨ a = 2 ∨ a = 3 := by omega
  rcases this with rfl | rfl | rfl | rfl <;> decide +kernel
theorem sv_f4 : sv_all (fun f => sv_all (fun x => !sv_ok f || !sv_ok x || !decide (sv_t f = 3) || !decide (sv_t x = 0) || (match sv_cb f x with | none => false | some e => decide (e < 2)))) = true := by decide +kernel
theorem sv_f5 : sv_all (fun e => !sv_ok e || (!decide (sv_t e < 4) || (sv_ok (sv_n e) && decide (sv_n e < 16) && decide (sv_n e / 4 = sv_t e)))) = true := by decide +kernel
theorem sv_or3 {a b c : Bool} (h : (!a || !b || c) = true) (ha : a = true) (hb : b = true) : c = true := by rw [ha, hb] at h; exact h
theorem sv_cb_ok {f x e : Nat} (hf : sv_ok f = true) (hx : sv_ok x = true) (h : sv_cb f x = some e) : sv_ok e = true := by
  have := sv_or3 (sv_all_o (sv_all_o sv_f1 (sv_ok_lt hf)) (sv_ok_lt hx)) hf hx
  rw [h] at this
  exact this
theorem sv_cb_n {f x : Nat} (hf : sv_ok f = true) (hx : sv_ok x = true) : sv_cb (sv_n f) (sv_n x) = sv_cb f x :=
  of_decide_eq_true (sv_or3 (sv_all_o (sv_all_o sv_f2 (sv_ok_lt hf)) (sv_ok_lt hx)) hf hx)
theorem sv_q_o {a x y : Nat} (ha : a < 4) (hx : sv_ok x = true) (hy : sv_ok y = true) : sv_q a x y = true :=
  sv_or3 (sv_all_o (sv_all_o (sv_f3 a ha) (sv_ok_lt hx)) (sv_ok_lt hy)) hx hy
theorem sv_q1 {a x y g e : Nat} (ha : a < 4) (hx : sv_ok x = true) (hy : sv_ok y = true) (h1 : sv_cb (16 + a * 4) x = some g) (h2 : sv_cb g y = some e) : sv_t x = a ∧ sv_t y = a ∧ e = if sv_n x = sv_n y then 1 else 0 := by
  have := sv_q_o ha hx hy
  unfold sv_q at this
  rw [h1] at this
  dsimp only at this
  rw [h2] at this
  dsimp only at this
  rw [Bool.and_eq_true, Bool.and_eq_true] at this
  exact ⟨of_decide_eq_true this.1.1, of_decide_eq_true this.1.2, of_decide_eq_true this.2⟩
theorem sv_q2 {a x y : Nat} (ha : a < 4) (hx : sv_ok x = true) (hy : sv_ok y = true) (tx : sv_t x = a) (ty : sv_t y = a) : ∃ g, sv_cb (16 + a * 4) x = some g ∧ sv_cb g y = some (if sv_n x = sv_n y then 1 else 0) := by
  have := sv_q_o ha hx hy
  unfold sv_q at this
  cases h1 : sv_cb (16 + a * 4) x with
  | none =>
    rw [h1] at this
    dsimp only at this
    rw [decide_eq_true tx] at this; cases this
  | some g =>
    rw [h1] at this
    dsimp only at this
    cases h2 : sv_cb g y with
    | none =>
      rw [h2] at this
      dsimp only at this
      rw [decide_eq_true tx, decide_eq_true ty] at this; cases this
    | some e =>
      refine ⟨g, rfl, ?_⟩
      rw [h2, (sv_q1 ha hx hy h1 h2).2.2]
theorem sv_app1 {f x : Nat} (hf : sv_ok f = true) (hx : sv_ok x = true) (tf : sv_t f = 3) (tx : sv_t x = 0) : ∃ e, sv_cb f x = some e ∧ e < 2 := by
  have := sv_all_o (sv_all_o sv_f4 (sv_ok_lt hf)) (sv_ok_lt hx)
  rw [hf, hx, decide_eq_true tf, decide_eq_true tx] at this
  cases h : sv_cb f x with
  | none => rw [h] at this; cases this
  | some e =>
    rw [h] at this
    exact ⟨e, rfl, of_decide_eq_true this⟩
theorem sv_nok {e : Nat} (h : sv_ok e = true) (ht : sv_t e < 4) : sv_ok (sv_n e) = true ∧ sv_n e < 16 ∧ sv_n e / 4 = sv_t e := by
  have := sv_all_o sv_f5 (sv_ok_lt h)
  rw [h, decide_eq_true ht] at this
  have this : (sv_ok (sv_n e) && decide (sv_n e < 16) && decide (sv_n e / 4 = sv_t e)) = true := this
  rw [Bool.and_eq_true, Bool.and_eq_true] at this
  exact ⟨this.1.1, of_decide_eq_true this.1.2, of_decide_eq_true this.2⟩
theorem sv_t0 {e : Nat} (h : sv_ok e = true) (ht : sv_t e = 0) : e < 2 := by
  unfold sv_t at ht
  split at ht
  · have h4 : e < 4 := by omega
    unfold sv_ok at h
    rw [if_pos (by omega)] at h
    have := of_decide_eq_true h
    omega
  · split at ht <;> omega
theorem sv_b {e : Nat} (h : e < 2) : sv_ok e = true ∧ sv_t e = 0 ∧ sv_n e = e := by
  have : e = 0 ∨ e = 1 := by omega
  rcases this with rfl | rfl <;> decide
theorem sv_n2 {e e' : Nat} (h : sv_n e = sv_n e') (he : e' < 2) : e = e' := by
  rw [(sv_b he).2.2] at h
  unfold sv_n at h
  split at h
  · omega
  · split at h <;> omega
/-! the machine: from the right, with a stack -/
def sv_st (s : Nat → Nat → Nat) (c : Nat) (st : List Nat) : Option (List Nat) :=
  if c / 65536 = 1 then (if c / 256 % 256 < 2 ∧ c % 256 < 4 then some ((c % 256 * 4 + s (c / 256 % 256) (c % 256)) :: st) else none)
  else if c / 65536 = 2 then (if c / 256 % 256 = 0 ∧ c % 256 < 4 then some ((16 + c % 256 * 4) :: st) else none)
  else if c = 196608 then (match st with
    | f :: x :: r => (match sv_cb f x with
      | some e => some (e :: r)
      | none => none)
    | _ => none)
  else none
def sv_ev (s : Nat → Nat → Nat) : List Nat → List Nat → Option (List Nat)
  | [], st => some st
  | c :: l, st => match sv_ev s l st with
    | none => none
    | some q => sv_st s c q
theorem sv_ev_n (s : Nat → Nat → Nat) (st : List Nat) : sv_ev s [] st = some st := rfl
theorem sv_ev_s {s : Nat → Nat → Nat} {l st q : List Nat} (c : Nat) (h : sv_ev s l st = some q) : sv_ev s (c :: l) st = sv_st s c q := by rw [sv_ev, h]
theorem sv_ev_z {s : Nat → Nat → Nat} {l st : List Nat} (c : Nat) (h : sv_ev s l st = none) : sv_ev s (c :: l) st = none := by rw [sv_ev, h]
theorem sv_ev_i {s : Nat → Nat → Nat} {l st r : List Nat} {c : Nat} (h : sv_ev s (c :: l) st = some r) : ∃ q, sv_ev s l st = some q ∧ sv_st s c q = some r := by
  cases e : sv_ev s l st with
  | none => rw [sv_ev_z c e] at h; cases h
  | some q => rw [sv_ev_s c e] at h; exact ⟨q, rfl, h⟩
theorem sv_ev_app {s : Nat → Nat → Nat} {b st q : List Nat} (h : sv_ev s b st = some q) : ∀ a : List Nat, sv_ev s (a ++ b) st = sv_ev s a q
  | [] => h
  | c :: a => by
    have ih := sv_ev_app h a
    rw [List.cons_append]
    cases e : sv_ev s a q with
    | none => rw [sv_ev_z c e, sv_ev_z c (ih.trans e)]
    | some r => rw [sv_ev_s c e, sv_ev_s c (ih.trans e)]
theorem sv_ev_spl {s : Nat → Nat → Nat} {b st r : List Nat} : ∀ {a : List Nat}, sv_ev s (a ++ b) st = some r → ∃ q, sv_ev s b st = some q ∧ sv_ev s a q = some r := by
  intro a h
  cases e : sv_ev s b st with
  | some q => rw [sv_ev_app e] at h; exact ⟨q, rfl, h⟩
  | none =>
    exfalso
    have z : ∀ a : List Nat, sv_ev s (a ++ b) st = none := by
      intro a
      induction a with
      | nil => exact e
      | cons c a ih => exact sv_ev_z c ih
    rw [z] at h; cases h
def sv_va (s : Nat → Nat → Nat) : Prop := ∀ i t, i < 2 → t < 4 → s i t < 4 ∧ sv_ok (t * 4 + s i t) = true
theorem sv_st_1 {s : Nat → Nat → Nat} {c : Nat} {st : List Nat} (h : c / 65536 = 1) : sv_st s c st = if c / 256 % 256 < 2 ∧ c % 256 < 4 then some ((c % 256 * 4 + s (c / 256 % 256) (c % 256)) :: st) else none := if_pos h
theorem sv_st_2 {s : Nat → Nat → Nat} {c : Nat} {st : List Nat} (h : c / 65536 = 2) : sv_st s c st = if c / 256 % 256 = 0 ∧ c % 256 < 4 then some ((16 + c % 256 * 4) :: st) else none := by
  unfold sv_st; rw [if_neg (by omega), if_pos h]
theorem sv_st_3 {s : Nat → Nat → Nat} {f x e : Nat} {st : List Nat} (h : sv_cb f x = some e) : sv_st s 196608 (f :: x :: st) = some (e :: st) := by
  unfold sv_st; rw [if_neg (by decide), if_neg (by decide), if_pos rfl]; dsimp only; rw [h]
/-- what a step does -/
theorem sv_st_i {s : Nat → Nat → Nat} {c : Nat} {st r : List Nat} (h : sv_st s c st = some r) :
    (c / 65536 = 1 ∧ c / 256 % 256 < 2 ∧ c % 256 < 4 ∧ r = (c % 256 * 4 + s (c / 256 % 256) (c % 256)) :: st) ∨ (c / 65536 = 2 ∧ c / 256 % 256 = 0 ∧ c % 256 < 4 ∧ r = (16 + c % 256 * 4) :: st) ∨
      (c = 196608 ∧ ∃ f x w e, st = f :: x :: w ∧ sv_cb f x = some e ∧ r = e :: w) := by
  unfold sv_st at h
  split at h
  · rename_i h1
    split at h
    · rename_i h2
      cases h
      exact Or.inl ⟨h1, h2.1, h2.2, rfl⟩
    · cases h
  · split at h
    · rename_i h1
      split at h
      · rename_i h2
        cases h
        exact Or.inr (Or.inl ⟨h1, h2.1, h2.2, rfl⟩)
      · cases h
    · split at h
      · rename_i h1
        split at h
        · rename_i f x w
          split at h
          · rename_i e he
            cases h
            exact Or.inr (Or.inr ⟨h1, f, x, w, e, rfl, he, rfl⟩)
          · cases h
        · cases h
      · cases h
def sv_oks (st : List Nat) : Prop := ∀ e, e ∈ st → sv_ok e = true
theorem sv_eq_ok : ∀ a, a < 4 → sv_ok (16 + a * 4) = true := by
  intro a ha
  have : a = 0 ∨ a = 1 ∨ a = 2 ∨ a = 3 := by omega
  rcases this with rfl | rfl | rfl | rfl <;> decide
theorem sv_st_ok {s : Nat → Nat → Nat} {c : Nat} {st r : List Nat} (hs : sv_va s) (h : sv_st s c st = some r) (ho : sv_oks st) : sv_oks r := by
  rcases sv_st_i h with ⟨h1, h2, h3, rfl⟩ | ⟨h1, h2, h3, rfl⟩ | ⟨h1, f, x, w, e, rfl, he, rfl⟩
  · intro y hy
    rcases List.mem_cons.mp hy with z | z
    · rw [z]; exact (hs _ _ h2 h3).2
    · exact ho y z
  · intro y hy
    rcases List.mem_cons.mp hy with z | z
    · rw [z]; exact sv_eq_ok _ h3
    · exact ho y z
  · intro y hy
    rcases List.mem_cons.mp hy with z | z
    · rw [z]; exact sv_cb_ok (ho f List.mem_cons_self) (ho x (List.mem_cons_of_mem _ List.mem_cons_self)) he
    · exact ho y (List.mem_cons_of_mem _ (List.mem_cons_of_mem _ z))
/-- n complete terms push n values, whatever lies below -/
theorem sv_run {s : Nat → Nat → Nat} (hs : sv_va s) : ∀ {l : List Nat} {n : Nat} {st r : List Nat}, hk_run n l = some 0 → sv_ev s l st = some r →
    ∃ vs, vs.length = n ∧ r = vs ++ st ∧ sv_oks vs ∧ ∀ st2, sv_ev s l st2 = some (vs ++ st2)
  | [], n, st, r, h, e => by
    rw [hk_run_nil] at h
    have n0 : n = 0 := Option.some.inj h
    rw [sv_ev_n] at e
    cases e
    exact ⟨[], n0.symm, rfl, fun y hy => absurd hy List.not_mem_nil, fun st2 => rfl⟩
  | c :: l, 0, st, r, h, e => by rw [hk_run_0] at h; cases h
  | c :: l, n + 1, st, r, h, e => by
    rw [hk_run_s] at h
    obtain ⟨q, e1, e2⟩ := sv_ev_i e
    obtain ⟨vs, v1, v2, v3, v4⟩ := sv_run hs h e1
    subst v2
    rcases sv_st_i e2 with ⟨h1, h2, h3, rfl⟩ | ⟨h1, h2, h3, rfl⟩ | ⟨h1, f, x, w, y, hw, he, rfl⟩
    · rw [hk_ar_k h1 (by decide) (by decide)] at v1
      refine ⟨(c % 256 * 4 + s (c / 256 % 256) (c % 256)) :: vs, by rw [List.length_cons]; omega, rfl, ?_, fun st2 => ?_⟩
      · intro y hy
        rcases List.mem_cons.mp hy with z | z
        · rw [z]; exact (hs _ _ h2 h3).2
        · exact v3 y z
      · rw [sv_ev_s c (v4 st2), sv_st_1 h1, if_pos ⟨h2, h3⟩]; rfl
    · rw [hk_ar_k h1 (by decide) (by decide)] at v1
      refine ⟨(16 + c % 256 * 4) :: vs, by rw [List.length_cons]; omega, rfl, ?_, fun st2 => ?_⟩
      · intro y hy
        rcases List.mem_cons.mp hy with z | z
        · rw [z]; exact sv_eq_ok _ h3
        · exact v3 y z
      · rw [sv_ev_s c (v4 st2), sv_st_2 h1, if_pos ⟨h2, h3⟩]; rfl
    · subst h1
      rw [hk_ar_3 (by decide)] at v1
      match vs, v1, hw, v3, v4 with
      | f' :: x' :: w', v1, hw, v3, v4 =>
        have a1 := List.cons.inj hw
        have a2 := List.cons.inj a1.2
        have e1 : f' = f := a1.1
        have e2 : x' = x := a2.1
        have e3 : w' ++ st = w := a2.2
        subst e1 e2 e3
        refine ⟨y :: w', by rw [List.length_cons] at v1 ⊢; rw [List.length_cons] at v1; omega, rfl, ?_, fun st2 => ?_⟩
        · intro z hz
          rcases List.mem_cons.mp hz with e | e
          · rw [e]; exact sv_cb_ok (v3 f' List.mem_cons_self) (v3 x' (List.mem_cons_of_mem _ List.mem_cons_self)) he
          · exact v3 z (List.mem_cons_of_mem _ (List.mem_cons_of_mem _ e))
        · rw [sv_ev_s _ (v4 st2)]; exact sv_st_3 he
def sv_v (s : Nat → Nat → Nat) (l : List Nat) (e : Nat) : Prop := ∀ st, sv_ev s l st = some (e :: st)
theorem sv_v_u {s : Nat → Nat → Nat} {l : List Nat} {e e' : Nat} (h : sv_v s l e) (h' : sv_v s l e') : e = e' := by
  have a := h []
  rw [h' []] at a
  exact ((List.cons.inj (Option.some.inj a)).1).symm
theorem sv_v_of {s : Nat → Nat → Nat} (hs : sv_va s) {l st r : List Nat} (h : hk_run 1 l = some 0) (e : sv_ev s l st = some r) : ∃ v, r = v :: st ∧ sv_ok v = true ∧ sv_v s l v := by
  obtain ⟨vs, v1, v2, v3, v4⟩ := sv_run hs h e
  match vs, v1, v2, v3, v4 with
  | [v], v1, v2, v3, v4 => exact ⟨v, v2, v3 v List.mem_cons_self, v4⟩
theorem sv_v_ok {s : Nat → Nat → Nat} (hs : sv_va s) {l : List Nat} {e : Nat} (h : hk_run 1 l = some 0) (he : sv_v s l e) : sv_ok e = true := by
  obtain ⟨v, v1, v2, v3⟩ := sv_v_of hs h (he [])
  rw [sv_v_u he v3]; exact v2
end
section
/-! equations and their meaning -/
theorem sv_c2 {a : Nat} (ha : a < 4) : (131072 + a) / 65536 = 2 ∧ (131072 + a) / 256 % 256 = 0 ∧ (131072 + a) % 256 = a := by omega
/-- the value of s = t -/
theorem sv_mkeq {s : Nat → Nat → Nat} (hs : sv_va s) {a x y : Nat} {l r : List Nat} (ha : a < 4) (hx : sv_ok x = true) (hy : sv_ok y = true) (tx : sv_t x = a) (ty : sv_t y = a) (vl : sv_v s l x) (vr : sv_v s r y) : sv_v s (hk_eq a l r) (if sv_n x = sv_n y then 1 else 0) := by
  intro st
  obtain ⟨g, g1, g2⟩ := sv_q2 ha hx hy tx ty
  obtain ⟨c1, c2, c3⟩ := sv_c2 ha
  have e1 : sv_ev s (l ++ r) st = some (x :: y :: st) := by rw [sv_ev_app (vr st)]; exact vl _
  have e2 : sv_ev s ((131072 + a) :: (l ++ r)) st = some ((16 + a * 4) :: x :: y :: st) := by
    rw [sv_ev_s _ e1, sv_st_2 c1, if_pos ⟨c2, by omega⟩, c3]
  have e3 : sv_ev s (196608 :: (131072 + a) :: (l ++ r)) st = some (g :: y :: st) := by rw [sv_ev_s _ e2]; exact sv_st_3 g1
  unfold hk_eq
  rw [sv_ev_s _ e3]; exact sv_st_3 g2
/-- taking an equation apart -/
theorem sv_eqn {s : Nat → Nat → Nat} (hs : sv_va s) {l : List Nat} {e : Nat} (h : hk_run 1 l = some 0) (he : hk_ise l) (hv : sv_v s l e) :
    ∃ x y, hk_c l 2 % 256 < 4 ∧ sv_ok x = true ∧ sv_ok y = true ∧ sv_t x = hk_c l 2 % 256 ∧ sv_t y = hk_c l 2 % 256 ∧ sv_v s ((l.drop 3).take (hk_e l 3 - 3)) x ∧ sv_v s (l.drop (hk_e l 3)) y ∧ e = if sv_n x = sv_n y then 1 else 0 := by
  obtain ⟨t1, t2, t3, t4, t5, t6, t7⟩ := hk_ise_at h he
  have E : l = hk_c l 0 :: hk_c l 1 :: hk_c l 2 :: ((l.drop 3).take (hk_e l 3 - 3) ++ l.drop (hk_e l 3)) := by
    have a0 := hk_c_drop (l := l) (p := 0) (by omega)
    have a1 := hk_c_drop (l := l) (p := 1) (by omega)
    have a2 := hk_c_drop (l := l) (p := 2) (by omega)
    rw [List.drop_zero] at a0
    have a3 : l.drop 3 = (l.drop 3).take (hk_e l 3 - 3) ++ l.drop (hk_e l 3) := by
      have := List.take_append_drop (hk_e l 3 - 3) (l.drop 3)
      rw [List.drop_drop, show 3 + (hk_e l 3 - 3) = hk_e l 3 by omega] at this
      exact this.symm
    have a1 : l.drop (0 + 1) = hk_c l 1 :: l.drop (1 + 1) := a1
    have a2 : l.drop (1 + 1) = hk_c l 2 :: l.drop 3 := a2
    rw [a1, a2, a3] at a0
    exact a0
  have hv0 := hv []
  generalize (l.drop 3).take (hk_e l 3 - 3) = S at *
  generalize l.drop (hk_e l 3) = R at *
  rw [E] at hv0
  obtain ⟨q0, p0, z0⟩ := sv_ev_i hv0
  obtain ⟨q1, p1, z1⟩ := sv_ev_i p0
  obtain ⟨q2, p2, z2⟩ := sv_ev_i p1
  obtain ⟨q3, p3, p4⟩ := sv_ev_spl p2
  obtain ⟨y, rfl, oy, vy⟩ := sv_v_of hs t7 p3
  obtain ⟨x, rfl, ox, vx⟩ := sv_v_of hs t6 p4
  rcases sv_st_i z2 with ⟨h1, h2, h3, rfl⟩ | ⟨h1, h2, h3, rfl⟩ | ⟨h1, f, x', w, e', hw, he', rfl⟩
  · have := he.2.2; omega
  · rcases sv_st_i z1 with ⟨k1, k2, k3, rfl⟩ | ⟨k1, k2, k3, rfl⟩ | ⟨k1, f, x', w, e1, hw, he1, rfl⟩
    · have := he.2.1; omega
    · have := he.2.1; omega
    · rcases sv_st_i z0 with ⟨m1, m2, m3, hz⟩ | ⟨m1, m2, m3, hz⟩ | ⟨m1, f2, x2, w2, e2, hw2, he2, hz⟩
      · have := he.1; omega
      · have := he.1; omega
      · cases hw
        cases hw2
        cases hz
        obtain ⟨b1, b2, b3⟩ := sv_q1 h3 ox oy he1 he2
        exact ⟨x, y, h3, ox, oy, b1, b2, vx, vy, b3⟩
  · have := he.2.2; omega
/-! theorems that hold -/
def sv_th (H : List (List Nat)) (Cn : List Nat) : Prop := ∀ s, sv_va s → (∀ h, h ∈ H → ∃ e, e < 2 ∧ sv_v s h e) ∧ ∃ e, e < 2 ∧ sv_v s Cn e ∧ ((∀ h, h ∈ H → sv_v s h 1) → e = 1)
theorem sv_if (x y : Nat) : (if x = y then 1 else 0) < 2 := by split <;> omega
theorem sv_if1 {x y : Nat} (h : (if x = y then 1 else 0) = 1) : x = y := by
  split at h
  · assumption
  · omega
theorem sv_un_in {HA HB : List (List Nat)} {h : List Nat} : h ∈ hk_un [] (HA ++ HB) ↔ h ∈ HA ∨ h ∈ HB := by
  rw [hk_un_mem, List.mem_append]
  exact ⟨fun z => z.elim id (fun y => absurd y List.not_mem_nil), Or.inl⟩
theorem sv_refl {l : List Nat} {a : Nat} (ha : a < 4) (h : ∀ s, sv_va s → ∃ e, sv_ok e = true ∧ sv_t e = a ∧ sv_v s l e) : sv_th [] (hk_eq a l l) := by
  intro s hs
  obtain ⟨e, o, t, v⟩ := h s hs
  refine ⟨fun h hh => absurd hh List.not_mem_nil, _, sv_if _ _, sv_mkeq hs ha o o t t v v, fun _ => if_pos rfl⟩
theorem sv_n16 {x : Nat} (h : x < 16) : sv_n x = x := by unfold sv_n; rw [if_neg (by omega), if_neg (by omega)]
theorem sv_trans {la lb : List Nat} {HA HB : List (List Nat)} {n : Nat} (ga : hk_gt n la) (gb : hk_gt n lb) (A : sv_th HA la) (B : sv_th HB lb) (ea : hk_ise la) (eb : hk_ise lb) (em : la.drop (hk_e la 3) = (lb.drop 3).take (hk_e lb 3 - 3)) : sv_th (hk_un [] (HA ++ HB)) (vl_trans la lb) := by
  intro s hs
  obtain ⟨a1, p, p1, p2, p3⟩ := A s hs
  obtain ⟨b1, q, q1, q2, q3⟩ := B s hs
  obtain ⟨x, y, u1, u2, u3, u4, u5, u6, u7, u8⟩ := sv_eqn hs ga.1 ea p2
  obtain ⟨y', z, w1, w2, w3, w4, w5, w6, w7, w8⟩ := sv_eqn hs gb.1 eb q2
  rw [← em] at w6
  have ey := sv_v_u u7 w6
  subst ey
  obtain ⟨-, -, -, -, -, -, -, dA⟩ := hk_ise_sides ga ea
  obtain ⟨-, -, -, -, -, -, dB, -⟩ := hk_ise_sides gb eb
  have e : vl_trans la lb = hk_eq (hk_c la 2 % 256) ((la.drop 3).take (hk_e la 3 - 3)) (lb.drop (hk_e lb 3)) := by
    unfold vl_trans hk_eq
    rw [dA, dB]; simp
  refine ⟨fun h hh => (sv_un_in.mp hh).elim (a1 h) (b1 h), (if sv_n x = sv_n z then 1 else 0), sv_if _ _, ?_, fun H => ?_⟩
  · rw [e]; exact sv_mkeq hs u1 u2 w3 u4 (by rw [w5, ← w4, u5]) u6 w7
  · have k1 := p3 (fun h hh => H h (sv_un_in.mpr (Or.inl hh)))
    have k2 := q3 (fun h hh => H h (sv_un_in.mpr (Or.inr hh)))
    rw [u8] at k1
    rw [w8] at k2
    rw [if_pos ((sv_if1 k1).trans (sv_if1 k2))]
theorem sv_comb {la lb : List Nat} {HA HB : List (List Nat)} {n : Nat} (ga : hk_gt n la) (gb : hk_gt n lb) (A : sv_th HA la) (B : sv_th HB lb) (ea : hk_ise la) (eb : hk_ise lb) (h3 : hk_c la 2 % 256 = 3) (h0 : hk_c lb 2 % 256 = 0) : sv_th (hk_un [] (HA ++ HB)) (vl_comb 0 la lb) := by
  intro s hs
  obtain ⟨a1, p, p1, p2, p3⟩ := A s hs
  obtain ⟨b1, q, q1, q2, q3⟩ := B s hs
  obtain ⟨f, g, u1, u2, u3, u4, u5, u6, u7, u8⟩ := sv_eqn hs ga.1 ea p2
  obtain ⟨x, y, w1, w2, w3, w4, w5, w6, w7, w8⟩ := sv_eqn hs gb.1 eb q2
  rw [h3] at u4 u5
  rw [h0] at w4 w5
  obtain ⟨-, -, -, -, -, -, dA1, dA2⟩ := hk_ise_sides ga ea
  obtain ⟨-, -, -, -, -, -, dB1, dB2⟩ := hk_ise_sides gb eb
  obtain ⟨v, v1, v2⟩ := sv_app1 u2 w2 u4 w4
  obtain ⟨v', v1', v2'⟩ := sv_app1 u3 w3 u5 w5
  have cmb : ∀ {k m : List Nat} {c d e : Nat}, sv_v s k c → sv_v s m d → sv_cb c d = some e → sv_v s (196608 :: (k ++ m)) e := by
    intro k m c d e hk hm hc st
    have e1 : sv_ev s (k ++ m) st = some (c :: d :: st) := by rw [sv_ev_app (hm st)]; exact hk _
    rw [sv_ev_s _ e1]; exact sv_st_3 hc
  have e : vl_comb 0 la lb = hk_eq 0 (196608 :: ((la.drop 3).take (hk_e la 3 - 3) ++ (lb.drop 3).take (hk_e lb 3 - 3))) (196608 :: (la.drop (hk_e la 3) ++ lb.drop (hk_e lb 3))) := by
    unfold vl_comb hk_eq
    rw [dA1, dA2, dB1, dB2]; simp
  obtain ⟨o1, o2, o3⟩ := sv_b v2
  obtain ⟨o1', o2', o3'⟩ := sv_b v2'
  refine ⟨fun h hh => (sv_un_in.mp hh).elim (a1 h) (b1 h), (if sv_n v = sv_n v' then 1 else 0), sv_if _ _, ?_, fun H => ?_⟩
  · rw [e]; exact sv_mkeq hs (by omega) o1 o1' o2 o2' (cmb u6 w6 v1) (cmb u7 w7 v1')
  · have k1 := p3 (fun h hh => H h (sv_un_in.mpr (Or.inl hh)))
    have k2 := q3 (fun h hh => H h (sv_un_in.mpr (Or.inr hh)))
    rw [u8] at k1
    rw [w8] at k2
    have n1 := sv_cb_n u2 w2
    rw [sv_if1 k1, sv_if1 k2, sv_cb_n u3 w3, v1', v1] at n1
    have : v' = v := Option.some.inj n1
    rw [this, if_pos rfl]
theorem sv_assume {l : List Nat} (h : ∀ s, sv_va s → ∃ e, e < 2 ∧ sv_v s l e) : sv_th [l] l := by
  intro s hs
  obtain ⟨e, e1, e2⟩ := h s hs
  refine ⟨fun y hy => by rw [List.mem_singleton.mp hy]; exact ⟨e, e1, e2⟩, e, e1, e2, fun H => sv_v_u e2 (H l List.mem_cons_self)⟩
theorem sv_mp {la lb : List Nat} {HA HB : List (List Nat)} {n : Nat} (ga : hk_gt n la) (A : sv_th HA la) (B : sv_th HB lb) (ea : hk_ise la) (em : (la.drop 3).take (hk_e la 3 - 3) = lb) : sv_th (hk_un [] (HA ++ HB)) (vl_mp la) := by
  intro s hs
  obtain ⟨a1, p, p1, p2, p3⟩ := A s hs
  obtain ⟨b1, q, q1, q2, q3⟩ := B s hs
  obtain ⟨x, y, u1, u2, u3, u4, u5, u6, u7, u8⟩ := sv_eqn hs ga.1 ea p2
  obtain ⟨-, -, -, -, -, -, dA1, -⟩ := hk_ise_sides ga ea
  rw [em] at u6
  have ex := sv_v_u u6 q2
  subst ex
  rw [(sv_b q1).2.1] at u4
  rw [← u4] at u5
  have y2 := sv_t0 u3 u5
  refine ⟨fun h hh => (sv_un_in.mp hh).elim (a1 h) (b1 h), y, y2, ?_, fun H => ?_⟩
  · unfold vl_mp; rw [dA1]; exact u7
  · have k1 := p3 (fun h hh => H h (sv_un_in.mpr (Or.inl hh)))
    have k2 := q3 (fun h hh => H h (sv_un_in.mpr (Or.inr hh)))
    rw [u8] at k1
    have := sv_n2 (sv_if1 k1) y2
    omega
theorem sv_ded {la lb : List Nat} {HA HB : List (List Nat)} (A : sv_th HA la) (B : sv_th HB lb) : sv_th (vh_ded la lb HA HB) (hk_eq 0 la lb) := by
  intro s hs
  obtain ⟨a1, p, p1, p2, p3⟩ := A s hs
  obtain ⟨b1, q, q1, q2, q3⟩ := B s hs
  obtain ⟨o1, o2, o3⟩ := sv_b p1
  obtain ⟨o1', o2', o3'⟩ := sv_b q1
  refine ⟨fun h hh => (sv_un_in.mp hh).elim (fun z => a1 h ((List.mem_filter.mp z).1)) (fun z => b1 h ((List.mem_filter.mp z).1)), _, sv_if _ _, sv_mkeq hs (by omega) o1 o1' o2 o2' p2 q2, fun H => ?_⟩
  rw [o3, o3']
  have fA : q = 1 → p = 1 := by
    intro hq
    refine p3 (fun h hh => ?_)
    by_cases z : h = lb
    · rw [z, ← hq]; exact q2
    · exact H h (sv_un_in.mpr (Or.inl (List.mem_filter.mpr ⟨hh, (hk_ne_iff lb h).mpr z⟩)))
  have fB : p = 1 → q = 1 := by
    intro hp
    refine q3 (fun h hh => ?_)
    by_cases z : h = la
    · rw [z, ← hp]; exact p2
    · exact H h (sv_un_in.mpr (Or.inr (List.mem_filter.mpr ⟨hh, (hk_ne_iff la h).mpr z⟩)))
  rw [if_pos]
  by_cases z : p = 1
  · rw [z, fB z]
  · by_cases w : q = 1
    · exact absurd (fA w) z
    · omega
/-! putting a term in for a variable -/
def sv_sb (vc : Nat) (u : List Nat) : List Nat → List Nat
  | [] => []
  | c :: l => (if c = vc then u else [c]) ++ sv_sb vc u l
theorem sv_fm_sh (f : Nat → List Nat) (a : Nat) : ∀ k, hk_fm f (a + 1) k = hk_fm (fun p => f (p + 1)) a k
  | 0 => rfl
  | k + 1 => by
    show hk_fm f (a + 1) k ++ f (a + 1 + k) = hk_fm (fun p => f (p + 1)) a k ++ f (a + k + 1)
    rw [sv_fm_sh f a k, show a + 1 + k = a + k + 1 by omega]
theorem sv_sb_eq (vc : Nat) (u : List Nat) : ∀ l : List Nat, hk_sb l vc u = sv_sb vc u l
  | [] => rfl
  | c :: l => by
    have ih := sv_sb_eq vc u l
    unfold hk_sb at ih ⊢
    rw [List.length_cons, hk_fm_l, sv_fm_sh]
    show (if c = vc then u else [c]) ++ hk_fm (fun p => if hk_c l p = vc then u else [hk_c l p]) 0 l.length = _
    rw [ih]; rfl
def sv_up (s : Nat → Nat → Nat) (i d x : Nat) : Nat → Nat → Nat := fun j t => if j = i ∧ t = d then x else s j t
theorem sv_up_va {s : Nat → Nat → Nat} (hs : sv_va s) {i d x : Nat} (hx : sv_ok x = true) (h16 : x < 16) (hd : x / 4 = d) : sv_va (sv_up s i d (x % 4)) := by
  intro j t hj ht
  unfold sv_up
  split
  · rename_i z
    obtain ⟨rfl, rfl⟩ := z
    refine ⟨Nat.mod_lt _ (by decide), ?_⟩
    rw [← hd, show x / 4 * 4 + x % 4 = x by omega]; exact hx
  · exact hs j t hj ht
theorem sv_subst {s : Nat → Nat → Nat} (hs : sv_va s) {i d vc e : Nat} {u : List Nat} (hvc : vc = 65536 + i * 256 + d) (hi : i < 2) (hd : d < 4) (ho : sv_ok e = true) (ht : sv_t e = d) (hu : sv_v s u e) :
    ∀ {l : List Nat} {st r : List Nat}, sv_ev (sv_up s i d (sv_n e % 4)) l st = some r → sv_oks st → ∀ st2, st2.map sv_n = st.map sv_n → sv_oks st2 → ∃ r2, sv_ev s (sv_sb vc u l) st2 = some r2 ∧ r2.map sv_n = r.map sv_n ∧ sv_oks r2 ∧ sv_oks r := by
  obtain ⟨n1, n2, n3⟩ := sv_nok ho (by omega)
  have hs' := sv_up_va hs (i := i) (d := d) n1 n2 (by omega)
  intro l
  induction l with
  | nil =>
    intro st r h o st2 m o2
    cases h
    exact ⟨st2, rfl, m, o2, o⟩
  | cons c l ih =>
    intro st r h o st2 m o2
    obtain ⟨q, e1, e2⟩ := sv_ev_i h
    obtain ⟨q2, f1, f2, f3, f4⟩ := ih e1 o st2 m o2
    have or : sv_oks r := sv_st_ok hs' e2 f4
    rw [sv_sb]
    by_cases z : c = vc
    · rw [if_pos z, sv_ev_app f1, hu q2]
      subst z
      have k1 : c / 65536 = 1 := by omega
      have k2 : c / 256 % 256 = i := by omega
      have k3 : c % 256 = d := by omega
      rw [sv_st_1 k1, k2, k3, if_pos ⟨hi, hd⟩] at e2
      cases e2
      have en : d * 4 + sv_up s i d (sv_n e % 4) i d = sv_n e := by
        unfold sv_up
        rw [if_pos ⟨rfl, rfl⟩]; omega
      refine ⟨e :: q2, rfl, ?_, ?_, or⟩
      · rw [List.map_cons, List.map_cons, en, f2]
        rw [sv_n16 n2]
      · intro y hy
        rcases List.mem_cons.mp hy with w | w
        · rw [w]; exact ho
        · exact f3 y w
    · rw [if_neg z]
      show ∃ r2, sv_ev s (c :: sv_sb vc u l) st2 = some r2 ∧ _
      rw [sv_ev_s c f1]
      rcases sv_st_i e2 with ⟨h1, h2, h3, rfl⟩ | ⟨h1, h2, h3, rfl⟩ | ⟨h1, f, x, w, y, rfl, he, rfl⟩
      · have en : sv_up s i d (sv_n e % 4) (c / 256 % 256) (c % 256) = s (c / 256 % 256) (c % 256) := by
          unfold sv_up
          rw [if_neg (fun y => z (by omega))]
        rw [sv_st_1 h1, if_pos ⟨h2, h3⟩, en]
        rw [en] at or
        refine ⟨_, rfl, by rw [List.map_cons, List.map_cons, f2], ?_, or⟩
        intro y hy
        rcases List.mem_cons.mp hy with w | w
        · rw [w]; exact (hs _ _ h2 h3).2
        · exact f3 y w
      · rw [sv_st_2 h1, if_pos ⟨h2, h3⟩]
        refine ⟨_, rfl, by rw [List.map_cons, List.map_cons, f2], ?_, or⟩
        intro y hy
        rcases List.mem_cons.mp hy with w | w
        · rw [w]; exact sv_eq_ok _ h3
        · exact f3 y w
      · subst h1
        match q2, f2, f3 with
        | [_], f2, _ => exact absurd f2 (by simp)
        | f' :: x' :: w', f2, f3 =>
          rw [List.map_cons, List.map_cons, List.map_cons, List.map_cons] at f2
          have a1 := List.cons.inj f2
          have a2 := List.cons.inj a1.2
          have of' := f3 f' List.mem_cons_self
          have ox' := f3 x' (List.mem_cons_of_mem _ List.mem_cons_self)
          have c1 := sv_cb_n of' ox'
          rw [a1.1, a2.1, sv_cb_n (f4 f List.mem_cons_self) (f4 x (List.mem_cons_of_mem _ List.mem_cons_self)), he] at c1
          refine ⟨y :: w', sv_st_3 c1.symm, by rw [List.map_cons, List.map_cons, a2.2], ?_, or⟩
          intro y' hy
          rcases List.mem_cons.mp hy with v | v
          · rw [v]; exact sv_cb_ok of' ox' c1.symm
          · exact f3 y' (List.mem_cons_of_mem _ (List.mem_cons_of_mem _ v))
theorem sv_sub1 {s : Nat → Nat → Nat} (hs : sv_va s) {i d vc e v : Nat} {u l : List Nat} (hvc : vc = 65536 + i * 256 + d) (hi : i < 2) (hd : d < 4) (ho : sv_ok e = true) (ht : sv_t e = d) (hu : sv_v s u e) (hr : hk_run 1 (hk_sb l vc u) = some 0)
    (hv : sv_v (sv_up s i d (sv_n e % 4)) l v) (h2 : v < 2) : sv_v s (hk_sb l vc u) v := by
  obtain ⟨r2, e1, e2, e3, e4⟩ := sv_subst hs hvc hi hd ho ht hu (hv []) (fun y hy => absurd hy List.not_mem_nil) [] rfl (fun y hy => absurd hy List.not_mem_nil)
  rw [← sv_sb_eq] at e1
  obtain ⟨w, rfl, ow, vw⟩ := sv_v_of hs hr e1
  rw [List.map_cons, List.map_cons] at e2
  have := sv_n2 (List.cons.inj e2).1 h2
  rw [← this]; exact vw
theorem sv_inst {la u : List Nat} {HA : List (List Nat)} {n i d vc : Nat} (ga : hk_gt n la) (gA : ∀ y, y ∈ HA → hk_gt n y) (gu : hk_gt n u) (hvc : vc = 65536 + i * 256 + d) (hi : i < 2) (hd : d < 4) (A : sv_th HA la)
    (hu : ∀ s, sv_va s → ∃ e, sv_ok e = true ∧ sv_t e = d ∧ sv_v s u e) : sv_th (hk_un [] (vh_inst HA vc u)) (hk_sb la vc u) := by
  intro s hs
  obtain ⟨e, o, t, v⟩ := hu s hs
  obtain ⟨n1, n2, n3⟩ := sv_nok o (by omega)
  have kv : vc / 65536 = 1 := by omega
  have hs' := sv_up_va hs (i := i) (d := d) n1 n2 (by omega)
  obtain ⟨a1, p, p1, p2, p3⟩ := A _ hs'
  have mem : ∀ {h}, h ∈ hk_un [] (vh_inst HA vc u) ↔ ∃ k, k ∈ HA ∧ hk_sb k vc u = h := by
    intro h
    rw [hk_un_mem]
    unfold vh_inst
    rw [List.mem_map]
    exact ⟨fun z => z.elim id (fun y => absurd y List.not_mem_nil), Or.inl⟩
  have sub : ∀ {k w}, k ∈ HA → sv_v (sv_up s i d (sv_n e % 4)) k w → w < 2 → sv_v s (hk_sb k vc u) w := fun hk hw h2 => sv_sub1 hs hvc hi hd o t v (hk_sb_run (gA _ hk).1 kv gu.1) hw h2
  refine ⟨fun h hh => ?_, p, p1, sv_sub1 hs hvc hi hd o t v (hk_sb_run ga.1 kv gu.1) p2 p1, fun H => p3 (fun k hk => ?_)⟩
  · obtain ⟨k, hk, rfl⟩ := mem.mp hh
    obtain ⟨w, w1, w2⟩ := a1 k hk
    exact ⟨w, w1, sub hk w2 w1⟩
  · obtain ⟨w, w1, w2⟩ := a1 k hk
    have := sv_v_u (sub hk w2 w1) (H _ (mem.mpr ⟨k, hk, rfl⟩))
    rw [← this]; exact w2
end
section
/-! the table: what a handle means, and terms that have a type -/
def sv_is (T : hk_T) (j d c : Nat) : Prop := 3 ≤ j ∧ j < T.1 ∧ T.2.1 j = d ∧ T.2.2 j = c
def sv_le (T T' : hk_T) : Prop := T.1 ≤ T'.1 ∧ ∀ j, 3 ≤ j → j < T.1 → T'.2.1 j = T.2.1 j ∧ T'.2.2 j = T.2.2 j
theorem sv_le_r (T : hk_T) : sv_le T T := ⟨Nat.le_refl _, fun _ _ _ => ⟨rfl, rfl⟩⟩
theorem sv_le_t {T T' T'' : hk_T} (h : sv_le T T') (h' : sv_le T' T'') : sv_le T T'' :=
  ⟨Nat.le_trans h.1 h'.1, fun j h3 hj => ⟨(h'.2 j h3 (Nat.lt_of_lt_of_le hj h.1)).1.trans (h.2 j h3 hj).1, (h'.2 j h3 (Nat.lt_of_lt_of_le hj h.1)).2.trans (h.2 j h3 hj).2⟩⟩
theorem sv_is_le {T T' : hk_T} {j d c : Nat} (h : sv_le T T') (hj : sv_is T j d c) : sv_is T' j d c :=
  ⟨hj.1, Nat.lt_of_lt_of_le hj.2.1 h.1, (h.2 j hj.1 hj.2.1).1.trans hj.2.2.1, (h.2 j hj.1 hj.2.1).2.trans hj.2.2.2⟩
theorem sv_fd_is {D C : Nat → Nat} {d c j : Nat} : ∀ {k i : Nat}, hk_fd D C d c k i = some j → D j = d ∧ C j = c
  | 0, i, h => by cases h
  | k + 1, i, h => by
    by_cases z : D i = d ∧ C i = c
    · rw [hk_fd_t z] at h; cases h; exact z
    · rw [hk_fd_f z] at h; exact sv_fd_is h
theorem sv_it_le (T : hk_T) (d c : Nat) : sv_le T (hk_it T d c).2 := by
  cases hf : hk_find T d c with
  | some j => rw [hk_it_f hf]; exact sv_le_r T
  | none =>
    by_cases z : 48 ≤ T.1
    · rw [hk_it_z hf z]; exact sv_le_r T
    · rw [hk_it_a hf z]
      refine ⟨Nat.le_succ _, fun j h3 hj => ⟨?_, ?_⟩⟩
      · exact hk_up_n (by omega)
      · exact hk_up_n (by omega)
theorem sv_it_is {T : hk_T} {d c j : Nat} (ht : hk_ti T) (h : (hk_it T d c).1 = some j) : sv_is (hk_it T d c).2 j d c := by
  have h5 := ht.1
  cases hf : hk_find T d c with
  | some i =>
    rw [hk_it_f hf] at h ⊢
    cases h
    have w := hk_find_in hf (by omega)
    have q := sv_fd_is hf
    exact ⟨w.1, w.2, q.1, q.2⟩
  | none =>
    by_cases z : 48 ≤ T.1
    · rw [hk_it_z hf z] at h; cases h
    · rw [hk_it_a hf z] at h ⊢
      cases h
      exact ⟨by omega, Nat.lt_succ_self _, hk_up_s _ _ _, hk_up_s _ _ _⟩
theorem sv_ie_le (T : hk_T) (a : Nat) : sv_le T (hk_ie T a).2 := sv_le_t (sv_it_le T a 0) (sv_it_le _ a _)
theorem sv_ie_is {T : hk_T} {a j : Nat} (ht : hk_ti T) (ha : a < T.1) (hne : (hk_it T a 0).1 ≠ none) (h : (hk_ie T a).1 = some j) : ∃ f, sv_is (hk_ie T a).2 f a 0 ∧ sv_is (hk_ie T a).2 j a f := by
  have h0 : 0 < T.1 := by have := ht.1; omega
  obtain ⟨i1, i2, i3, i4⟩ := hk_it_ok (d := a) (c := 0) ht ha h0
  cases hf : (hk_it T a 0).1 with
  | none => exact absurd hf hne
  | some f =>
    have e : hk_ie T a = hk_it (hk_it T a 0).2 a f := by unfold hk_ie; rw [hf]; rfl
    rw [e] at h ⊢
    exact ⟨f, sv_is_le (sv_it_le _ a f) (sv_it_is ht hf), sv_it_is i1 h⟩
def sv_ty (T : hk_T) (e t : Nat) : Prop :=
  sv_ok e = true ∧ ((e < 16 ∧ t = e / 4) ∨ (16 ≤ e ∧ e < 32 ∧ ∃ f, sv_is T f (e / 4 - 4) 0 ∧ sv_is T t (e / 4 - 4) f) ∨ (32 ≤ e ∧ sv_is T t (e / 4 - 8) 0))
theorem sv_ty_le {T T' : hk_T} {e t : Nat} (h : sv_le T T') (ht : sv_ty T e t) : sv_ty T' e t := by
  refine ⟨ht.1, ?_⟩
  rcases ht.2 with z | ⟨z1, z2, f, z3, z4⟩ | ⟨z1, z2⟩
  · exact Or.inl z
  · exact Or.inr (Or.inl ⟨z1, z2, f, sv_is_le h z3, sv_is_le h z4⟩)
  · exact Or.inr (Or.inr ⟨z1, sv_is_le h z2⟩)
theorem sv_ok32 : sv_all (fun e => !sv_ok e || (decide (e < 32) || (!decide (e / 4 = 8) || decide (e = 32 ∨ e = 33)))) = true := by decide +kernel
theorem sv_ty_t {T : hk_T} {e t : Nat} (hT : hk_ti T) (h : sv_ty T e t) (h4 : t < 4) : sv_t e = t := by
  obtain ⟨t1, t2, t3, t4, t5, t6, t7⟩ := hT
  have lt := sv_ok_lt h.1
  rcases h.2 with ⟨z1, z2⟩ | ⟨z1, z2, f, z3, z4⟩ | ⟨z1, z2⟩
  · unfold sv_t; rw [if_pos z1]; exact z2.symm
  · exfalso
    have e3 : t = 3 := by have := z4.1; omega
    subst e3
    have := z4.2.2.2
    rw [t4] at this
    have := z3.1
    omega
  · have e3 : t = 3 := by have := z2.1; omega
    subst e3
    have e0 := z2.2.2.1
    rw [t3] at e0
    have q := sv_all_o sv_ok32 lt
    have n32 : ¬ e < 32 := by omega
    have e8 : e / 4 = 8 := by omega
    rw [h.1, decide_eq_false n32, decide_eq_true e8] at q
    have q : e = 32 ∨ e = 33 := of_decide_eq_true q
    unfold sv_t
    rw [if_neg (by omega), if_pos q]
theorem sv_ty_b {T : hk_T} {e : Nat} (hT : hk_ti T) (h : sv_ty T e 0) : e < 2 := sv_t0 h.1 (sv_ty_t hT h (by omega))
theorem sv_f6 : ∀ a, a < 4 → sv_all (fun x => !sv_ok x || (!decide (sv_t x = a) || (match sv_cb (16 + a * 4) x with | none => false | some g => sv_ok g && decide (32 ≤ g) && decide (g / 4 - 8 = a)))) = true := by
  intro a ha
  have : a = 0 ∨ a = 1 ∨ a = 2 ∨ a = 3 := by omega
  rcases this with rfl | rfl | rfl | rfl <;> decide +kernel
theorem sv_f7 : sv_all (fun f => sv_all (fun x => !sv_ok f || !sv_ok x || (decide (f < 32) || (!decide (sv_t x = f / 4 - 8) || (match sv_cb f x with | none => false | some e => decide (e < 2)))))) = true := by decide +kernel
theorem sv_b_ty {T : hk_T} {e : Nat} (h : e < 2) : sv_ty T e 0 := ⟨(sv_b h).1, Or.inl ⟨by omega, by omega⟩⟩
theorem sv_eqn_f : sv_all (fun e => !sv_ok e || (decide (e < 16) || (decide (32 ≤ e) || decide (e = 16 + (e / 4 - 4) * 4)))) = true := by decide +kernel
theorem sv_ty_cb {T : hk_T} {f x tf tx : Nat} (hT : hk_ti T) (hf : sv_ty T f tf) (hx : sv_ty T x tx) (h3 : 3 ≤ tf) (hd : T.2.1 tf = tx) : ∃ e, sv_cb f x = some e ∧ sv_ty T e (T.2.2 tf) := by
  have hT' := hT
  obtain ⟨t1, t2, t3, t4, t5, t6, t7⟩ := hT'
  have lf := sv_ok_lt hf.1
  have lx := sv_ok_lt hx.1
  rcases hf.2 with ⟨z1, z2⟩ | ⟨z1, z2, g, z3, z4⟩ | ⟨z1, z2⟩
  · have e3 : tf = 3 := by omega
    subst e3
    rw [t3] at hd
    subst hd
    have a1 := sv_ty_t hT hf (by omega)
    have a2 := sv_ty_t hT hx (by omega)
    obtain ⟨e, e1, e2⟩ := sv_app1 hf.1 hx.1 a1 a2
    exact ⟨e, e1, by rw [t4]; exact sv_b_ty e2⟩
  · have q4 : f / 4 - 4 < 4 := by omega
    have ed : f / 4 - 4 = tx := by rw [← hd]; exact z4.2.2.1.symm
    have a2 := sv_ty_t hT hx (by omega)
    have q := sv_all_o (sv_f6 (f / 4 - 4) q4) lx
    rw [hx.1, decide_eq_true (show sv_t x = f / 4 - 4 by omega)] at q
    have ef : f = 16 + (f / 4 - 4) * 4 := by
      have w := sv_all_o sv_eqn_f lf
      rw [hf.1, decide_eq_false (show ¬ f < 16 by omega), decide_eq_false (show ¬ 32 ≤ f by omega)] at w
      exact of_decide_eq_true w
    rw [ef]
    cases hc : sv_cb (16 + (f / 4 - 4) * 4) x with
    | none => rw [hc] at q; cases q
    | some e =>
      rw [hc] at q
      have q : (sv_ok e && decide (32 ≤ e) && decide (e / 4 - 8 = f / 4 - 4)) = true := q
      rw [Bool.and_eq_true, Bool.and_eq_true] at q
      have q3 : e / 4 - 8 = f / 4 - 4 := of_decide_eq_true q.2
      refine ⟨e, rfl, q.1.1, Or.inr (Or.inr ⟨of_decide_eq_true q.1.2, ?_⟩)⟩
      rw [z4.2.2.2, q3]; exact z3
  · have ed : f / 4 - 8 = tx := by rw [← hd]; exact z2.2.2.1.symm
    have a2 := sv_ty_t hT hx (by omega)
    have q := sv_or3 (sv_all_o (sv_all_o sv_f7 lf) lx) hf.1 hx.1
    rw [decide_eq_false (show ¬ f < 32 by omega), decide_eq_true (show sv_t x = f / 4 - 8 by omega)] at q
    cases hc : sv_cb f x with
    | none => rw [hc] at q; cases q
    | some e =>
      rw [hc] at q
      exact ⟨e, rfl, by rw [z2.2.2.2]; exact sv_b_ty (of_decide_eq_true q)⟩
/-- a term of type t -/
def sv_tm (T : hk_T) (l : List Nat) (t : Nat) : Prop := ∀ s, sv_va s → ∃ e, sv_ty T e t ∧ sv_v s l e
theorem sv_tm_le {T T' : hk_T} {l : List Nat} {t : Nat} (h : sv_le T T') (ht : sv_tm T l t) : sv_tm T' l t := by
  intro s hs
  obtain ⟨e, e1, e2⟩ := ht s hs
  exact ⟨e, sv_ty_le h e1, e2⟩
theorem sv_tm_var {T : hk_T} {i t : Nat} (hi : i < 2) (ht : t < 4) : sv_tm T [65536 + i * 256 + t] t := by
  intro s hs
  have k1 : (65536 + i * 256 + t) / 65536 = 1 := by omega
  have k2 : (65536 + i * 256 + t) / 256 % 256 = i := by omega
  have k3 : (65536 + i * 256 + t) % 256 = t := by omega
  obtain ⟨a1, a2⟩ := hs i t hi ht
  refine ⟨t * 4 + s i t, ⟨a2, Or.inl ⟨by omega, by omega⟩⟩, fun st => ?_⟩
  rw [sv_ev_s _ (sv_ev_n s st), sv_st_1 k1, k2, k3, if_pos ⟨hi, ht⟩]
theorem sv_tm_eq {T : hk_T} {a f j : Nat} (ha : a < 4) (h1 : sv_is T f a 0) (h2 : sv_is T j a f) : sv_tm T [131072 + a] j := by
  intro s hs
  obtain ⟨c1, c2, c3⟩ := sv_c2 ha
  have e4 : (16 + a * 4) / 4 - 4 = a := by omega
  refine ⟨16 + a * 4, ⟨sv_eq_ok a ha, Or.inr (Or.inl ⟨by omega, by omega, f, by rw [e4]; exact h1, by rw [e4]; exact h2⟩)⟩, fun st => ?_⟩
  rw [sv_ev_s _ (sv_ev_n s st), sv_st_2 c1, if_pos ⟨c2, by omega⟩, c3]
theorem sv_tm_comb {T : hk_T} {f x : List Nat} {tf tx : Nat} (hT : hk_ti T) (hf : sv_tm T f tf) (hx : sv_tm T x tx) (h3 : 3 ≤ tf) (hd : T.2.1 tf = tx) : sv_tm T ([196608] ++ f ++ x) (T.2.2 tf) := by
  intro s hs
  obtain ⟨a, a1, a2⟩ := hf s hs
  obtain ⟨b, b1, b2⟩ := hx s hs
  obtain ⟨e, e1, e2⟩ := sv_ty_cb hT a1 b1 h3 hd
  refine ⟨e, e2, fun st => ?_⟩
  have w : sv_ev s (f ++ x) st = some (a :: b :: st) := by rw [sv_ev_app (b2 st)]; exact a2 _
  show sv_ev s (196608 :: (f ++ x)) st = _
  rw [sv_ev_s _ w]; exact sv_st_3 e1
theorem sv_va0 : sv_va (fun _ _ => 0) := by
  intro i t hi ht
  refine ⟨by show 0 < 4; decide, ?_⟩
  show sv_ok (t * 4 + 0) = true
  have : t = 0 ∨ t = 1 ∨ t = 2 ∨ t = 3 := by omega
  rcases this with rfl | rfl | rfl | rfl <;> decide
/-- a variable's node is one of the law's variables -/
theorem sv_tm_vc {T : hk_T} {c t : Nat} (h : sv_tm T [c] t) (hk : c / 65536 = 1) : c / 256 % 256 < 2 ∧ c % 256 < 4 := by
  obtain ⟨e, e1, e2⟩ := h _ sv_va0
  have q := e2 []
  rw [sv_ev_s _ (sv_ev_n _ []), sv_st_1 hk] at q
  split at q
  · assumption
  · cases q
/-- the stack's height on the way -/
theorem sv_hgt : ∀ {l : List Nat} {n m : Nat}, hk_run n l = some m → m ≤ n + l.length
  | [], n, m, h => by
    rw [hk_run_nil] at h
    cases h
    exact Nat.le_refl _
  | c :: l, 0, m, h => by rw [hk_run_0] at h; cases h
  | c :: l, n + 1, m, h => by
    rw [hk_run_s] at h
    have := sv_hgt h
    have w : hk_ar c ≤ 2 := by
      unfold hk_ar
      split
      · omega
      · split <;> omega
    rw [List.length_cons]; omega
theorem sv_16 {l : List Nat} (h : hk_run 1 l = some 0) (hl : l.length ≤ 32) {p : Nat} (hp : p < l.length) : ∃ n, hk_run (n + 1) (l.drop p) = some 0 ∧ n + 1 ≤ 16 := by
  obtain ⟨n, h1, h2⟩ := hk_at_ex h hp
  refine ⟨n, h2.2, ?_⟩
  have a := sv_hgt h1
  have b := hk_run_len h2.2
  rw [List.length_take] at a
  rw [List.length_drop] at b
  omega
end
section
/-! the stack in two longs -/
def sv_N : List Nat → Nat
  | [] => 0
  | e :: st => e + 256 * sv_N st
def sv_by (st : List Nat) : Prop := ∀ e, e ∈ st → e < 256
theorem sv_N_lt : ∀ {st : List Nat}, sv_by st → sv_N st < 256 ^ st.length
  | [], _ => by decide
  | e :: st, h => by
    have a := sv_N_lt (st := st) (fun x hx => h x (List.mem_cons_of_mem _ hx))
    have b := h e List.mem_cons_self
    rw [List.length_cons, Nat.pow_succ]
    show e + 256 * sv_N st < _
    omega
theorem sv_N_15 {st : List Nat} (h : sv_by st) (hl : st.length < 16) : sv_N st < 1329227995784915872903807060280344576 := by
  have a := sv_N_lt h
  have b : 256 ^ st.length ≤ 256 ^ 15 := Nat.pow_le_pow_right (by decide) (by omega)
  have c : (256 : Nat) ^ 15 = 1329227995784915872903807060280344576 := by decide
  omega
theorem sv_pop_n {N e M : Nat} (h : N = e + 256 * M) (he : e < 256) :
    N % 18446744073709551616 % 256 = e ∧ N / 18446744073709551616 % 256 * 72057594037927936 + N % 18446744073709551616 / 256 = M % 18446744073709551616 ∧ N / 18446744073709551616 / 256 = M / 18446744073709551616 ∧ N % 18446744073709551616 / 256 < 72057594037927936 := by
  subst h
  omega
theorem sv_push_n {N e : Nat} (he : e < 256) (hN : N < 1329227995784915872903807060280344576) :
    N % 18446744073709551616 * 256 % 18446744073709551616 + e = (e + 256 * N) % 18446744073709551616 ∧ N / 18446744073709551616 * 256 + N % 18446744073709551616 / 72057594037927936 = (e + 256 * N) / 18446744073709551616 ∧ N % 18446744073709551616 * 256 % 18446744073709551616 = N % 72057594037927936 * 256 ∧
      N % 18446744073709551616 / 72057594037927936 < 256 ∧ N / 18446744073709551616 * 256 + N % 18446744073709551616 / 72057594037927936 < 18446744073709551616 := by omega
def sv_lo (st : List Nat) : Int64 := lN (sv_N st % 18446744073709551616)
def sv_hi (st : List Nat) : Int64 := lN (sv_N st / 18446744073709551616)
theorem sv_hi_lt {st : List Nat} (h : sv_by st) (hl : st.length ≤ 16) : sv_N st / 18446744073709551616 < 18446744073709551616 := by
  have a := sv_N_lt h
  have b : 256 ^ st.length ≤ 256 ^ 16 := Nat.pow_le_pow_right (by decide) hl
  have c : (256 : Nat) ^ 16 = 18446744073709551616 * 18446744073709551616 := by decide
  exact Nat.div_lt_of_lt_mul (by omega)
theorem sv_top {e : Nat} {st : List Nat} (he : e < 256) : sv_lo (e :: st) &&& 255 = lN e := by
  have q := sv_pop_n (N := sv_N (e :: st)) (e := e) (M := sv_N st) rfl he
  unfold sv_lo
  have m : (sv_N (e :: st)) % 18446744073709551616 < 2 ^ 64 := Nat.mod_lt _ (by decide)
  have w := wb_mask (k := 8) m (by decide)
  have w : lN (sv_N (e :: st) % 18446744073709551616) &&& 255 = lN (sv_N (e :: st) % 18446744073709551616 % 256) := w
  rw [w, q.1]
theorem sv_plo {e : Nat} {st : List Nat} (h : sv_by (e :: st)) (hl : (e :: st).length ≤ 16) :
    (((sv_lo (e :: st)).toUInt64 >>> ((8 : Int32).toInt64.toUInt64 &&& Int64.toUInt64 63)).toInt64) ||| ((sv_hi (e :: st) &&& 255) <<< ((56 : Int32).toInt64 &&& 63)) = sv_lo st := by
  have he := h e List.mem_cons_self
  obtain ⟨q1, q2, q3, q4⟩ := sv_pop_n (N := sv_N (e :: st)) (e := e) (M := sv_N st) rfl he
  have m : (sv_N (e :: st)) % 18446744073709551616 < 2 ^ 64 := Nat.mod_lt _ (by decide)
  have mh : (sv_N (e :: st)) / 18446744073709551616 < 2 ^ 64 := sv_hi_lt h hl
  have a : ((sv_lo (e :: st)).toUInt64 >>> ((8 : Int32).toInt64.toUInt64 &&& Int64.toUInt64 63)).toInt64 = lN (sv_N (e :: st) % 18446744073709551616 / 256) := wb_shr (k := 8) m (by decide)
  have b : sv_hi (e :: st) &&& 255 = lN (sv_N (e :: st) / 18446744073709551616 % 256) := wb_mask (k := 8) mh (by decide)
  have c : lN (sv_N (e :: st) / 18446744073709551616 % 256) <<< ((56 : Int32).toInt64 &&& 63) = lN (sv_N (e :: st) / 18446744073709551616 % 256 * 72057594037927936) := wb_shl _ (k := 56) (by decide)
  rw [a, b, c]
  have ml : sv_N (e :: st) / 18446744073709551616 % 256 < 256 := Nat.mod_lt _ (by decide)
  have r := g_or' (k := 56) (p := 72057594037927936) (a := sv_N (e :: st) % 18446744073709551616 / 256) (b := sv_N (e :: st) / 18446744073709551616 % 256) (by decide) q4 (by omega)
  rw [r]
  unfold sv_lo
  rw [Nat.add_comm, q2]
theorem sv_phi {e : Nat} {st : List Nat} (h : sv_by (e :: st)) (hl : (e :: st).length ≤ 16) : ((sv_hi (e :: st)).toUInt64 >>> ((8 : Int32).toInt64.toUInt64 &&& Int64.toUInt64 63)).toInt64 = sv_hi st := by
  have he := h e List.mem_cons_self
  obtain ⟨q1, q2, q3, q4⟩ := sv_pop_n (N := sv_N (e :: st)) (e := e) (M := sv_N st) rfl he
  have mh : (sv_N (e :: st)) / 18446744073709551616 < 2 ^ 64 := sv_hi_lt h hl
  have a : ((sv_hi (e :: st)).toUInt64 >>> ((8 : Int32).toInt64.toUInt64 &&& Int64.toUInt64 63)).toInt64 = lN (sv_N (e :: st) / 18446744073709551616 / 256) := wb_shr (k := 8) mh (by decide)
  rw [a, q3]; rfl
theorem sv_ulo {e : Nat} {st : List Nat} (he : e < 256) (h : sv_by st) (hl : st.length < 16) : (sv_lo st <<< ((8 : Int32).toInt64 &&& 63)) ||| lN e = sv_lo (e :: st) := by
  obtain ⟨q1, q2, q3, q4, q5⟩ := sv_push_n he (sv_N_15 h hl)
  have a : sv_lo st <<< ((8 : Int32).toInt64 &&& 63) = lN (sv_N st % 18446744073709551616 * 256) := wb_shl _ (k := 8) (by decide)
  have b : lN (sv_N st % 18446744073709551616 * 256) = lN (sv_N st % 72057594037927936 * 256) := by rw [wb_mod, ← q3]
  have m : sv_N st % 72057594037927936 < 72057594037927936 := Nat.mod_lt _ (by decide)
  rw [a, b, g_or (k := 8) (p := 256) (by decide) he (by omega)]
  unfold sv_lo
  rw [← q3, q1]; rfl
theorem sv_uhi {e : Nat} {st : List Nat} (he : e < 256) (h : sv_by st) (hl : st.length < 16) : (sv_hi st <<< ((8 : Int32).toInt64 &&& 63)) ||| (((sv_lo st).toUInt64 >>> ((56 : Int32).toInt64.toUInt64 &&& Int64.toUInt64 63)).toInt64) = sv_hi (e :: st) := by
  obtain ⟨q1, q2, q3, q4, q5⟩ := sv_push_n he (sv_N_15 h hl)
  have m : (sv_N st) % 18446744073709551616 < 2 ^ 64 := Nat.mod_lt _ (by decide)
  have a : sv_hi st <<< ((8 : Int32).toInt64 &&& 63) = lN (sv_N st / 18446744073709551616 * 256) := wb_shl _ (k := 8) (by decide)
  have b : ((sv_lo st).toUInt64 >>> ((56 : Int32).toInt64.toUInt64 &&& Int64.toUInt64 63)).toInt64 = lN (sv_N st % 18446744073709551616 / 72057594037927936) := wb_shr (k := 56) m (by decide)
  rw [a, b, g_or (k := 8) (p := 256) (by decide) q4 q5, q2]; rfl
end
section
/-! the state that the law keeps: terms that have a type, theorems that hold -/
def sw_I (T : hk_T) (nM : Nat) (TY : Nat → Nat) (nH : Nat) (HC : Nat → Nat) (G : Nat → List Nat) : Prop :=
  hk_I T nM TY nH HC G 32 16 ∧ (∀ t, t < nM → sv_tm T (G t) (TY t)) ∧ ∀ h, h < nH → sv_th (hk_H G (32 + h * 4 + 1) (HC h)) (G (32 + h * 4))
def sw_S (nM nH : Nat) (u : St2) : Prop :=
  ∃ (T : hk_T) (TY HC : Nat → Nat) (G : Nat → List Nat) (xA xR xK xS xY xP xE : Nat → Int32), u = (nI T.1, nI 32, nI nM, nI 16, nI nH, xA, xR, xK, xS, xY, xP, xE) ∧ sw_I T nM TY nH HC G ∧ hk_R T nM TY nH HC G xA xR xY xP (hk_h xK xS)
theorem sw_H_congr {G G' : Nat → List Nat} {f n : Nat} (h : ∀ i, i < n → G' (f + i) = G (f + i)) : hk_H G' f n = hk_H G f n := by
  unfold hk_H
  exact List.map_congr_left (fun i hi => h i (List.mem_range.mp hi))
theorem sw_H_list {G : Nat → List Nat} {f : Nat} {H : List (List Nat)} (h : ∀ i, i < H.length → G (f + i) = H.getD i []) : hk_H G f H.length = H := by
  refine List.ext_getElem (hk_H_len _ _ _) (fun i h1 h2 => ?_)
  rw [← hk_gd h1, hk_H_gd h2, h i h2, hk_gd h2]
section
variable {xn xc xm xd xh : Int32} {xA xR xK xS xY xP xE : Nat → Int32} {T T' : hk_T} {nM nH : Nat} {TY HC : Nat → Nat} {G : Nat → List Nat}
theorem sw_in (I : sw_I T nM TY nH HC G) (RX : hk_R T nM TY nH HC G xA xR xY xP (hk_h xK xS)) : sw_S nM nH (nI T.1, nI 32, nI nM, nI 16, nI nH, xA, xR, xK, xS, xY, xP, xE) :=
  ⟨T, TY, HC, G, xA, xR, xK, xS, xY, xP, xE, rfl, I, RX⟩
/-- a new term -/
theorem sw_new {ty : Nat} {l : List Nat} {A R K S : Nat → Int32} (I : sw_I T nM TY nH HC G) (RX : hk_R T nM TY nH HC G xA xR xY xP (hk_h xK xS)) (hc : nM < 32) (ht : hk_ti T') (le : sv_le T T') (bX : hk_tb T' A R) (fX : hk_fr (fun s => s = nM) xK xS K S) (hX : hk_h K S nM l) (hty : ty < T'.1) (g : hk_gt T'.1 l) (hv : hk_c l 0 / 65536 = 1 → ty = hk_c l 0 % 256) (tm : sv_tm T' l ty) :
    sw_S (nM + 1) nH (nI T'.1, nI 32, nI (nM + 1), nI 16, nI nH, A, R, K, S, upd xY nM (nI ty), xP, xE) := by
  refine sw_in (TY := hk_up TY nM ty) (HC := HC) (G := hk_ug G nM l) ⟨hk_I_term I.1 ht le.1 hc hty g hv, fun t h => ?_, fun h hh => ?_⟩ (hk_R_term RX bX (fun s l' hs h => hk_fr_h fX hs h) hX pk_us (fun t hne => pk_un hne) hc)
  · by_cases e : t = nM
    · subst e
      rw [hk_up_s, hk_ug_s]; exact tm
    · rw [hk_up_n e, hk_ug_n e]
      exact sv_tm_le le (I.2.1 t (by omega))
  · have a : hk_H (hk_ug G nM l) (32 + h * 4 + 1) (HC h) = hk_H G (32 + h * 4 + 1) (HC h) := sw_H_congr (fun i _ => hk_ug_n (by omega))
    rw [a, hk_ug_n (by omega)]
    exact I.2.2 h hh
/-- a new theorem -/
theorem sw_thm {Cn : List Nat} {H : List (List Nat)} {A R K S P : Nat → Int32} (I : sw_I T nM TY nH HC G) (RX : hk_R T nM TY nH HC G xA xR xY xP (hk_h xK xS)) (hc : nH < 16) (gd : hk_good T (some (Cn, H, T'))) (le : sv_le T T') (th : sv_th H Cn) (bX : hk_tb T' A R) (hC : hk_h K S (32 + nH * 4) Cn) (hH : hk_hs (hk_h K S) (32 + nH * 4 + 1) H) (fX : hk_fr (fun s => 32 + nH * 4 ≤ s) xK xS K S) (hP : P nH = nI H.length) (hPo : ∀ h, h ≠ nH → P h = xP h) :
    sw_S nM (nH + 1) (nI T'.1, nI 32, nI nM, nI 16, nI (nH + 1), A, R, K, S, xY, P, xE) := by
  obtain ⟨g1, g2, g3, g4, g5⟩ := gd
  have h32 : nM ≤ 32 := I.1.2.1
  have l3 : ∀ h, h < nH → HC h ≤ 3 := fun h hh => (I.1.2.2.2.2.2.2 h hh).1
  refine sw_in (TY := TY) (HC := hk_up HC nH H.length) (G := hk_gh G nH Cn H) ⟨hk_I_thm I.1 g4 g5 hc g1 g2 g3, fun t h => ?_, fun h hh => ?_⟩ (hk_R_thm RX bX (fun s l' hs h => hk_fr_h fX (by omega) h) hC hH hP hPo h32 l3)
  · rw [hk_gh_lo (by omega)]
    exact sv_tm_le le (I.2.1 t h)
  · by_cases e : h = nH
    · subst e
      rw [hk_up_s, hk_gh_0, sw_H_list (fun i _ => hk_gh_p)]; exact th
    · have w := l3 h (by omega)
      have a : hk_H (hk_gh G nH Cn H) (32 + h * 4 + 1) (HC h) = hk_H G (32 + h * 4 + 1) (HC h) := sw_H_congr (fun i hi => hk_gh_lo (by omega))
      rw [hk_up_n e, a, hk_gh_lo (by omega)]
      exact I.2.2 h (by omega)
/-- a refused rule -/
theorem sw_ref {A R K S P : Nat → Int32} (I : sw_I T nM TY nH HC G) (RX : hk_R T nM TY nH HC G xA xR xY xP (hk_h xK xS)) (bX : hk_tb T A R) (fX : hk_fr (fun s => 32 + nH * 4 ≤ s) xK xS K S) (hPo : ∀ h, h ≠ nH → P h = xP h) :
    sw_S nM nH (nI T.1, nI 32, nI nM, nI 16, nI nH, A, R, K, S, xY, P, xE) :=
  sw_in I (hk_R_keep RX bX (fun s l' hs h => hk_fr_h fX (by omega) h) hPo I.1.2.1 (fun h hh => (I.1.2.2.2.2.2.2 h hh).1))
end
theorem sw_var {post : Int32 → St2 → Prop} {nM nH i t : Nat} {u : St2} (h : sw_S nM nH u) (hi : i < 2) (ht4 : t < 4) (k1 : ∀ u', nM < 32 → sw_S (nM + 1) nH u' → post (nI nM) u') (k0 : ∀ u', sw_S nM nH u' → post (-1) u') : wpX_mkVar post u (nI i) (nI t) := by
  obtain ⟨T, TY, HC, G, xA, xR, xK, xS, xY, xP, xE, rfl, I, RX⟩ := h
  have J := I.1
  have h5 := J.1.1
  have hn := J.1.2.1
  have ec : (65536 : Int32) + nI i * 256 + nI t = nI (65536 + i * 256 + t) := by
    rw [show (256 : Int32) = nI 256 from rfl, show (65536 : Int32) = nI 65536 from rfl, pk_mul, nI_add, nI_add]
  refine hk_id1 (by omega) (hk_ok1 (n := T.1) (by omega) (by omega) (br_f (by decide) ?_))
  have h2 := J.2.1
  refine pk_lt nM 32 (fun z => ?_) (fun z => k0 _ (sw_in I RX))
  refine ⟨vp_in_nI (by omega) (by omega), nm_r (e' := upd xS nM 0) (by rw [nI_clamp (by omega)]) ?_⟩
  have f0 : hk_fr (fun s => s = nM) xK xS xK (upd xS nM 0) := hk_fr_s
  refine xa_append (l := []) (c := 65536 + i * 256 + t) (by omega) hk_h0 (by decide) ec (fun K1 S1 q1 f1 => ?_)
  refine xa_keep (by omega) ?_
  have kc : (65536 + i * 256 + t) / 65536 = 1 := by omega
  exact k1 _ z (sw_new I RX z J.1 (sv_le_r T) RX.1 (hk_fr_t f0 f1) q1 (by omega) (hk_gt_1 (hk_ar_k kc (by decide) (by decide)) ⟨by omega, fun y => by omega⟩) (fun _ => by show t = (65536 + i * 256 + t) % 256; omega) (sv_tm_var hi ht4))
theorem sw_eq {post : Int32 → St2 → Prop} {nM nH a : Nat} {u : St2} (h : sw_S nM nH u) (ha4 : a < 4) (k1 : ∀ u', nM < 32 → sw_S (nM + 1) nH u' → post (nI nM) u') (k0 : ∀ u', sw_S nM nH u' → post (-1) u') : wpX_mkEq post u (nI a) := by
  obtain ⟨T, TY, HC, G, xA, xR, xK, xS, xY, xP, xE, rfl, I, RX⟩ := h
  have J := I.1
  have h5 := J.1.1
  have hn := J.1.2.1
  have ha : a < T.1 := by omega
  have h2 := J.2.1
  refine hk_ok1 (n := T.1) (by omega) ha (br_f (by decide) ?_)
  refine pk_lt nM 32 (fun z => ?_) (fun z => k0 _ (sw_in I RX))
  refine xa_internEq RX.1 J.1 ha (fun A R hb => ?_)
  rcases Nat.lt_or_ge 48 (T.1 + hk_nd T a) with w | w
  · rw [hk_xe_nofit J.1 (by omega)] at hb ⊢
    exact br_t rfl (k0 _ (sw_in I ⟨hb, RX.2⟩))
  · obtain ⟨e, j, hj⟩ := hk_xe_fit J.1 ha w
    obtain ⟨i1, i2, i3⟩ := hk_ie_ok J.1 ha
    obtain ⟨f, is1, is2⟩ := sv_ie_is J.1 ha (hk_fit1 w) hj
    have hj2 := i3 j hj
    have hj3 := i1.2.1
    rw [e] at hb ⊢
    rw [hj]
    refine br_f (hk_o_ne (by omega)) ⟨vp_in_nI (by omega) (by omega), nm_r (e' := upd xS nM 0) (by rw [nI_clamp (by omega)]) ?_⟩
    have f0 : hk_fr (fun s => s = nM) xK xS xK (upd xS nM 0) := hk_fr_s
    have ec : (131072 : Int32) + nI a = nI (131072 + a) := nI_add 131072 a
    refine xa_append (l := []) (c := 131072 + a) (by omega) hk_h0 (by decide) ec (fun K1 S1 q1 f1 => ?_)
    refine xa_keep (ty := j) (by omega) ?_
    have kc : (131072 + a) / 65536 = 2 := by omega
    exact k1 _ z (sw_new I RX z i1 (sv_ie_le T a) hb (hk_fr_t f0 f1) q1 hj2.2 (hk_gt_1 (hk_ar_k kc (by decide) (by decide)) ⟨by omega, fun y => by omega⟩) (fun y => by have y : (131072 + a) / 65536 = 1 := y; omega) (sv_tm_eq ha4 is1 is2))
theorem sw_cmb {post : Int32 → St2 → Prop} {nM nH : Nat} {u : St2} (h : sw_S nM nH u) (v1 v2 : Int32) (k1 : ∀ u', nM < 32 → sw_S (nM + 1) nH u' → post (nI nM) u') (k0 : ∀ u', sw_S nM nH u' → post (-1) u') : wpX_mkComb post u v1 v2 := by
  obtain ⟨T, TY, HC, G, xA, xR, xK, xS, xY, xP, xE, rfl, I, RX⟩ := h
  have J := I.1
  have hn := J.1.2.1
  have h2 := J.2.1
  rcases hk_val v1 nM with h1 | ⟨f, hf, rfl⟩
  · exact hk_ok0 h1 (br_t rfl (k0 _ (sw_in I RX)))
  rcases hk_val v2 nM with h1 | ⟨x, hx, rfl⟩
  · exact hk_ok1 (by omega) hf (br_f (by decide) (hk_ok0 h1 (br_t rfl (k0 _ (sw_in I RX)))))
  obtain ⟨tf, gf, -⟩ := J.2.2.2.2.2.1 f hf
  obtain ⟨tx, gx, -⟩ := J.2.2.2.2.2.1 x hx
  obtain ⟨xYf, xhf⟩ := RX.2.1 f hf
  obtain ⟨xYx, xhx⟩ := RX.2.1 x hx
  have lf := gf.2.1
  have lx := gx.2.1
  have cf : (nI f).toNatClampNeg = f := nI_clamp (by omega)
  have cx : (nI x).toNatClampNeg = x := nI_clamp (by omega)
  have ct : (nI (TY f)).toNatClampNeg = TY f := nI_clamp (by omega)
  have V98f : vp_in (nI f) 98 := vp_in_nI (by omega) (by omega)
  have V98x : vp_in (nI x) 98 := vp_in_nI (by omega) (by omega)
  refine hk_ok1 (by omega) hf (br_f (by decide) (hk_ok1 (by omega) hx (br_f (by decide) ?_)))
  refine pk_lt nM 32 (fun z => ?_) (fun z => k0 _ (sw_in I RX))
  refine ⟨vp_in_nI (by omega) (by omega), nm_r (e' := nI (TY f)) (by rw [cf]; exact xYf) ⟨vp_in_nI (by omega) (by omega), ?_⟩⟩
  have ex : xY (nI x).toNatClampNeg = nI (TY x) := by rw [cx]; exact xYx
  rw [ex]
  refine xa_takes RX.1 J.1 tf (by omega) (fun g3 gD => br_f (by decide) ⟨V98f, V98x, ?_⟩) (fun g3 => br_t rfl (k0 _ (sw_in I RX)))
  have cT := (J.1.2.2.2.2.2.2 _ g3 tf).2
  rw [hk_sz xhf (by omega), hk_sz xhx (by omega), show (1 : Int32) = nI 1 from rfl, nI_add, nI_add]
  refine pk_le (1 + (G f).length + (G x).length) 32 (fun w => ?_) (fun w => k0 _ (sw_in I RX))
  refine ⟨vp_in_nI (by omega) (by omega), nm_r (e' := upd xS nM 0) (by rw [nI_clamp (by omega)]) ?_⟩
  have f0 : hk_fr (fun s => s = nM) xK xS xK (upd xS nM 0) := hk_fr_s
  refine xa_append (l := []) (c := 196608) (by omega) hk_h0 (by decide) rfl (fun K1 S1 q1 f1 => ⟨V98f, ?_⟩)
  have f01 := hk_fr_t f0 f1
  have xf1 := hk_fr_h f01 (s := f) (by omega) xhf
  refine xa_all (by omega) (by omega) (by omega) lf q1 xf1 (by decide) (hk_sz xf1 (by omega)) (fun K2 S2 q2 f2 => ⟨V98x, ?_⟩)
  have f02 := hk_fr_t f01 f2
  have xx2 := hk_fr_h f02 (s := x) (by omega) xhx
  refine xa_all (by omega) (by omega) (by omega) lx q2 xx2 (by rw [List.length_append]; show 1 + (G f).length < 90000; omega) (hk_sz xx2 (by omega)) (fun K3 S3 q3 f3 => ⟨vp_in_nI (by omega) (by omega), ?_⟩)
  have f03 := hk_fr_t f02 f3
  dsimp only
  rw [ct, (RX.1 _ g3 tf).2]
  refine xa_keep (by omega) ?_
  exact k1 _ z (sw_new I RX z J.1 (sv_le_r T) RX.1 f03 q3 cT (hk_comb_gt gf gx w) (fun y => by have y : (196608 : Nat) / 65536 = 1 := y; omega) (sv_tm_comb J.1 (I.2.1 f hf) (I.2.1 x hx) g3 gD))
end
section
/-! the law's rules: each outcome holds -/
def sw_go (T : hk_T) : hk_O → Prop
  | none => True
  | some (Cn, H, T') => sv_le T T' ∧ sv_th H Cn
theorem sw_tmt {T : hk_T} {l : List Nat} {t : Nat} (hT : hk_ti T) (h : sv_tm T l t) (h4 : t < 4) : ∀ s, sv_va s → ∃ e, sv_ok e = true ∧ sv_t e = t ∧ sv_v s l e := by
  intro s hs
  obtain ⟨e, e1, e2⟩ := h s hs
  exact ⟨e, e1.1, sv_ty_t hT e1 h4, e2⟩
section
variable {xn xc xm xd xh : Int32} {xA xR xK xS xY xP xE : Nat → Int32} {T : hk_T} {nM nH : Nat} {TY HC : Nat → Nat} {G : Nat → List Nat}
theorem sw_refl (I : sw_I T nM TY nH HC G) (RX : hk_R T nM TY nH HC G xA xR xY xP (hk_h xK xS)) (hH : nH < 16) (v2 v3 v4 : Int32) (h4 : ∀ t, t < nM → v2 = nI t → TY t < 4) :
    ∃ o : hk_O, hk_good T o ∧ sw_go T o ∧ ∀ post : Int32 → St2 → Prop, zx_K post T nM nH (nI 32) (nI 16) xK xS xY xP o → wpX_rule post (nI T.1, nI 32, nI nM, nI 16, nI nH, xA, xR, xK, xS, xY, xP, xE) 1 v2 v3 v4 := by
  have J := I.1
  have h32 := J.2.1
  have hn := J.1.2.1
  have R0 := hk_R_zero J RX
  rcases hk_val v2 nM with h | ⟨t, ht, rfl⟩
  · exact ⟨none, trivial, trivial, fun post k => br_t (nI_lt hH (by omega)) ⟨vp_in_nI (by omega) (by omega), nm_r (e' := upd xP nH 0) (by rw [nI_clamp (by omega)]) (br_f (by decide) (br_f (by decide) (br_t rfl (xr_refl0 RX.1 h (zx_up (fun _ _ _ _ _ _ _ _ _ _ _ _ _ h => h) k)))))⟩⟩
  · obtain ⟨ty, g, -⟩ := J.2.2.2.2.2.1 t ht
    by_cases c : hk_fq T (TY t) (G t) (G t)
    · exact ⟨some (hk_eq (TY t) (G t) (G t), [], (hk_ie T (TY t)).2), hk_fq_good J.1 ty g g.1 g.2.2 c, ⟨sv_ie_le T _, sv_refl (h4 t ht rfl) (sw_tmt J.1 (I.2.1 t ht) (h4 t ht rfl))⟩, fun post k => br_t (nI_lt hH (by omega)) ⟨vp_in_nI (by omega) (by omega), nm_r (e' := upd xP nH 0) (by rw [nI_clamp (by omega)]) (br_f (by decide) (br_f (by decide) (br_t rfl (xr_refl J R0 hH pk_us ht (fun _ => (zx_up (fun _ _ _ _ _ _ _ _ _ _ _ _ _ h => h) k)) (fun n => absurd c n)))))⟩⟩
    · exact ⟨none, trivial, trivial, fun post k => br_t (nI_lt hH (by omega)) ⟨vp_in_nI (by omega) (by omega), nm_r (e' := upd xP nH 0) (by rw [nI_clamp (by omega)]) (br_f (by decide) (br_f (by decide) (br_t rfl (xr_refl J R0 hH pk_us ht (fun c' => absurd c' c) (fun _ => (zx_up (fun _ _ _ _ _ _ _ _ _ _ _ _ _ h => h) k))))))⟩⟩
theorem sw_assume (I : sw_I T nM TY nH HC G) (RX : hk_R T nM TY nH HC G xA xR xY xP (hk_h xK xS)) (hH : nH < 16) (v2 v3 v4 : Int32) :
    ∃ o : hk_O, hk_good T o ∧ sw_go T o ∧ ∀ post : Int32 → St2 → Prop, zx_K post T nM nH (nI 32) (nI 16) xK xS xY xP o → wpX_rule post (nI T.1, nI 32, nI nM, nI 16, nI nH, xA, xR, xK, xS, xY, xP, xE) 7 v2 v3 v4 := by
  have J := I.1
  have h32 := J.2.1
  have hn := J.1.2.1
  have R0 := hk_R_zero J RX
  rcases hk_val v2 nM with h | ⟨t, ht, rfl⟩
  · exact ⟨none, trivial, trivial, fun post k => br_t (nI_lt hH (by omega)) ⟨vp_in_nI (by omega) (by omega), nm_r (e' := upd xP nH 0) (by rw [nI_clamp (by omega)]) (br_f (by decide) (br_f (by decide) (br_f (by decide) (br_f (by decide) (br_f (by decide) (br_f (by decide) (br_f (by decide) (br_f (by decide) (br_t rfl (xr_assume0 RX.1 h (zx_up (fun _ _ _ _ _ _ _ _ _ _ _ _ _ h => h) k)))))))))))⟩⟩
  · obtain ⟨ty, g, -⟩ := J.2.2.2.2.2.1 t ht
    by_cases c : TY t = 0
    · refine ⟨some (G t, [G t], T), ⟨g, fun y hy => by rw [List.mem_singleton.mp hy]; exact g, by show 1 ≤ 3; decide, J.1, Nat.le_refl _⟩, ⟨sv_le_r T, sv_assume (fun s hs => ?_)⟩, fun post k => br_t (nI_lt hH (by omega)) ⟨vp_in_nI (by omega) (by omega), nm_r (e' := upd xP nH 0) (by rw [nI_clamp (by omega)]) (br_f (by decide) (br_f (by decide) (br_f (by decide) (br_f (by decide) (br_f (by decide) (br_f (by decide) (br_f (by decide) (br_f (by decide) (br_t rfl (xr_assume J R0 hH pk_us ht (fun _ => (zx_up (fun _ _ _ _ _ _ _ _ _ _ _ _ _ h => h) k)) (fun n => absurd c n)))))))))))⟩⟩
      obtain ⟨e, e1, e2⟩ := I.2.1 t ht s hs
      rw [c] at e1
      exact ⟨e, sv_ty_b J.1 e1, e2⟩
    · exact ⟨none, trivial, trivial, fun post k => br_t (nI_lt hH (by omega)) ⟨vp_in_nI (by omega) (by omega), nm_r (e' := upd xP nH 0) (by rw [nI_clamp (by omega)]) (br_f (by decide) (br_f (by decide) (br_f (by decide) (br_f (by decide) (br_f (by decide) (br_f (by decide) (br_f (by decide) (br_f (by decide) (br_t rfl (xr_assume J R0 hH pk_us ht (fun c' => absurd c' c) (fun _ => (zx_up (fun _ _ _ _ _ _ _ _ _ _ _ _ _ h => h) k))))))))))))⟩⟩
theorem sw_trans (I : sw_I T nM TY nH HC G) (RX : hk_R T nM TY nH HC G xA xR xY xP (hk_h xK xS)) (hH : nH < 16) (v2 v3 v4 : Int32) :
    ∃ o : hk_O, hk_good T o ∧ sw_go T o ∧ ∀ post : Int32 → St2 → Prop, zx_K post T nM nH (nI 32) (nI 16) xK xS xY xP o → wpX_rule post (nI T.1, nI 32, nI nM, nI 16, nI nH, xA, xR, xK, xS, xY, xP, xE) 2 v2 v3 v4 := by
  have J := I.1
  have h32 := J.2.1
  have hn := J.1.2.1
  have R0 := hk_R_zero J RX
  rcases hk_val v2 nH with h | ⟨a, ha, rfl⟩
  · exact ⟨none, trivial, trivial, fun post k => br_t (nI_lt hH (by omega)) ⟨vp_in_nI (by omega) (by omega), nm_r (e' := upd xP nH 0) (by rw [nI_clamp (by omega)]) (br_f (by decide) (br_f (by decide) (br_f (by decide) (br_t rfl (xz_trans0 RX.1 h (zx_up (fun _ _ _ _ _ _ _ _ _ _ _ _ _ h => h) k))))))⟩⟩
  obtain ⟨lA, gA, gcA⟩ := hk_I_hs J ha
  obtain ⟨sA, pA, cA⟩ := hk_R_hs RX ha
  have tA := I.2.2 a ha
  rcases hk_val v3 nH with h | ⟨b, hb, rfl⟩
  · exact ⟨none, trivial, trivial, fun post k => br_t (nI_lt hH (by omega)) ⟨vp_in_nI (by omega) (by omega), nm_r (e' := upd xP nH 0) (by rw [nI_clamp (by omega)]) (br_f (by decide) (br_f (by decide) (br_f (by decide) (br_t rfl (xz_trans1 RX.1 (by omega) ha cA gcA h (zx_up (fun _ _ _ _ _ _ _ _ _ _ _ _ _ h => h) k))))))⟩⟩
  obtain ⟨lB, gB, gcB⟩ := hk_I_hs J hb
  have tB := I.2.2 b hb
  have gU : ∀ y, y ∈ hk_un [] ((hk_H G (32 + a * 4 + 1) (HC a)) ++ (hk_H G (32 + b * 4 + 1) (HC b))) → hk_gt T.1 y := hk_un_gt hk_nilm (fun y hy => (List.mem_append.mp hy).elim (gA y) (gB y))
  by_cases c : wc_trans (G (32 + a * 4)) (G (32 + b * 4)) (hk_H G (32 + a * 4 + 1) (HC a)) (hk_H G (32 + b * 4 + 1) (HC b))
  · exact ⟨some (vl_trans (G (32 + a * 4)) (G (32 + b * 4)), hk_un [] ((hk_H G (32 + a * 4 + 1) (HC a)) ++ (hk_H G (32 + b * 4 + 1) (HC b))), T), ⟨vg_trans hn gcA gcB c.1 c.2.1 c.2.2.2.1, gU, c.2.2.2.2, J.1, Nat.le_refl _⟩, ⟨sv_le_r T, sv_trans gcA gcB tA tB c.1 c.2.1 c.2.2.1⟩, fun post k => br_t (nI_lt hH (by omega)) ⟨vp_in_nI (by omega) (by omega), nm_r (e' := upd xP nH 0) (by rw [nI_clamp (by omega)]) (br_f (by decide) (br_f (by decide) (br_f (by decide) (br_t rfl (xr_trans J R0 hH pk_us ha hb rfl rfl (fun _ => (zx_up (fun _ _ _ _ _ _ _ _ _ _ _ _ _ h => h) k)) (fun n => absurd c n))))))⟩⟩
  · exact ⟨none, trivial, trivial, fun post k => br_t (nI_lt hH (by omega)) ⟨vp_in_nI (by omega) (by omega), nm_r (e' := upd xP nH 0) (by rw [nI_clamp (by omega)]) (br_f (by decide) (br_f (by decide) (br_f (by decide) (br_t rfl (xr_trans J R0 hH pk_us ha hb rfl rfl (fun c' => absurd c' c) (fun _ => (zx_up (fun _ _ _ _ _ _ _ _ _ _ _ _ _ h => h) k)))))))⟩⟩
theorem sw_comb (I : sw_I T nM TY nH HC G) (RX : hk_R T nM TY nH HC G xA xR xY xP (hk_h xK xS)) (hH : nH < 16) (v2 v3 v4 : Int32) :
    ∃ o : hk_O, hk_good T o ∧ sw_go T o ∧ ∀ post : Int32 → St2 → Prop, zx_K post T nM nH (nI 32) (nI 16) xK xS xY xP o → wpX_rule post (nI T.1, nI 32, nI nM, nI 16, nI nH, xA, xR, xK, xS, xY, xP, xE) 3 v2 v3 v4 := by
  have J := I.1
  have h32 := J.2.1
  have hn := J.1.2.1
  have R0 := hk_R_zero J RX
  rcases hk_val v2 nH with h | ⟨a, ha, rfl⟩
  · exact ⟨none, trivial, trivial, fun post k => br_t (nI_lt hH (by omega)) ⟨vp_in_nI (by omega) (by omega), nm_r (e' := upd xP nH 0) (by rw [nI_clamp (by omega)]) (br_f (by decide) (br_f (by decide) (br_f (by decide) (br_f (by decide) (br_t rfl (xz_comb0 RX.1 h (zx_up (fun _ _ _ _ _ _ _ _ _ _ _ _ _ h => h) k)))))))⟩⟩
  obtain ⟨lA, gA, gcA⟩ := hk_I_hs J ha
  obtain ⟨sA, pA, cA⟩ := hk_R_hs RX ha
  have tA := I.2.2 a ha
  rcases hk_val v3 nH with h | ⟨b, hb, rfl⟩
  · exact ⟨none, trivial, trivial, fun post k => br_t (nI_lt hH (by omega)) ⟨vp_in_nI (by omega) (by omega), nm_r (e' := upd xP nH 0) (by rw [nI_clamp (by omega)]) (br_f (by decide) (br_f (by decide) (br_f (by decide) (br_f (by decide) (br_t rfl (xz_comb1 RX.1 (by omega) ha cA gcA h (zx_up (fun _ _ _ _ _ _ _ _ _ _ _ _ _ h => h) k)))))))⟩⟩
  obtain ⟨lB, gB, gcB⟩ := hk_I_hs J hb
  have tB := I.2.2 b hb
  have gU : ∀ y, y ∈ hk_un [] ((hk_H G (32 + a * 4 + 1) (HC a)) ++ (hk_H G (32 + b * 4 + 1) (HC b))) → hk_gt T.1 y := hk_un_gt hk_nilm (fun y hy => (List.mem_append.mp hy).elim (gA y) (gB y))
  by_cases c : wc_comb T (T.2.2 (hk_c (G (32 + a * 4)) 2 % 256)) (G (32 + a * 4)) (G (32 + b * 4)) (hk_H G (32 + a * 4 + 1) (HC a)) (hk_H G (32 + b * 4 + 1) (HC b))
  · obtain ⟨-, e, -, e2, -⟩ := tA _ sv_va0
    obtain ⟨x, y, q4, -⟩ := sv_eqn sv_va0 gcA.1 c.1 e2
    have q3 : hk_c (G (32 + a * 4)) 2 % 256 = 3 := by have := c.2.2.1; omega
    have qd : hk_c (G (32 + b * 4)) 2 % 256 = 0 := by
      have w := c.2.2.2.1
      rw [q3, J.1.2.2.1] at w
      exact w.symm
    have qc : (T.2.2 (hk_c (G (32 + a * 4)) 2 % 256)) = 0 := by rw [q3]; exact J.1.2.2.2.1
    have th : sv_th (hk_un [] ((hk_H G (32 + a * 4 + 1) (HC a)) ++ (hk_H G (32 + b * 4 + 1) (HC b)))) (vl_comb (T.2.2 (hk_c (G (32 + a * 4)) 2 % 256)) (G (32 + a * 4)) (G (32 + b * 4))) := by
      rw [qc]; exact sv_comb gcA gcB tA tB c.1 c.2.1 q3 qd
    exact ⟨some (vl_comb (T.2.2 (hk_c (G (32 + a * 4)) 2 % 256)) (G (32 + a * 4)) (G (32 + b * 4)), hk_un [] ((hk_H G (32 + a * 4 + 1) (HC a)) ++ (hk_H G (32 + b * 4 + 1) (HC b))), (hk_ie T (T.2.2 (hk_c (G (32 + a * 4)) 2 % 256))).2), vr_combg J gcA gcB gU c, ⟨sv_ie_le T _, th⟩, fun post k => br_t (nI_lt hH (by omega)) ⟨vp_in_nI (by omega) (by omega), nm_r (e' := upd xP nH 0) (by rw [nI_clamp (by omega)]) (br_f (by decide) (br_f (by decide) (br_f (by decide) (br_f (by decide) (br_t rfl (xr_comb J R0 hH pk_us ha hb rfl rfl rfl (fun _ => (zx_up (fun _ _ _ _ _ _ _ _ _ _ _ _ _ h => h) k)) (fun n => absurd c n)))))))⟩⟩
  · exact ⟨none, trivial, trivial, fun post k => br_t (nI_lt hH (by omega)) ⟨vp_in_nI (by omega) (by omega), nm_r (e' := upd xP nH 0) (by rw [nI_clamp (by omega)]) (br_f (by decide) (br_f (by decide) (br_f (by decide) (br_f (by decide) (br_t rfl (xr_comb J R0 hH pk_us ha hb rfl rfl rfl (fun c' => absurd c' c) (fun _ => (zx_up (fun _ _ _ _ _ _ _ _ _ _ _ _ _ h => h) k))))))))⟩⟩
theorem sw_mp (I : sw_I T nM TY nH HC G) (RX : hk_R T nM TY nH HC G xA xR xY xP (hk_h xK xS)) (hH : nH < 16) (v2 v3 v4 : Int32) :
    ∃ o : hk_O, hk_good T o ∧ sw_go T o ∧ ∀ post : Int32 → St2 → Prop, zx_K post T nM nH (nI 32) (nI 16) xK xS xY xP o → wpX_rule post (nI T.1, nI 32, nI nM, nI 16, nI nH, xA, xR, xK, xS, xY, xP, xE) 8 v2 v3 v4 := by
  have J := I.1
  have h32 := J.2.1
  have hn := J.1.2.1
  have R0 := hk_R_zero J RX
  rcases hk_val v2 nH with h | ⟨a, ha, rfl⟩
  · exact ⟨none, trivial, trivial, fun post k => br_t (nI_lt hH (by omega)) ⟨vp_in_nI (by omega) (by omega), nm_r (e' := upd xP nH 0) (by rw [nI_clamp (by omega)]) (br_f (by decide) (br_f (by decide) (br_f (by decide) (br_f (by decide) (br_f (by decide) (br_f (by decide) (br_f (by decide) (br_f (by decide) (br_f (by decide) (br_t rfl (xz_mp0 RX.1 h (zx_up (fun _ _ _ _ _ _ _ _ _ _ _ _ _ h => h) k))))))))))))⟩⟩
  obtain ⟨lA, gA, gcA⟩ := hk_I_hs J ha
  obtain ⟨sA, pA, cA⟩ := hk_R_hs RX ha
  have tA := I.2.2 a ha
  rcases hk_val v3 nH with h | ⟨b, hb, rfl⟩
  · exact ⟨none, trivial, trivial, fun post k => br_t (nI_lt hH (by omega)) ⟨vp_in_nI (by omega) (by omega), nm_r (e' := upd xP nH 0) (by rw [nI_clamp (by omega)]) (br_f (by decide) (br_f (by decide) (br_f (by decide) (br_f (by decide) (br_f (by decide) (br_f (by decide) (br_f (by decide) (br_f (by decide) (br_f (by decide) (br_t rfl (xz_mp1 RX.1 (by omega) ha cA gcA h (zx_up (fun _ _ _ _ _ _ _ _ _ _ _ _ _ h => h) k))))))))))))⟩⟩
  obtain ⟨lB, gB, gcB⟩ := hk_I_hs J hb
  have tB := I.2.2 b hb
  have gU : ∀ y, y ∈ hk_un [] ((hk_H G (32 + a * 4 + 1) (HC a)) ++ (hk_H G (32 + b * 4 + 1) (HC b))) → hk_gt T.1 y := hk_un_gt hk_nilm (fun y hy => (List.mem_append.mp hy).elim (gA y) (gB y))
  by_cases c : wc_mp (G (32 + a * 4)) (G (32 + b * 4)) (hk_H G (32 + a * 4 + 1) (HC a)) (hk_H G (32 + b * 4 + 1) (HC b))
  · exact ⟨some (vl_mp (G (32 + a * 4)), hk_un [] ((hk_H G (32 + a * 4 + 1) (HC a)) ++ (hk_H G (32 + b * 4 + 1) (HC b))), T), ⟨vg_mp gcA c.1, gU, c.2.2, J.1, Nat.le_refl _⟩, ⟨sv_le_r T, sv_mp gcA tA tB c.1 c.2.1⟩, fun post k => br_t (nI_lt hH (by omega)) ⟨vp_in_nI (by omega) (by omega), nm_r (e' := upd xP nH 0) (by rw [nI_clamp (by omega)]) (br_f (by decide) (br_f (by decide) (br_f (by decide) (br_f (by decide) (br_f (by decide) (br_f (by decide) (br_f (by decide) (br_f (by decide) (br_f (by decide) (br_t rfl (xr_mp J R0 hH pk_us ha hb rfl rfl (fun _ => (zx_up (fun _ _ _ _ _ _ _ _ _ _ _ _ _ h => h) k)) (fun n => absurd c n))))))))))))⟩⟩
  · exact ⟨none, trivial, trivial, fun post k => br_t (nI_lt hH (by omega)) ⟨vp_in_nI (by omega) (by omega), nm_r (e' := upd xP nH 0) (by rw [nI_clamp (by omega)]) (br_f (by decide) (br_f (by decide) (br_f (by decide) (br_f (by decide) (br_f (by decide) (br_f (by decide) (br_f (by decide) (br_f (by decide) (br_f (by decide) (br_t rfl (xr_mp J R0 hH pk_us ha hb rfl rfl (fun c' => absurd c' c) (fun _ => (zx_up (fun _ _ _ _ _ _ _ _ _ _ _ _ _ h => h) k)))))))))))))⟩⟩
theorem sw_ded (I : sw_I T nM TY nH HC G) (RX : hk_R T nM TY nH HC G xA xR xY xP (hk_h xK xS)) (hH : nH < 16) (v2 v3 v4 : Int32) :
    ∃ o : hk_O, hk_good T o ∧ sw_go T o ∧ ∀ post : Int32 → St2 → Prop, zx_K post T nM nH (nI 32) (nI 16) xK xS xY xP o → wpX_rule post (nI T.1, nI 32, nI nM, nI 16, nI nH, xA, xR, xK, xS, xY, xP, xE) 9 v2 v3 v4 := by
  have J := I.1
  have h32 := J.2.1
  have hn := J.1.2.1
  have R0 := hk_R_zero J RX
  rcases hk_val v2 nH with h | ⟨a, ha, rfl⟩
  · exact ⟨none, trivial, trivial, fun post k => br_t (nI_lt hH (by omega)) ⟨vp_in_nI (by omega) (by omega), nm_r (e' := upd xP nH 0) (by rw [nI_clamp (by omega)]) (br_f (by decide) (br_f (by decide) (br_f (by decide) (br_f (by decide) (br_f (by decide) (br_f (by decide) (br_f (by decide) (br_f (by decide) (br_f (by decide) (br_f (by decide) (br_t rfl (xz_ded0 RX.1 h (zx_up (fun _ _ _ _ _ _ _ _ _ _ _ _ _ h => h) k)))))))))))))⟩⟩
  obtain ⟨lA, gA, gcA⟩ := hk_I_hs J ha
  obtain ⟨sA, pA, cA⟩ := hk_R_hs RX ha
  have tA := I.2.2 a ha
  rcases hk_val v3 nH with h | ⟨b, hb, rfl⟩
  · exact ⟨none, trivial, trivial, fun post k => br_t (nI_lt hH (by omega)) ⟨vp_in_nI (by omega) (by omega), nm_r (e' := upd xP nH 0) (by rw [nI_clamp (by omega)]) (br_f (by decide) (br_f (by decide) (br_f (by decide) (br_f (by decide) (br_f (by decide) (br_f (by decide) (br_f (by decide) (br_f (by decide) (br_f (by decide) (br_f (by decide) (br_t rfl (xz_ded1 RX.1 (by omega) ha cA gcA h (zx_up (fun _ _ _ _ _ _ _ _ _ _ _ _ _ h => h) k)))))))))))))⟩⟩
  obtain ⟨lB, gB, gcB⟩ := hk_I_hs J hb
  have tB := I.2.2 b hb
  have gU : ∀ y, y ∈ hk_un [] ((hk_H G (32 + a * 4 + 1) (HC a)) ++ (hk_H G (32 + b * 4 + 1) (HC b))) → hk_gt T.1 y := hk_un_gt hk_nilm (fun y hy => (List.mem_append.mp hy).elim (gA y) (gB y))
  by_cases c : wc_ded (G (32 + a * 4)) (G (32 + b * 4)) (hk_H G (32 + a * 4 + 1) (HC a)) (hk_H G (32 + b * 4 + 1) (HC b))
  · have gF : ∀ y, y ∈ vh_ded (G (32 + a * 4)) (G (32 + b * 4)) (hk_H G (32 + a * 4 + 1) (HC a)) (hk_H G (32 + b * 4 + 1) (HC b)) → hk_gt T.1 y := hk_un_gt hk_nilm (fun y hy => (List.mem_append.mp hy).elim (fun z => gA y (List.mem_filter.mp z).1) (fun z => gB y (List.mem_filter.mp z).1))
    have g0 : 0 < T.1 := by have := J.1.1; omega
    exact ⟨some (hk_eq 0 (G (32 + a * 4)) (G (32 + b * 4)), vh_ded (G (32 + a * 4)) (G (32 + b * 4)) (hk_H G (32 + a * 4 + 1) (HC a)) (hk_H G (32 + b * 4 + 1) (HC b)), T), ⟨⟨hk_eq_run (by decide) gcA.1 gcB.1, c.2, hk_eq_gc g0 hn gcA.2.2 gcB.2.2⟩, gF, c.1, J.1, Nat.le_refl _⟩, ⟨sv_le_r T, sv_ded tA tB⟩, fun post k => br_t (nI_lt hH (by omega)) ⟨vp_in_nI (by omega) (by omega), nm_r (e' := upd xP nH 0) (by rw [nI_clamp (by omega)]) (br_f (by decide) (br_f (by decide) (br_f (by decide) (br_f (by decide) (br_f (by decide) (br_f (by decide) (br_f (by decide) (br_f (by decide) (br_f (by decide) (br_f (by decide) (br_t rfl (xr_ded J R0 hH pk_us ha hb rfl rfl (fun _ => (zx_up (fun _ _ _ _ _ _ _ _ _ _ _ _ _ h => h) k)) (fun n => absurd c n)))))))))))))⟩⟩
  · exact ⟨none, trivial, trivial, fun post k => br_t (nI_lt hH (by omega)) ⟨vp_in_nI (by omega) (by omega), nm_r (e' := upd xP nH 0) (by rw [nI_clamp (by omega)]) (br_f (by decide) (br_f (by decide) (br_f (by decide) (br_f (by decide) (br_f (by decide) (br_f (by decide) (br_f (by decide) (br_f (by decide) (br_f (by decide) (br_f (by decide) (br_t rfl (xr_ded J R0 hH pk_us ha hb rfl rfl (fun c' => absurd c' c) (fun _ => (zx_up (fun _ _ _ _ _ _ _ _ _ _ _ _ _ h => h) k))))))))))))))⟩⟩
theorem sw_inst (I : sw_I T nM TY nH HC G) (RX : hk_R T nM TY nH HC G xA xR xY xP (hk_h xK xS)) (hH : nH < 16) (v2 v3 v4 : Int32) :
    ∃ o : hk_O, hk_good T o ∧ sw_go T o ∧ ∀ post : Int32 → St2 → Prop, zx_K post T nM nH (nI 32) (nI 16) xK xS xY xP o → wpX_rule post (nI T.1, nI 32, nI nM, nI 16, nI nH, xA, xR, xK, xS, xY, xP, xE) 10 v2 v3 v4 := by
  have J := I.1
  have h32 := J.2.1
  have hn := J.1.2.1
  have R0 := hk_R_zero J RX
  rcases hk_val v2 nH with h | ⟨a, ha, rfl⟩
  · exact ⟨none, trivial, trivial, fun post k => br_t (nI_lt hH (by omega)) ⟨vp_in_nI (by omega) (by omega), nm_r (e' := upd xP nH 0) (by rw [nI_clamp (by omega)]) (br_f (by decide) (br_f (by decide) (br_f (by decide) (br_f (by decide) (br_f (by decide) (br_f (by decide) (br_f (by decide) (br_f (by decide) (br_f (by decide) (br_f (by decide) (br_f (by decide) (br_t rfl (xz_inst0 RX.1 h (zx_up (fun _ _ _ _ _ _ _ _ _ _ _ _ _ h => h) k))))))))))))))⟩⟩
  obtain ⟨lA, gA, gcA⟩ := hk_I_hs J ha
  have tA := I.2.2 a ha
  rcases hk_val v3 nM with h | ⟨x, hx, rfl⟩
  · exact ⟨none, trivial, trivial, fun post k => br_t (nI_lt hH (by omega)) ⟨vp_in_nI (by omega) (by omega), nm_r (e' := upd xP nH 0) (by rw [nI_clamp (by omega)]) (br_f (by decide) (br_f (by decide) (br_f (by decide) (br_f (by decide) (br_f (by decide) (br_f (by decide) (br_f (by decide) (br_f (by decide) (br_f (by decide) (br_f (by decide) (br_f (by decide) (br_t rfl (xz_inst1 RX.1 (by omega) ha (hk_R_hs RX ha).2.2 gcA h (zx_up (fun _ _ _ _ _ _ _ _ _ _ _ _ _ h => h) k))))))))))))))⟩⟩
  obtain ⟨ty, g, -⟩ := J.2.2.2.2.2.1 x hx
  obtain ⟨xYx, xhx⟩ := RX.2.1 x hx
  rcases hk_val v4 nM with h | ⟨t, ht, rfl⟩
  · exact ⟨none, trivial, trivial, fun post k => br_t (nI_lt hH (by omega)) ⟨vp_in_nI (by omega) (by omega), nm_r (e' := upd xP nH 0) (by rw [nI_clamp (by omega)]) (br_f (by decide) (br_f (by decide) (br_f (by decide) (br_f (by decide) (br_f (by decide) (br_f (by decide) (br_f (by decide) (br_f (by decide) (br_f (by decide) (br_f (by decide) (br_f (by decide) (br_t rfl (xz_inst2 RX.1 (by omega) (by omega) ha hx xhx g h (zx_up (fun _ _ _ _ _ _ _ _ _ _ _ _ _ h => h) k))))))))))))))⟩⟩
  obtain ⟨tyt, gt, -⟩ := J.2.2.2.2.2.1 t ht
  by_cases c : ((hk_c (G x) 0) / 65536 = 1 ∧ TY t = (hk_c (G x) 0) % 256) ∧ wc_inst (G (32 + a * 4)) (G t) (hk_H G (32 + a * 4 + 1) (HC a)) (hk_c (G x) 0)
  · have gI : ∀ y, y ∈ vh_inst (hk_H G (32 + a * 4 + 1) (HC a)) (hk_c (G x) 0) (G t) → hk_gt T.1 y := by
      intro y hy
      obtain ⟨h, hh, rfl⟩ := List.mem_map.mp hy
      exact vg_inst c.1.1 (gA h hh) gt (c.2.2.1 h hh)
    have vI := hk_I_var J hx c.1.1
    have tx := I.2.1 x hx
    rw [vI.1] at tx
    obtain ⟨b1, b2⟩ := sv_tm_vc tx c.1.1
    have ev : (hk_c (G x) 0) = 65536 + (hk_c (G x) 0) / 256 % 256 * 256 + (hk_c (G x) 0) % 256 := by have := c.1.1; omega
    have hu := sw_tmt J.1 (I.2.1 t ht) (show TY t < 4 by rw [c.1.2]; exact b2)
    rw [c.1.2] at hu
    exact ⟨some (hk_sb (G (32 + a * 4)) (hk_c (G x) 0) (G t), hk_un [] (vh_inst (hk_H G (32 + a * 4 + 1) (HC a)) (hk_c (G x) 0) (G t)), T), ⟨vg_inst c.1.1 gcA gt c.2.1, hk_un_gt hk_nilm gI, c.2.2.2, J.1, Nat.le_refl _⟩, ⟨sv_le_r T, sv_inst gcA gA gt ev b1 b2 tA hu⟩, fun post k => br_t (nI_lt hH (by omega)) ⟨vp_in_nI (by omega) (by omega), nm_r (e' := upd xP nH 0) (by rw [nI_clamp (by omega)]) (br_f (by decide) (br_f (by decide) (br_f (by decide) (br_f (by decide) (br_f (by decide) (br_f (by decide) (br_f (by decide) (br_f (by decide) (br_f (by decide) (br_f (by decide) (br_f (by decide) (br_t rfl (xr_inst J R0 hH pk_us ha hx ht rfl rfl (fun _ => (zx_up (fun _ _ _ _ _ _ _ _ _ _ _ _ _ h => h) k)) (fun n => absurd c n))))))))))))))⟩⟩
  · exact ⟨none, trivial, trivial, fun post k => br_t (nI_lt hH (by omega)) ⟨vp_in_nI (by omega) (by omega), nm_r (e' := upd xP nH 0) (by rw [nI_clamp (by omega)]) (br_f (by decide) (br_f (by decide) (br_f (by decide) (br_f (by decide) (br_f (by decide) (br_f (by decide) (br_f (by decide) (br_f (by decide) (br_f (by decide) (br_f (by decide) (br_f (by decide) (br_t rfl (xr_inst J R0 hH pk_us ha hx ht rfl rfl (fun c' => absurd c' c) (fun _ => (zx_up (fun _ _ _ _ _ _ _ _ _ _ _ _ _ h => h) k)))))))))))))))⟩⟩
end
section
variable {xn xc xm xd xh : Int32} {xA xR xK xS xY xP xE : Nat → Int32} {T : hk_T} {nM nH : Nat} {TY HC : Nat → Nat} {G : Nat → List Nat}
theorem sw_fin {post : Int32 → St2 → Prop} {kd v2 v3 v4 : Int32} (I : sw_I T nM TY nH HC G) (RX : hk_R T nM TY nH HC G xA xR xY xP (hk_h xK xS)) (hc : nH < 16) (h : ∃ o : hk_O, hk_good T o ∧ sw_go T o ∧ ∀ post : Int32 → St2 → Prop, zx_K post T nM nH (nI 32) (nI 16) xK xS xY xP o → wpX_rule post (nI T.1, nI 32, nI nM, nI 16, nI nH, xA, xR, xK, xS, xY, xP, xE) kd v2 v3 v4)
    (k1 : ∀ u', nH < 16 → sw_S nM (nH + 1) u' → post (nI nH) u') (k0 : ∀ u', sw_S nM nH u' → post (-1) u') : wpX_rule post (nI T.1, nI 32, nI nM, nI 16, nI nH, xA, xR, xK, xS, xY, xP, xE) kd v2 v3 v4 := by
  obtain ⟨o, g1, g2, g3⟩ := h
  refine g3 post ?_
  cases o with
  | none => exact fun A R K S P E hb f p => k0 _ (sw_ref I RX hb f p)
  | some q =>
    obtain ⟨Cn, H, T'⟩ := q
    exact fun A R K S P E hb h1 h2 f p1 p2 => k1 _ hc (sw_thm I RX hc g1 g2.1 g2.2 hb h1 h2 f p1 p2)
theorem sw_full {post : Int32 → St2 → Prop} {kd v2 v3 v4 : Int32} (I : sw_I T nM TY nH HC G) (RX : hk_R T nM TY nH HC G xA xR xY xP (hk_h xK xS)) (hc : ¬ nH < 16) (k0 : ∀ u', sw_S nM nH u' → post (-1) u') : wpX_rule post (nI T.1, nI 32, nI nM, nI 16, nI nH, xA, xR, xK, xS, xY, xP, xE) kd v2 v3 v4 :=
  br_f (nI_nlt (b := 16) (by omega) (by have := I.1.2.2.2.1; omega)) (k0 _ (sw_in I RX))
end
theorem sw_rule {post : Int32 → St2 → Prop} {nM nH : Nat} {u : St2} {kd : Int32} (h : sw_S nM nH u) (hk : kd = 2 ∨ kd = 3 ∨ kd = 7 ∨ kd = 8 ∨ kd = 9 ∨ kd = 10) (v2 v3 v4 : Int32) (k1 : ∀ u', nH < 16 → sw_S nM (nH + 1) u' → post (nI nH) u') (k0 : ∀ u', sw_S nM nH u' → post (-1) u') : wpX_rule post u kd v2 v3 v4 := by
  obtain ⟨T, TY, HC, G, xA, xR, xK, xS, xY, xP, xE, rfl, I, RX⟩ := h
  by_cases hc : nH < 16
  · rcases hk with rfl | rfl | rfl | rfl | rfl | rfl
    · exact sw_fin I RX hc (sw_trans I RX hc v2 v3 v4) k1 k0
    · exact sw_fin I RX hc (sw_comb I RX hc v2 v3 v4) k1 k0
    · exact sw_fin I RX hc (sw_assume I RX hc v2 v3 v4) k1 k0
    · exact sw_fin I RX hc (sw_mp I RX hc v2 v3 v4) k1 k0
    · exact sw_fin I RX hc (sw_ded I RX hc v2 v3 v4) k1 k0
    · exact sw_fin I RX hc (sw_inst I RX hc v2 v3 v4) k1 k0
  · exact sw_full I RX hc k0
/-- REFL, as the law calls it: only on terms of the types 0 to 3 -/
theorem sw_rfl {A : Prop} {Q : Int32 → St2 → Prop} {nM nH : Nat} {u : St2} (h : sw_S nM nH u) (v2 v3 v4 : Int32) (a : A) (k1 : ∀ u', nH < 16 → sw_S nM (nH + 1) u' → Q (nI nH) u') (k0 : ∀ u', sw_S nM nH u' → Q (-1) u') :
    wpX_termType (fun r => ((r < 0 → A) ∧ (¬ r < 0 → ((3 < r → A) ∧ (¬ 3 < r → wpX_rule Q u 1 v2 v3 v4))))) u v2 := by
  obtain ⟨T, TY, HC, G, xA, xR, xK, xS, xY, xP, xE, rfl, I, RX⟩ := h
  have h32 := I.1.2.1
  have hn := I.1.1.2.1
  rcases hk_val v2 nM with h1 | ⟨t, ht, rfl⟩
  · exact hk_ok0 h1 (br_t rfl (br_t (by decide) a))
  · have ty := (I.1.2.2.2.2.2.1 t ht).1
    refine hk_ok1 (by omega) ht (br_f (by decide) ⟨vp_in_nI (by omega) (by omega), ?_⟩)
    rw [nI_clamp (by omega), (RX.2.1 t ht).1]
    refine br_f (nI_pos (by omega)) (pk_lt 3 (TY t) (fun _ => a) (fun z => ?_))
    by_cases hc : nH < 16
    · refine sw_fin I RX hc (sw_refl I RX hc (nI t) v3 v4 (fun t' ht' e => ?_)) k1 k0
      have : t = t' := (nI_eq (by omega) (by omega)).mp e
      subst this
      omega
    · exact sw_full I RX hc k0
end
section
/-! numbers of the law -/
theorem sw_k16 {c : Nat} (h : c < 524288) : ((nI c).toUInt32 >>> ((16 : Int32).toUInt32 &&& Int32.toUInt32 31)).toInt32 = nI (c / 65536) := pk_ushrN (by omega) 16 16 (by decide)
theorem sw_k8 {c : Nat} (h : c < 524288) : (((nI c).toUInt32 >>> ((8 : Int32).toUInt32 &&& Int32.toUInt32 31)).toInt32) &&& 255 = nI (c / 256 % 256) := by
  rw [pk_ushrN (n := c) (by omega) 8 8 (by decide)]
  exact pk_andN (by omega) 8 (by decide)
theorem sw_k0 {c : Nat} (h : c < 524288) : nI c &&& 255 = nI (c % 256) := pk_andN (by omega) 8 (by decide)
theorem sw_a3 {n : Nat} (h : n < 1024) : nI n &&& 3 = nI (n % 4) := pk_andN (by omega) 2 (by decide)
theorem sw_a1 {n : Nat} (h : n < 1024) : nI n &&& 1 = nI (n % 2) := pk_andN (by omega) 1 (by decide)
theorem sw_s4 {n : Nat} (h : n < 1024) : nI n >>> ((4 : Int32) &&& 31) = nI (n / 16) := pk_shrN (by omega) _ 4 (by decide)
theorem sw_s2 {n : Nat} (h : n < 1024) : nI n >>> ((2 : Int32) &&& 31) = nI (n / 4) := pk_shrN (by omega) _ 2 (by decide)
/-- an assignment: the bits of m -/
def sw_sg (m : Nat) (i t : Nat) : Nat := if t < 3 then m / 2 ^ (i * 5 + t) % 2 else m / 2 ^ (i * 5 + 3) % 4
theorem sw_sg_va (m : Nat) : sv_va (sw_sg m) := by
  intro i t hi ht
  unfold sw_sg
  by_cases h : t < 3
  · rw [if_pos h]
    have a := Nat.mod_lt (m / 2 ^ (i * 5 + t)) (show 0 < 2 by decide)
    generalize m / 2 ^ (i * 5 + t) % 2 = v at a
    refine ⟨by omega, ?_⟩
    unfold sv_ok
    rw [if_pos (by omega)]
    exact decide_eq_true (by omega)
  · rw [if_neg h]
    have a := Nat.mod_lt (m / 2 ^ (i * 5 + 3)) (show 0 < 4 by decide)
    generalize m / 2 ^ (i * 5 + 3) % 4 = v at a
    refine ⟨a, ?_⟩
    unfold sv_ok
    rw [if_neg (by omega), if_pos (by omega)]
theorem sw_sh : ∀ k, k < 16 → ((nI k &&& 31).toBitVec.smod 32).toNat = k := by decide
theorem sw_vv {post : Int32 → Prop} {m i t : Nat} (hm : m < 1024) (hi : i < 2) (ht : t < 4) (k : post (nI (sw_sg m i t))) : wpL_varVal post () (nI m) (nI i) (nI t) := by
  have e5 : nI i * 5 = nI (i * 5) := pk_mul i 5
  refine nm_r e5 ?_
  refine pk_le 3 t (fun z => ?_) (fun z => ?_)
  · have e : nI (i * 5) + 3 = nI (i * 5 + 3) := nI_add _ 3
    have w : m / 2 ^ (i * 5 + 3) < 1024 := Nat.lt_of_le_of_lt (Nat.div_le_self _ _) hm
    rw [e, pk_shrN (n := m) (by omega) _ (i * 5 + 3) (sw_sh _ (by omega)), sw_a3 w]
    unfold sw_sg at k
    rw [if_neg (by omega)] at k
    exact k
  · have w : m / 2 ^ (i * 5 + t) < 1024 := Nat.lt_of_le_of_lt (Nat.div_le_self _ _) hm
    rw [nI_add, pk_shrN (n := m) (by omega) _ (i * 5 + t) (sw_sh _ (by omega)), sw_a1 w]
    unfold sw_sg at k
    rw [if_pos (by omega)] at k
    exact k
/-! the law's comb is sv_cb -/
theorem sw_67 {post : Int32 → Prop} {f t v e : Nat} (hf : f < 48) (ht : t < 4) (hv : v < 16)
    (h : (if f / 16 = 1 then (if t = f / 4 % 4 then some (32 + f / 4 % 4 * 4 + v) else none)
      else if f / 16 = 2 then (if t = f / 4 % 4 then some (if f % 4 = v then 1 else 0) else none)
      else if f / 16 = 0 ∧ f / 4 % 4 = 3 then (if t = 0 then some (f % 4 / 2 ^ v % 2) else none) else none) = some e) (k : post (nI e)) : wL_comb_67 post (nI (f / 16)) (nI (f / 4 % 4)) (nI (f % 4)) (nI t) (nI v) := by
  refine pk_eq (f / 16) 1 (fun z => ?_) (fun z => ?_)
  · rw [if_pos z] at h
    refine pk_eq t (f / 4 % 4) (fun y => ?_) (fun y => ?_)
    · rw [if_pos y] at h
      have h := Option.some.inj h
      have e1 : (32 : Int32) + nI (f / 4 % 4) * 4 + nI v = nI (32 + f / 4 % 4 * 4 + v) := by
        rw [show (32 : Int32) = nI 32 from rfl, show (4 : Int32) = nI 4 from rfl, pk_mul, nI_add, nI_add]
      rw [e1, h]; exact k
    · rw [if_neg y] at h; cases h
  · rw [if_neg z] at h
    refine pk_eq (f / 16) 2 (fun z2 => ?_) (fun z2 => ?_)
    · rw [if_pos z2] at h
      refine pk_eq t (f / 4 % 4) (fun y => ?_) (fun y => ?_)
      · rw [if_pos y] at h
        have h := Option.some.inj h
        refine pk_eq (f % 4) v (fun w => ?_) (fun w => ?_)
        · rw [if_pos w] at h; rw [← h] at k; exact k
        · rw [if_neg w] at h; rw [← h] at k; exact k
      · rw [if_neg y] at h; cases h
    · rw [if_neg z2] at h
      refine pk_eq (f / 16) 0 (fun z3 => ?_) (fun z3 => ?_)
      · refine pk_eq (f / 4 % 4) 3 (fun y => ?_) (fun y => ?_)
        · rw [if_pos ⟨z3, y⟩] at h
          refine pk_eq t 0 (fun w => ?_) (fun w => ?_)
          · rw [if_pos w] at h
            have h := Option.some.inj h
            have w2 : f % 4 / 2 ^ v < 1024 := Nat.lt_of_le_of_lt (Nat.div_le_self _ _) (by omega)
            rw [pk_shrN (n := f % 4) (by omega) _ v (sw_sh _ (by omega)), sw_a1 w2, h]; exact k
          · rw [if_neg w] at h; cases h
        · rw [if_neg (fun w => y w.2)] at h; cases h
      · rw [if_neg (fun w => z3 w.1)] at h; cases h
theorem sw_lc {post : Int32 → Prop} {f x e : Nat} (hf : f < 48) (hx : x < 48) (h : sv_cb f x = some e) (k : post (nI e)) : wpL_comb post () (nI f) (nI x) := by
  have q4 : f / 4 < 1024 := by omega
  have q4x : x / 4 < 1024 := by omega
  refine nm_r (sw_s4 (by omega)) ?_
  refine nm_r (e' := nI (f / 4 % 4)) (by rw [sw_s2 (by omega)]; exact sw_a3 q4) ?_
  refine nm_r (sw_a3 (by omega)) ?_
  refine nm_r (sw_s4 (by omega)) ?_
  refine nm_r (e' := nI (x / 4 % 4)) (by rw [sw_s2 (by omega)]; exact sw_a3 q4x) ?_
  refine nm_r (sw_a3 (by omega)) ?_
  unfold sv_cb sv_ar at h
  refine pk_eq (x / 16) 2 (fun z => ?_) (fun z => ?_)
  · rw [if_pos z] at h
    refine pk_eq (x / 4 % 4) 0 (fun y => ?_) (fun y => ?_)
    · rw [if_pos y] at h
      dsimp only at h
      have m4 : x % 4 < 4 := Nat.mod_lt _ (by decide)
      have ok : x % 4 = 0 ∨ x % 4 = 1 ∨ x % 4 = 2 ∨ x % 4 = 3 := by omega
      have e2 : (1 : Int32) <<< (nI (x % 4) &&& 31) = nI (2 ^ (x % 4)) := by
        rcases ok with w | w | w | w <;> rw [w] <;> decide
      refine nm_r e2 ?_
      have v16 : 2 ^ (x % 4) < 16 := by rcases ok with w | w | w | w <;> rw [w] <;> decide
      exact sw_67 (t := 3) hf (by decide) v16 h k
    · rw [if_neg y] at h; cases h
  · rw [if_neg z] at h
    refine pk_eq (x / 16) 0 (fun y => ?_) (fun y => ?_)
    · rw [if_pos y] at h
      dsimp only at h
      exact sw_67 hf (Nat.mod_lt _ (by decide)) (by omega) h k
    · rw [if_neg y] at h; cases h
end
section
/-! reading a part of a theorem from its end -/
def sw_m : Nat → Int32
  | 0 => -1
  | n + 1 => nI n
theorem sw_m_s : ∀ n, nI n + (-1) = sw_m n
  | 0 => by decide
  | n + 1 => pk_m1 n
theorem sw_m_1 : ∀ n, nI n - 1 = sw_m n
  | 0 => by decide
  | n + 1 => nI_pred n
theorem sw_by {st : List Nat} (h : sv_oks st) : sv_by st := fun e he => by have := sv_ok_lt (h e he); omega
theorem sw_2 {n : Nat} (h : n < 1024) : (lN n).toInt32 = nI n := lN_i n
section
variable {xn xc xm xd xh : Int32} {xA xR xK xS xY xP xE : Nat → Int32} {T : hk_T} {nM nH : Nat} {TY HC : Nat → Nat} {G : Nat → List Nat}
theorem sw_hc {post : Int32 → Prop} {h : Nat} (I : sw_I T nM TY nH HC G) (RX : hk_R T nM TY nH HC G xA xR xY xP (hk_h xK xS)) (hh : h < nH) (k : post (nI (HC h))) : wpX_hypCount post (xn, xc, xm, xd, nI nH, xA, xR, xK, xS, xY, xP, xE) (nI h) := by
  have h4 := I.1.2.2.2.1
  refine hk_ok1 (by omega) hh (br_f (by decide) ⟨vp_in_nI (by omega) (by omega), ?_⟩)
  rw [nI_clamp (by omega), (RX.2.2 h hh).1]; exact k
theorem sw_sz {post : Int32 → Prop} {h p : Nat} (I : sw_I T nM TY nH HC G) (RX : hk_R T nM TY nH HC G xA xR xY xP (hk_h xK xS)) (hh : h < nH) (hp : p ≤ HC h) (k : post (nI (G (32 + h * 4 + p)).length)) : wpX_thmSize post (xn, xc, xm, xd, nI nH, xA, xR, xK, xS, xY, xP, xE) (nI h) (nI p) := by
  have h4 := I.1.2.2.2.1
  obtain ⟨hc, gp⟩ := I.1.2.2.2.2.2.2 h hh
  obtain ⟨xPt, xhp⟩ := RX.2.2 h hh
  unfold wpX_thmSize
  dsimp only
  refine xa_isPart hh (by omega) xPt hc (fun z => absurd rfl (z p (by omega))) (fun j hj e => br_f (by decide) ?_)
  refine xa_part h p ⟨vp_in_nI (by omega) (by omega), ?_⟩
  rw [hk_sz (xhp p hp) (by omega)]; exact k
theorem sw_nd {post : Int32 → Prop} {h p q : Nat} (I : sw_I T nM TY nH HC G) (RX : hk_R T nM TY nH HC G xA xR xY xP (hk_h xK xS)) (hh : h < nH) (hp : p ≤ HC h) (hq : q < (G (32 + h * 4 + p)).length) (k : post (nI (hk_c (G (32 + h * 4 + p)) q))) : wpX_thmNode post (xn, xc, xm, xd, nI nH, xA, xR, xK, xS, xY, xP, xE) (nI h) (nI p) (nI q) := by
  have h4 := I.1.2.2.2.1
  obtain ⟨hc, gp⟩ := I.1.2.2.2.2.2.2 h hh
  obtain ⟨xPt, xhp⟩ := RX.2.2 h hh
  have l32 := (gp p hp).2.1
  unfold wpX_thmNode
  dsimp only
  refine xa_isPart hh (by omega) xPt hc (fun z => absurd rfl (z p (by omega))) (fun j hj e => br_f (by decide) ?_)
  refine xa_part h p ?_
  refine xa_con (xhp p hp) (by omega) (gp p hp) (fun z => absurd rfl (z q hq)) (fun j hj e => ?_)
  have : q = j := (nI_eq (by omega) (by omega)).mp e
  subst this
  exact k
/-- the end of a part: its value -/
theorem sw_757 {post : Int32 → Prop} {L kc ks : Nat} {xs : Nat → Int32} {J322 J393 : Int32 → Prop} {J410 : Int32 → Int32 → Int32 → Prop} {x3 x4 x5 x6 x7 x8 : Int32} {p e : Nat} (he : e < 2) (hp : p < 1024)
    (k0 : p = 0 → J410 x7 (nI e) (nI (p + 1))) (k1 : p ≠ 0 → e = 0 → J410 0 x8 (nI (p + 1))) (k2 : p ≠ 0 → e ≠ 0 → J410 x7 x8 (nI (p + 1))) :
    wL_law_757 post L xs J322 J393 J410 x3 x4 x5 x6 x7 x8 (nI p) (sv_lo [e]) 1 0 kc ks xn xc xm xd xh xA xR xK xS xY xP xE := by
  have et : (sv_lo [e] &&& 255).toInt32 = nI e := by rw [sv_top (by omega)]; exact lN_i e
  have e2 : nI e >>> ((2 : Int32) &&& 31) = 0 := by rw [sw_s2 (by omega), show e / 4 = 0 by omega]; rfl
  have e3 : nI e &&& 3 = nI e := by rw [sw_a3 (by omega), show e % 4 = e by omega]
  refine br_t rfl (br_t rfl (nm_r et (br_t e2 (nm_r e3 ?_))))
  refine pk_eq p 0 (fun z => nm_r (nI_1 _) (k0 z)) (fun z => ?_)
  exact pk_eq e 0 (fun y => nm_r (nI_1 _) (k1 z y)) (fun y => nm_r (nI_1 _) (k2 z y))
/-- a push -/
theorem sw_711 {post : Int32 → Prop} {L kc ks : Nat} {xs : Nat → Int32} {J322 J393 : Int32 → Prop} {J410 : Int32 → Int32 → Int32 → Prop} {J445 : Int64 → Int64 → Int32 → Int32 → Prop} {x3 x4 x5 x6 x7 x8 x9 x16 : Int32} {st : List Nat} {e q : Nat} {y : Int32} (ho : sv_oks st) (he : e < 48) (hl : st.length < 16) (hy : y = nI e)
    (k : J445 (sv_lo (e :: st)) (sv_hi (e :: st)) (nI (e :: st).length) (sw_m q)) : wL_law_711 post L xs J322 J393 J410 J445 x3 x4 x5 x6 x7 x8 x9 (sv_lo st) (sv_hi st) (nI st.length) x16 (nI q) y kc ks xn xc xm xd xh xA xR xK xS xY xP xE := by
  subst hy
  refine br_t (nI_lt (b := 16) hl (by omega)) (nm_r (sv_uhi (by omega) (sw_by ho) hl) (nm_r (e' := sv_lo (e :: st)) ?_ (nm_r (nI_1 _) (nm_r (sw_m_s q) k))))
  rw [nI_l (by omega)]
  exact sv_ulo (by omega) (sw_by ho) hl
theorem sw_445 {post : Int32 → Prop} {L kc ks : Nat} {xs : Nat → Int32} {J322 J393 : Int32 → Prop} {J410 : Int32 → Int32 → Int32 → Prop} {x3 x5 x7 x8 : Int32} {h p m e : Nat} {l : List Nat} (I : sw_I T nM TY nH HC G) (RX : hk_R T nM TY nH HC G xA xR xY xP (hk_h xK xS)) (hh : h < nH) (hp : p ≤ HC h) (el : l = G (32 + h * 4 + p)) (hm : m < 1024) (hv : sv_v (sw_sg m) l e)
    (k : wL_law_757 post L xs J322 J393 J410 x3 (nI h) x5 (nI m) x7 x8 (nI p) (sv_lo [e]) 1 0 kc ks xn xc xm xd (nI nH) xA xR xK xS xY xP xE) :
    ∀ (q : Nat) (st : List Nat), q ≤ l.length → sv_ev (sw_sg m) (l.drop q) [] = some st → wL_law_445 post L xs J322 J393 J410 x3 (nI h) x5 (nI m) x7 x8 (nI p) 0 kc ks xn xc xm xd (nI nH) xA xR xK xS xY xP xE (q + 1) (sv_lo st) (sv_hi st) (nI st.length) (sw_m q) := by
  have va := sw_sg_va m
  have g : hk_gt T.1 l := by rw [el]; exact (I.1.2.2.2.2.2.2 h hh).2 p hp
  have l32 := g.2.1
  intro q
  induction q with
  | zero =>
    intro st hq hst
    rw [List.drop_zero, hv []] at hst
    cases hst
    exact br_t (by decide) k
  | succ q ih =>
    intro st hq hst
    have ql : q < l.length := by omega
    have hc := (hk_gt_c g ql).1
    have full := hv []
    have sp : l = l.take q ++ l.drop q := (List.take_append_drop q l).symm
    rw [sp] at full
    obtain ⟨st', e1, -⟩ := sv_ev_spl full
    have e1' := e1
    rw [hk_c_drop ql] at e1
    obtain ⟨st0, e2, e3⟩ := sv_ev_i e1
    rw [hst] at e2
    cases e2
    obtain ⟨n, r1, r2⟩ := sv_16 g.1 l32 ql
    obtain ⟨vs, w1, w2, w3, w4⟩ := sv_run va r1 e1'
    rw [List.append_nil] at w2
    subst w2
    have lst' : st'.length ≤ 16 := by omega
    have os : sv_oks st := by
      rcases Nat.lt_or_ge (q + 1) l.length with z | z
      · obtain ⟨n2, r3, -⟩ := sv_16 g.1 l32 z
        obtain ⟨vs2, -, v2, v3, -⟩ := sv_run va r3 hst
        rw [List.append_nil] at v2
        rw [v2]; exact v3
      · rw [List.drop_of_length_le (by omega)] at hst
        cases hst
        exact fun y hy => absurd hy List.not_mem_nil
    have ihq := ih st' (by omega) e1'
    refine br_f (nI_pos (by omega)) (br_t rfl ?_)
    refine sw_nd (q := q) I RX hh hp (by rw [← el]; exact ql) ?_
    rw [← el]
    refine br_t (nI_pos' (by omega)) (nm_r (sw_k16 hc) (nm_r (sw_k8 hc) (nm_r (sw_k0 hc) ?_)))
    rcases sv_st_i e3 with ⟨h1, h2, h3, rfl⟩ | ⟨h1, h2, h3, rfl⟩ | ⟨h1, f, x, w, y, rfl, hy, rfl⟩
    · refine pk_eq (hk_c l q / 65536) 1 (fun _ => ?_) (fun z => absurd h1 z)
      refine br_f (nI_nlt (a := 1) (by omega) (by omega)) (br_t (nI_le (b := 3) (by omega) (by omega)) ?_)
      refine sw_vv hm h2 h3 (nm_e ?_)
      have ok := (va _ _ h2 h3)
      refine sw_711 os (by omega) (by rw [List.length_cons] at lst'; omega) ?_ ihq
      rw [show (4 : Int32) = nI 4 from rfl, pk_mul, nI_add]
    · refine pk_eq (hk_c l q / 65536) 1 (fun z => absurd z (by omega)) (fun _ => ?_)
      refine pk_eq (hk_c l q / 65536) 2 (fun _ => ?_) (fun z => absurd h1 z)
      refine pk_eq (hk_c l q / 256 % 256) 0 (fun _ => ?_) (fun z => absurd h2 z)
      refine br_t (nI_le (b := 3) (by omega) (by omega)) (nm_e ?_)
      refine sw_711 os (by omega) (by rw [List.length_cons] at lst'; omega) ?_ ihq
      rw [show (4 : Int32) = nI 4 from rfl, show (16 : Int32) = nI 16 from rfl, pk_mul, nI_add]
    · have k1 : hk_c l q / 65536 = 3 := by rw [h1]
      have k2 : hk_c l q / 256 % 256 = 0 := by rw [h1]
      have k3 : hk_c l q % 256 = 0 := by rw [h1]
      have of' := os f List.mem_cons_self
      have ox := os x (List.mem_cons_of_mem _ List.mem_cons_self)
      have lf := sv_ok_lt of'
      have lx := sv_ok_lt ox
      have ow : sv_oks w := fun z hz => os z (List.mem_cons_of_mem _ (List.mem_cons_of_mem _ hz))
      have oxw : sv_oks (x :: w) := fun z hz => os z (List.mem_cons_of_mem _ hz)
      have ly := sv_ok_lt (sv_cb_ok of' ox hy)
      have lw : w.length < 16 := by rw [List.length_cons] at lst'; omega
      have l1 : (x :: w).length ≤ 16 := by rw [List.length_cons]; omega
      have l2 : (f :: x :: w).length ≤ 16 := by
        obtain ⟨n2, r3, r4⟩ : ∃ n2, hk_run (n2 + 1) (l.drop (q + 1)) = some 0 ∧ n2 + 1 ≤ 16 := by
          rcases Nat.lt_or_ge (q + 1) l.length with z | z
          · exact sv_16 g.1 l32 z
          · rw [List.drop_of_length_le (by omega)] at hst
            cases hst
        obtain ⟨vs2, v1, v2, v3, -⟩ := sv_run va r3 hst
        rw [List.append_nil] at v2
        rw [v2]; omega
      refine pk_eq (hk_c l q / 65536) 1 (fun z => absurd z (by omega)) (fun _ => ?_)
      refine pk_eq (hk_c l q / 65536) 2 (fun z => absurd z (by omega)) (fun _ => ?_)
      refine pk_eq (hk_c l q / 65536) 3 (fun _ => ?_) (fun z => absurd k1 z)
      refine pk_eq (hk_c l q / 256 % 256) 0 (fun _ => ?_) (fun z => absurd k2 z)
      refine pk_eq (hk_c l q % 256) 0 (fun _ => ?_) (fun z => absurd k3 z)
      refine br_t (nI_le (a := 2) (by rw [List.length_cons, List.length_cons]; omega) (by omega)) ?_
      refine nm_r (e' := nI f) (by rw [sv_top (by omega)]; exact lN_i f) ?_
      refine nm_r (sv_plo (sw_by os) l2) (nm_r (sv_phi (sw_by os) l2) ?_)
      refine nm_r (e' := nI (x :: w).length) (pk_m1 _) ?_
      refine nm_r (e' := nI x) (by rw [sv_top (by omega)]; exact lN_i x) ?_
      refine nm_r (sv_plo (sw_by oxw) l1) (nm_r (sv_phi (sw_by oxw) l1) ?_)
      refine nm_r (e' := nI w.length) (pk_m1 _) ?_
      refine sw_lc lf lx hy (br_t (nI_pos' (by omega)) ?_)
      exact sw_711 ow ly lw rfl ihq
end
end
section
/-! the law's loops over parts, assignments, theorems -/
section
variable {xn xc xm xd xh : Int32} {xA xR xK xS xY xP xE : Nat → Int32} {T : hk_T} {nM nH : Nat} {TY HC : Nat → Nat} {G : Nat → List Nat}
/-- the flag and the conclusion before part p -/
def sw_fl (E : Nat → Nat) (p : Nat) (x7 x8 : Int32) : Prop :=
  (p = 0 ∧ x7 = 1) ∨ (1 ≤ p ∧ x8 = nI (E 0) ∧ (x7 = 0 ∨ (x7 = 1 ∧ ∀ q, 1 ≤ q → q < p → E q = 1)))
theorem sw_410 {post : Int32 → Prop} {L kc ks : Nat} {xs : Nat → Int32} {J322 J393 : Int32 → Prop} {x3 : Int32} {h m : Nat} {E : Nat → Nat} (I : sw_I T nM TY nH HC G) (RX : hk_R T nM TY nH HC G xA xR xY xP (hk_h xK xS)) (hh : h < nH) (hm : m < 1024)
    (hE : ∀ p, p ≤ HC h → E p < 2 ∧ sv_v (sw_sg m) (G (32 + h * 4 + p)) (E p)) (hT : (∀ q, 1 ≤ q → q < HC h + 1 → E q = 1) → E 0 = 1) (k : J393 (nI (m + 1))) :
    ∀ (d p : Nat) (x7 x8 : Int32), p + d = HC h + 1 → sw_fl E p x7 x8 → wL_law_410 post L xs J322 J393 x3 (nI h) (nI (HC h)) (nI m) kc ks xn xc xm xd (nI nH) xA xR xK xS xY xP xE (d + 1) x7 x8 (nI p) := by
  obtain ⟨hc, gp⟩ := I.1.2.2.2.2.2.2 h hh
  intro d
  induction d with
  | zero =>
    intro p x7 x8 hp hf
    refine br_t (nI_lt (by omega) (by omega)) ?_
    rcases hf with ⟨z, -⟩ | ⟨z, e8, rfl | ⟨rfl, z2⟩⟩
    · omega
    · exact br_t rfl (nm_r (nI_1 _) k)
    · have e1 : x8 = 1 := by
        rw [e8, hT (fun q h1 h2 => z2 q h1 (by omega))]; rfl
      exact br_f (by decide) (br_t e1 (nm_r (nI_1 _) k))
  | succ d ih =>
    intro p x7 x8 hp hf
    have pH : p ≤ HC h := by omega
    obtain ⟨e1, e2⟩ := hE p pH
    have l32 := (gp p pH).2.1
    refine br_f (nI_nlt (by omega) (by omega)) ?_
    refine sw_sz I RX hh pH (nm_r (sw_m_1 _) ⟨(G (32 + h * 4 + p)).length + 1, ?_⟩)
    have st0 : sv_ev (sw_sg m) ((G (32 + h * 4 + p)).drop (G (32 + h * 4 + p)).length) [] = some [] := by rw [List.drop_of_length_le (Nat.le_refl _)]; rfl
    refine sw_445 I RX hh pH rfl hm e2 ?_ _ [] (Nat.le_refl _) st0
    refine sw_757 e1 (by omega) (fun z => ih (p + 1) _ _ (by omega) ?_) (fun z y => ih (p + 1) _ _ (by omega) ?_) (fun z y => ih (p + 1) _ _ (by omega) ?_)
    · rcases hf with ⟨z0, rfl⟩ | ⟨z0, -⟩
      · subst z0
        exact Or.inr ⟨by omega, rfl, Or.inr ⟨rfl, fun q h1 h2 => by omega⟩⟩
      · omega
    · rcases hf with ⟨z0, -⟩ | ⟨z0, e8, -⟩
      · exact absurd z0 z
      · exact Or.inr ⟨by omega, e8, Or.inl rfl⟩
    · rcases hf with ⟨z0, -⟩ | ⟨z0, e8, z1 | ⟨z1, z2⟩⟩
      · exact absurd z0 z
      · exact Or.inr ⟨by omega, e8, Or.inl z1⟩
      · refine Or.inr ⟨by omega, e8, Or.inr ⟨z1, fun q h1 h2 => ?_⟩⟩
        by_cases w : q = p
        · subst w; omega
        · exact z2 q h1 (by omega)
/-- what the parts of a theorem that holds are worth -/
theorem sw_val {h : Nat} (I : sw_I T nM TY nH HC G) (hh : h < nH) (m : Nat) : ∃ E : Nat → Nat, (∀ p, p ≤ HC h → E p < 2 ∧ sv_v (sw_sg m) (G (32 + h * 4 + p)) (E p)) ∧ ((∀ q, 1 ≤ q → q < HC h + 1 → E q = 1) → E 0 = 1) := by
  obtain ⟨a1, c, c1, c2, c3⟩ := I.2.2 h hh (sw_sg m) (sw_sg_va m)
  have ex : ∀ p, ∃ e, p ≤ HC h → e < 2 ∧ sv_v (sw_sg m) (G (32 + h * 4 + p)) e := by
    intro p
    by_cases z : p ≤ HC h
    · cases p with
      | zero => exact ⟨c, fun _ => ⟨c1, by rw [Nat.add_zero]; exact c2⟩⟩
      | succ i =>
        have il : i < (hk_H G (32 + h * 4 + 1) (HC h)).length := by rw [hk_H_len]; omega
        obtain ⟨e, e1, e2⟩ := a1 _ (hk_ix_mem il)
        rw [hk_H_gd (by omega), show 32 + h * 4 + 1 + i = 32 + h * 4 + (i + 1) by omega] at e2
        exact ⟨e, fun _ => ⟨e1, e2⟩⟩
    · exact ⟨0, fun y => absurd y z⟩
  obtain ⟨E, hE⟩ := Classical.axiomOfChoice ex
  refine ⟨E, hE, fun H => ?_⟩
  have e0 := (hE 0 (Nat.zero_le _)).2
  rw [Nat.add_zero] at e0
  rw [sv_v_u e0 c2]
  refine c3 (fun y hy => ?_)
  obtain ⟨i, hi, rfl⟩ := hk_H_mem hy
  have w := (hE (i + 1) (by omega)).2
  rw [H (i + 1) (by omega) (by omega)] at w
  rw [show 32 + h * 4 + 1 + i = 32 + h * 4 + (i + 1) by omega]; exact w
theorem sw_393 {post : Int32 → Prop} {L kc ks : Nat} {xs : Nat → Int32} {J322 : Int32 → Prop} {x3 : Int32} {h : Nat} (I : sw_I T nM TY nH HC G) (RX : hk_R T nM TY nH HC G xA xR xY xP (hk_h xK xS)) (hh : h < nH) (k : J322 (nI (h + 1))) :
    ∀ (d m : Nat), m + d = 1024 → wL_law_393 post L xs J322 x3 (nI h) (nI (HC h)) kc ks xn xc xm xd (nI nH) xA xR xK xS xY xP xE (d + 1) (nI m) := by
  intro d
  induction d with
  | zero =>
    intro m hm
    exact br_t (nI_le (a := 1024) (by omega) (by omega)) (nm_r (nI_1 _) k)
  | succ d ih =>
    intro m hm
    obtain ⟨E, hE, hT⟩ := sw_val I hh m
    refine br_f (nI_ge (b := 1024) (by omega) (by omega)) ⟨HC h + 1 + 1, ?_⟩
    exact sw_410 I RX hh (by omega) hE hT (ih (m + 1) (by omega)) (HC h + 1) 0 1 0 (by omega) (Or.inl ⟨rfl, rfl⟩)
theorem sw_352 {post : Int32 → Prop} {L kc ks : Nat} {xs : Nat → Int32} {J322 : Int32 → Prop} {x3 : Int32} {h : Nat} (I : sw_I T nM TY nH HC G) (RX : hk_R T nM TY nH HC G xA xR xY xP (hk_h xK xS)) (hh : h < nH) (k : J322 (nI (h + 1))) :
    ∀ (d p : Nat), p + d = HC h + 1 → wL_law_352 post L xs J322 x3 (nI h) (nI (HC h)) kc ks xn xc xm xd (nI nH) xA xR xK xS xY xP xE (d + 1) (nI p) := by
  obtain ⟨hc, gp⟩ := I.1.2.2.2.2.2.2 h hh
  intro d
  induction d with
  | zero =>
    intro p hp
    exact br_t (nI_lt (by omega) (by omega)) ⟨1024 + 1, sw_393 I RX hh k 1024 0 (by omega)⟩
  | succ d ih =>
    intro p hp
    have g := gp p (by omega)
    have l32 := g.2.1
    have l0 := hk_gt_pos g
    refine br_f (nI_nlt (by omega) (by omega)) ?_
    refine sw_sz I RX hh (by omega) ?_
    exact br_f (nI_nlt (b := 1) (by omega) (by omega)) (br_t (nI_le (b := 32) l32 (by omega)) (nm_r (nI_1 _) (ih (p + 1) (by omega))))
theorem sw_322 {post : Int32 → Prop} {L kc ks : Nat} {xs : Nat → Int32} (I : sw_I T nM TY nH HC G) (RX : hk_R T nM TY nH HC G xA xR xY xP (hk_h xK xS)) (k : post 1) :
    ∀ (d h : Nat), h + d = nH → wL_law_322 post L xs (nI nH) kc ks xn xc xm xd (nI nH) xA xR xK xS xY xP xE (d + 1) (nI h) := by
  have h16 : nH ≤ 16 := I.1.2.2.2.1
  intro d
  induction d with
  | zero =>
    intro h hd
    exact br_t (nI_le (by omega) (by omega)) k
  | succ d ih =>
    intro h hd
    have hh : h < nH := by omega
    have hc := (I.1.2.2.2.2.2.2 h hh).1
    refine br_f (nI_ge (by omega) (by omega)) ?_
    refine sw_hc I RX hh ?_
    refine br_f (nI_pos (by omega)) (br_t (nI_le (b := 3) hc (by omega)) ⟨HC h + 1 + 1, ?_⟩)
    exact sw_352 I RX hh (ih (h + 1) (by omega)) (HC h + 1) 0 (by omega)
end
end
section
/-! the law's first loop, and the law -/
theorem sw_cell {post : Int32 → Prop} {L : Nat} {xs : Nat → Int32} {j : Nat} {y : Int32} (hL : L < 1000) (hj : j < 1000000) (hy : y = nI j) (k : ∀ r, post r) : wpL_cell post L xs () y := by
  subst hy
  exact pk_le L j (fun _ => k 0) (fun z => ⟨vp_in_nI z (by omega), k _⟩)
theorem sw_pk {post : Int32 → Prop} (v w : Int32) (k : ∀ r, post r) : wpL_pick post () v w := by
  refine br_c (fun z => ?_) (fun _ => k 0)
  have n0 : ¬ w = 0 := fun e => by rw [e] at z; exact absurd z (by decide)
  exact ⟨n0, n0, k _⟩
theorem sw_rem4 (v : Int32) : ∃ j : Nat, j < 4 ∧ ((v - v / 4 * 4) + 4) - ((v - v / 4 * 4) + 4) / 4 * 4 = nI j := by
  have t : (v - v / 4 * 4).toInt = v.toInt.tmod 4 := rem_toInt v 4
  have b := tmod_bounds (a := v.toInt) (M := 4) (by decide)
  generalize v - v / 4 * 4 = r at t ⊢
  have e4 : (4 : Int32).toInt = 4 := by decide
  have s : (r + 4).toInt = r.toInt + 4 := by
    rw [Int32.toInt_add, e4]
    exact Int.bmod_eq_of_le (by omega) (by omega)
  have n0 : ¬ r + 4 < 0 := by
    rw [Int32.lt_iff_toInt_lt]
    have : (0 : Int32).toInt = 0 := by decide
    omega
  obtain ⟨j, hj, e⟩ := nI_of n0
  have j8 : (j : Int) < 8 := by
    rw [e, nI_toInt hj] at s; omega
  rw [e]
  exact ⟨j % 4, Nat.mod_lt _ (by decide), pk_rem (d := 4) hj (by omega) (by omega)⟩
theorem sw_pk4 {post : Int32 → Prop} (v : Int32) (k : ∀ j, j < 4 → post (nI j)) : wpL_pick post () v 4 := by
  obtain ⟨j, hj, e⟩ := sw_rem4 v
  refine br_t (by decide) ⟨by decide, by decide, ?_⟩
  rw [e]; exact k j hj
theorem sw_and1 (v : Int32) : ∃ i, i < 2 ∧ v &&& 1 = nI i := pk_andE v 1 (by decide)
theorem sw_kd {post : Int32 → Prop} (v : Int32) (k : ∀ r : Int32, r = 1 ∨ r = 2 ∨ r = 3 ∨ r = 7 ∨ r = 8 ∨ r = 9 ∨ r = 10 → post r) : wpL_kindOf post () v :=
  br_c (fun _ => k 1 (by decide)) (fun _ => br_c (fun _ => k 2 (by decide)) (fun _ => br_c (fun _ => k 3 (by decide)) (fun _ => br_c (fun _ => k 7 (by decide)) (fun _ => br_c (fun _ => k 8 (by decide)) (fun _ => br_c (fun _ => k 9 (by decide)) (fun _ => k 10 (by decide)))))))
section
variable {xn xc xm xd xh : Int32} {xA xR xK xS xY xP xE : Nat → Int32}
theorem sw_exit {L kc ks nM nH : Nat} {xs : Nat → Int32} (h : sw_S nM nH (xn, xc, xm, xd, xh, xA, xR, xK, xS, xY, xP, xE)) : ∃ n, wL_law_322 (fun r => r = 1) L xs (nI nH) kc ks xn xc xm xd xh xA xR xK xS xY xP xE n 0 := by
  obtain ⟨T, TY, HC, G, zA, zR, zK, zS, zY, zP, zE, e, I, RX⟩ := h
  cases e
  exact ⟨nH + 1, sw_322 (post := fun r => r = 1) I RX rfl nH 0 (by omega)⟩
end
theorem sw_19 {L kc ks : Nat} {xs : Nat → Int32} (hL : L ≤ 260) : ∀ (d i nM nH : Nat) (xn xc xm xd xh : Int32) (xA xR xK xS xY xP xE : Nat → Int32), L ≤ i + d → i ≤ 1000 → sw_S nM nH (xn, xc, xm, xd, xh, xA, xR, xK, xS, xY, xP, xE) → wL_law_19 (fun r => r = 1) L xs kc ks (d + 1) (nI nM) (nI nH) (nI i) xn xc xm xd xh xA xR xK xS xY xP xE := by
  intro d
  induction d with
  | zero =>
    intro i nM nH xn xc xm xd xh xA xR xK xS xY xP xE hi hi2 h
    exact br_t (nI_le (by omega) (by omega)) (sw_exit h)
  | succ d ih =>
    intro i nM nH xn xc xm xd xh xA xR xK xS xY xP xE hi hi2 h
    refine pk_le L i (fun z => sw_exit h) (fun z => ?_)
    have e4 : nI i + 4 = nI (i + 4) := nI_add i 4
    have nx : ∀ (nM nH : Nat) (xn xc xm xd xh : Int32) (xA xR xK xS xY xP xE : Nat → Int32), sw_S nM nH (xn, xc, xm, xd, xh, xA, xR, xK, xS, xY, xP, xE) → wL_law_19 (fun r => r = 1) L xs kc ks (d + 1) (nI nM) (nI nH) (nI (i + 4)) xn xc xm xd xh xA xR xK xS xY xP xE :=
      fun nM nH xn xc xm xd xh xA xR xK xS xY xP xE h => ih (i + 4) nM nH xn xc xm xd xh xA xR xK xS xY xP xE (by omega) (by omega) h
    have made : ∀ (x10 : Int32) (xn xc xm xd xh : Int32) (xA xR xK xS xY xP xE : Nat → Int32), (x10 = -1 ∧ sw_S nM nH (xn, xc, xm, xd, xh, xA, xR, xK, xS, xY, xP, xE)) ∨ (x10 = nI nH ∧ nH < 16 ∧ sw_S nM (nH + 1) (xn, xc, xm, xd, xh, xA, xR, xK, xS, xY, xP, xE)) → wL_law_305 (fun r => r = 1) L xs (wL_law_19 (fun r => r = 1) L xs kc ks (d + 1)) (nI nM) (nI nH) (nI i) x10 kc ks xn xc xm xd xh xA xR xK xS xY xP xE := by
      intro x10 xn xc xm xd xh xA xR xK xS xY xP xE hx
      rcases hx with ⟨rfl, hx⟩ | ⟨rfl, h16, hx⟩
      · exact br_t (by decide) (nm_r e4 (nx _ _ _ _ _ _ _ _ _ _ _ _ _ _ hx))
      · exact br_f (nI_pos (by omega)) (nm_r (nI_1 _) (nm_r e4 (nx _ _ _ _ _ _ _ _ _ _ _ _ _ _ hx)))
    refine sw_cell (j := i) (by omega) (by omega) rfl (fun r97 => ?_)
    refine sw_pk _ _ (fun r98 => ?_)
    refine sw_cell (j := i + 1) (by omega) (by omega) (nI_add i 1) (fun r99 => ?_)
    refine sw_cell (j := i + 2) (by omega) (by omega) (nI_add i 2) (fun r100 => ?_)
    refine sw_cell (j := i + 3) (by omega) (by omega) (nI_add i 3) (fun r101 => ?_)
    refine br_c (fun _ => ?_) (fun _ => br_c (fun _ => ?_) (fun _ => br_c (fun _ => ?_) (fun _ => ?_)))
    · refine sw_pk4 _ (fun t ht => ?_)
      obtain ⟨j, hj, ej⟩ := sw_and1 r99
      rw [ej]
      refine sw_var h hj ht (fun u' hz h' => ?_) (fun u' h' => ?_)
      · obtain ⟨b1, b2, b3, b4, b5, b6, b7, b8, b9, b10, b11, b12⟩ := u'
        exact br_f (nI_pos (by omega)) (nm_r (nI_1 _) (nm_r e4 (nx _ _ _ _ _ _ _ _ _ _ _ _ _ _ h')))
      · obtain ⟨b1, b2, b3, b4, b5, b6, b7, b8, b9, b10, b11, b12⟩ := u'
        exact br_t (by decide) (nm_r e4 (nx _ _ _ _ _ _ _ _ _ _ _ _ _ _ h'))
    · refine sw_pk4 _ (fun t ht => ?_)
      refine sw_eq h ht (fun u' hz h' => ?_) (fun u' h' => ?_)
      · obtain ⟨b1, b2, b3, b4, b5, b6, b7, b8, b9, b10, b11, b12⟩ := u'
        exact br_f (nI_pos (by omega)) (nm_r (nI_1 _) (nm_r e4 (nx _ _ _ _ _ _ _ _ _ _ _ _ _ _ h')))
      · obtain ⟨b1, b2, b3, b4, b5, b6, b7, b8, b9, b10, b11, b12⟩ := u'
        exact br_t (by decide) (nm_r e4 (nx _ _ _ _ _ _ _ _ _ _ _ _ _ _ h'))
    · refine sw_pk _ _ (fun r232 => ?_)
      refine sw_pk _ _ (fun r233 => ?_)
      refine sw_cmb h r232 r233 (fun u' hz h' => ?_) (fun u' h' => ?_)
      · obtain ⟨b1, b2, b3, b4, b5, b6, b7, b8, b9, b10, b11, b12⟩ := u'
        exact br_f (nI_pos (by omega)) (nm_r (nI_1 _) (nm_r e4 (nx _ _ _ _ _ _ _ _ _ _ _ _ _ _ h')))
      · obtain ⟨b1, b2, b3, b4, b5, b6, b7, b8, b9, b10, b11, b12⟩ := u'
        exact br_t (by decide) (nm_r e4 (nx _ _ _ _ _ _ _ _ _ _ _ _ _ _ h'))
    · refine sw_pk _ _ (fun r105 => ?_)
      refine sw_kd _ (fun r106 hr => ?_)
      refine br_c (fun e1 => ?_) (fun n1 => br_c (fun e7 => ?_) (fun n7 => br_c (fun e10 => ?_) (fun n10 => ?_)))
      · subst e1
        refine sw_pk _ _ (fun r201 => ?_)
        refine sw_rfl h r201 0 0 (made (-1) _ _ _ _ _ _ _ _ _ _ _ _ (Or.inl ⟨rfl, h⟩)) (fun u' hz h' => ?_) (fun u' h' => ?_)
        · obtain ⟨b1, b2, b3, b4, b5, b6, b7, b8, b9, b10, b11, b12⟩ := u'
          exact made _ _ _ _ _ _ _ _ _ _ _ _ _ (Or.inr ⟨rfl, hz, h'⟩)
        · obtain ⟨b1, b2, b3, b4, b5, b6, b7, b8, b9, b10, b11, b12⟩ := u'
          exact made _ _ _ _ _ _ _ _ _ _ _ _ _ (Or.inl ⟨rfl, h'⟩)
      · have hk : r106 = 2 ∨ r106 = 3 ∨ r106 = 7 ∨ r106 = 8 ∨ r106 = 9 ∨ r106 = 10 := hr.resolve_left n1
        refine sw_pk _ _ (fun r173 => ?_)
        refine sw_rule h hk r173 0 0 (fun u' hz h' => ?_) (fun u' h' => ?_)
        · obtain ⟨b1, b2, b3, b4, b5, b6, b7, b8, b9, b10, b11, b12⟩ := u'
          exact made _ _ _ _ _ _ _ _ _ _ _ _ _ (Or.inr ⟨rfl, hz, h'⟩)
        · obtain ⟨b1, b2, b3, b4, b5, b6, b7, b8, b9, b10, b11, b12⟩ := u'
          exact made _ _ _ _ _ _ _ _ _ _ _ _ _ (Or.inl ⟨rfl, h'⟩)
      · have hk : r106 = 2 ∨ r106 = 3 ∨ r106 = 7 ∨ r106 = 8 ∨ r106 = 9 ∨ r106 = 10 := hr.resolve_left n1
        refine sw_pk _ _ (fun r143 => ?_)
        refine sw_pk _ _ (fun r144 => ?_)
        refine sw_pk _ _ (fun r145 => ?_)
        refine sw_rule h hk r143 r144 r145 (fun u' hz h' => ?_) (fun u' h' => ?_)
        · obtain ⟨b1, b2, b3, b4, b5, b6, b7, b8, b9, b10, b11, b12⟩ := u'
          exact made _ _ _ _ _ _ _ _ _ _ _ _ _ (Or.inr ⟨rfl, hz, h'⟩)
        · obtain ⟨b1, b2, b3, b4, b5, b6, b7, b8, b9, b10, b11, b12⟩ := u'
          exact made _ _ _ _ _ _ _ _ _ _ _ _ _ (Or.inl ⟨rfl, h'⟩)
      · have hk : r106 = 2 ∨ r106 = 3 ∨ r106 = 7 ∨ r106 = 8 ∨ r106 = 9 ∨ r106 = 10 := hr.resolve_left n1
        refine sw_pk _ _ (fun r110 => ?_)
        refine sw_pk _ _ (fun r111 => ?_)
        refine sw_rule h hk r110 r111 0 (fun u' hz h' => ?_) (fun u' h' => ?_)
        · obtain ⟨b1, b2, b3, b4, b5, b6, b7, b8, b9, b10, b11, b12⟩ := u'
          exact made _ _ _ _ _ _ _ _ _ _ _ _ _ (Or.inr ⟨rfl, hz, h'⟩)
        · obtain ⟨b1, b2, b3, b4, b5, b6, b7, b8, b9, b10, b11, b12⟩ := u'
          exact made _ _ _ _ _ _ _ _ _ _ _ _ _ (Or.inl ⟨rfl, h'⟩)
theorem sw_cl (x : Int32) (lo hi : Nat) {P : Int32 → Prop} (h1 : nI lo ≤ x) (h2 : x ≤ nI hi) (k : P x) : wpX_clamp P () x (nI lo) (nI hi) := br_t h1 (br_t h2 k)
theorem i_vc (xs : Nat → Int32) (L : Nat) (hL : L ≤ 260) : wpL_law (fun r => r = 1) L xs := by
  refine ⟨7, 3410, by decide, by decide, ?_⟩
  refine ⟨by decide, by decide, by decide, by decide, by decide, by decide, by decide, by decide, by decide, by decide, by decide, by decide, by decide, by decide, ?_⟩
  refine sw_cl 32 8 32 (by decide) (by decide) ?_
  refine sw_cl 16 4 16 (by decide) (by decide) ?_
  refine nm_e (nm_e (nm_e (nm_e ⟨L + 1, ?_⟩)))
  refine sw_19 hL L 0 0 0 _ _ _ _ _ _ _ _ _ _ _ _ (by omega) (by omega) ?_
  refine ⟨(5, fun _ => 0, fun i => if i = 4 then 3 else 0), fun _ => 0, fun _ => 0, fun _ => [], _, _, _, _, _, _, _, rfl, ⟨?_, fun t ht => absurd ht (Nat.not_lt_zero t), fun h hh => absurd hh (Nat.not_lt_zero h)⟩, fun i h3 hi => ?_, fun t ht => absurd ht (Nat.not_lt_zero t), fun h hh => absurd hh (Nat.not_lt_zero h)⟩
  · refine ⟨⟨by decide, by decide, rfl, rfl, rfl, rfl, fun i h3 hi => ⟨by show 0 < 5; decide, ?_⟩⟩, by omega, by omega, by omega, by omega, fun t ht => absurd ht (Nat.not_lt_zero t), fun h hh => absurd hh (Nat.not_lt_zero h)⟩
    show (if i = 4 then 3 else 0) < 5
    split <;> decide
  · have hi : i < 5 := hi
    have : i = 3 ∨ i = 4 := by omega
    rcases this with rfl | rfl
    · exact ⟨rfl, rfl⟩
    · exact ⟨rfl, rfl⟩
end
