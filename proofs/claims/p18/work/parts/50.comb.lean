/-! numbers of the law -/
theorem sw_k16 {c : Nat} (h : c < 524288) : ((nI c).toUInt32 >>> ((16 : Int32).toUInt32 &&& Int32.toUInt32 31)).toInt32 = nI (c / 65536) := pk_ushrN (by omega) 16 16 (by decide)
theorem sw_k8 {c : Nat} (h : c < 524288) : (((nI c).toUInt32 >>> ((8 : Int32).toUInt32 &&& Int32.toUInt32 31)).toInt32) &&& 255 = nI (c / 256 % 256) := by
  rw [pk_ushrN (n := c) (by omega) 8 8 (by decide)]
  exact pk_andN (by omega) 8 (by decide)
theorem sw_k0 {c : Nat} (h : c < 524288) : nI c &&& 255 = nI (c % 256) := pk_andN (by omega) 8 (by decide)
theorem sw_a3 {n : Nat} (h : n < 1024) : nI n &&& 3 = nI (n % 4) := pk_andN (by omega) 2 (by decide)
theorem sw_a1 {n : Nat} (h : n < 1024) : nI n &&& 1 = nI (n % 2) := pk_andN (by omega) 1 (by decide)
theorem sw_s4 {n : Nat} (h : n < 1024) : nI n >>> ((4 : Int32) &&& 31) = nI (n / 16) := pk_shrN (by omega) _ 4 (by decide)
theorem sw_s2 {n : Nat} (h : n < 1024) : nI n >>> ((2 : Int32) &&& 31) = nI (n / 4) := pk_shrN (by omega) _ 2 (by decide)
/-- an assignment: the bits of m -/
def sw_sg (m : Nat) (i t : Nat) : Nat := if t < 3 then m / 2 ^ (i * 5 + t) % 2 else m / 2 ^ (i * 5 + 3) % 4
theorem sw_sg_va (m : Nat) : sv_va (sw_sg m) := by
  intro i t hi ht
  unfold sw_sg
  by_cases h : t < 3
  · rw [if_pos h]
    have a := Nat.mod_lt (m / 2 ^ (i * 5 + t)) (show 0 < 2 by decide)
    generalize m / 2 ^ (i * 5 + t) % 2 = v at a
    refine ⟨by omega, ?_⟩
    unfold sv_ok
    rw [if_pos (by omega)]
    exact decide_eq_true (by omega)
  · rw [if_neg h]
    have a := Nat.mod_lt (m / 2 ^ (i * 5 + 3)) (show 0 < 4 by decide)
    generalize m / 2 ^ (i * 5 + 3) % 4 = v at a
    refine ⟨a, ?_⟩
    unfold sv_ok
    rw [if_neg (by omega), if_pos (by omega)]
theorem sw_sh : ∀ k, k < 16 → ((nI k &&& 31).toBitVec.smod 32).toNat = k := by decide
theorem sw_vv {post : Int32 → Prop} {m i t : Nat} (hm : m < 1024) (hi : i < 2) (ht : t < 4) (k : post (nI (sw_sg m i t))) : wpL_varVal post () (nI m) (nI i) (nI t) := by
  have e5 : nI i * 5 = nI (i * 5) := pk_mul i 5
  refine nm_r e5 ?_
  refine pk_le 3 t (fun z => ?_) (fun z => ?_)
  · have e : nI (i * 5) + 3 = nI (i * 5 + 3) := nI_add _ 3
    have w : m / 2 ^ (i * 5 + 3) < 1024 := Nat.lt_of_le_of_lt (Nat.div_le_self _ _) hm
    rw [e, pk_shrN (n := m) (by omega) _ (i * 5 + 3) (sw_sh _ (by omega)), sw_a3 w]
    unfold sw_sg at k
    rw [if_neg (by omega)] at k
    exact k
  · have w : m / 2 ^ (i * 5 + t) < 1024 := Nat.lt_of_le_of_lt (Nat.div_le_self _ _) hm
    rw [nI_add, pk_shrN (n := m) (by omega) _ (i * 5 + t) (sw_sh _ (by omega)), sw_a1 w]
    unfold sw_sg at k
    rw [if_pos (by omega)] at k
    exact k
/-! the law's comb is sv_cb -/
theorem sw_67 {post : Int32 → Prop} {f t v e : Nat} (hf : f < 48) (ht : t < 4) (hv : v < 16)
    (h : (if f / 16 = 1 then (if t = f / 4 % 4 then some (32 + f / 4 % 4 * 4 + v) else none)
      else if f / 16 = 2 then (if t = f / 4 % 4 then some (if f % 4 = v then 1 else 0) else none)
      else if f / 16 = 0 ∧ f / 4 % 4 = 3 then (if t = 0 then some (f % 4 / 2 ^ v % 2) else none) else none) = some e) (k : post (nI e)) : wL_comb_67 post (nI (f / 16)) (nI (f / 4 % 4)) (nI (f % 4)) (nI t) (nI v) := by
  refine pk_eq (f / 16) 1 (fun z => ?_) (fun z => ?_)
  · rw [if_pos z] at h
    refine pk_eq t (f / 4 % 4) (fun y => ?_) (fun y => ?_)
    · rw [if_pos y] at h
      have h := Option.some.inj h
      have e1 : (32 : Int32) + nI (f / 4 % 4) * 4 + nI v = nI (32 + f / 4 % 4 * 4 + v) := by
        rw [show (32 : Int32) = nI 32 from rfl, show (4 : Int32) = nI 4 from rfl, pk_mul, nI_add, nI_add]
      rw [e1, h]; exact k
    · rw [if_neg y] at h; cases h
  · rw [if_neg z] at h
    refine pk_eq (f / 16) 2 (fun z2 => ?_) (fun z2 => ?_)
    · rw [if_pos z2] at h
      refine pk_eq t (f / 4 % 4) (fun y => ?_) (fun y => ?_)
      · rw [if_pos y] at h
        have h := Option.some.inj h
        refine pk_eq (f % 4) v (fun w => ?_) (fun w => ?_)
        · rw [if_pos w] at h; rw [← h] at k; exact k
        · rw [if_neg w] at h; rw [← h] at k; exact k
      · rw [if_neg y] at h; cases h
    · rw [if_neg z2] at h
      refine pk_eq (f / 16) 0 (fun z3 => ?_) (fun z3 => ?_)
      · refine pk_eq (f / 4 % 4) 3 (fun y => ?_) (fun y => ?_)
        · rw [if_pos ⟨z3, y⟩] at h
          refine pk_eq t 0 (fun w => ?_) (fun w => ?_)
          · rw [if_pos w] at h
            have h := Option.some.inj h
            have w2 : f % 4 / 2 ^ v < 1024 := Nat.lt_of_le_of_lt (Nat.div_le_self _ _) (by omega)
            rw [pk_shrN (n := f % 4) (by omega) _ v (sw_sh _ (by omega)), sw_a1 w2, h]; exact k
          · rw [if_neg w] at h; cases h
        · rw [if_neg (fun w => y w.2)] at h; cases h
      · rw [if_neg (fun w => z3 w.1)] at h; cases h
theorem sw_lc {post : Int32 → Prop} {f x e : Nat} (hf : f < 48) (hx : x < 48) (h : sv_cb f x = some e) (k : post (nI e)) : wpL_comb post () (nI f) (nI x) := by
  have q4 : f / 4 < 1024 := by omega
  have q4x : x / 4 < 1024 := by omega
  refine nm_r (sw_s4 (by omega)) ?_
  refine nm_r (e' := nI (f / 4 % 4)) (by rw [sw_s2 (by omega)]; exact sw_a3 q4) ?_
  refine nm_r (sw_a3 (by omega)) ?_
  refine nm_r (sw_s4 (by omega)) ?_
  refine nm_r (e' := nI (x / 4 % 4)) (by rw [sw_s2 (by omega)]; exact sw_a3 q4x) ?_
  refine nm_r (sw_a3 (by omega)) ?_
  unfold sv_cb sv_ar at h
  refine pk_eq (x / 16) 2 (fun z => ?_) (fun z => ?_)
  · rw [if_pos z] at h
    refine pk_eq (x / 4 % 4) 0 (fun y => ?_) (fun y => ?_)
    · rw [if_pos y] at h
      dsimp only at h
      have m4 : x % 4 < 4 := Nat.mod_lt _ (by decide)
      have ok : x % 4 = 0 ∨ x % 4 = 1 ∨ x % 4 = 2 ∨ x % 4 = 3 := by omega
      have e2 : (1 : Int32) <<< (nI (x % 4) &&& 31) = nI (2 ^ (x % 4)) := by
        rcases ok with w | w | w | w <;> rw [w] <;> decide
      refine nm_r e2 ?_
      have v16 : 2 ^ (x % 4) < 16 := by rcases ok with w | w | w | w <;> rw [w] <;> decide
      exact sw_67 (t := 3) hf (by decide) v16 h k
    · rw [if_neg y] at h; cases h
  · rw [if_neg z] at h
    refine pk_eq (x / 16) 0 (fun y => ?_) (fun y => ?_)
    · rw [if_pos y] at h
      dsimp only at h
      exact sw_67 hf (Nat.mod_lt _ (by decide)) (by omega) h k
    · rw [if_neg y] at h; cases h

