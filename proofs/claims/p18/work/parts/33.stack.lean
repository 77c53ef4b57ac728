/-! the stack in two longs -/
def sv_N : List Nat → Nat
  | [] => 0
  | e :: st => e + 256 * sv_N st
def sv_by (st : List Nat) : Prop := ∀ e, e ∈ st → e < 256
theorem sv_N_lt : ∀ {st : List Nat}, sv_by st → sv_N st < 256 ^ st.length
  | [], _ => by decide
  | e :: st, h => by
    have a := sv_N_lt (st := st) (fun x hx => h x (List.mem_cons_of_mem _ hx))
    have b := h e List.mem_cons_self
    rw [List.length_cons, Nat.pow_succ]
    show e + 256 * sv_N st < _
    omega
theorem sv_N_15 {st : List Nat} (h : sv_by st) (hl : st.length < 16) : sv_N st < 1329227995784915872903807060280344576 := by
  have a := sv_N_lt h
  have b : 256 ^ st.length ≤ 256 ^ 15 := Nat.pow_le_pow_right (by decide) (by omega)
  have c : (256 : Nat) ^ 15 = 1329227995784915872903807060280344576 := by decide
  omega
theorem sv_pop_n {N e M : Nat} (h : N = e + 256 * M) (he : e < 256) :
    N % 18446744073709551616 % 256 = e ∧ N / 18446744073709551616 % 256 * 72057594037927936 + N % 18446744073709551616 / 256 = M % 18446744073709551616 ∧ N / 18446744073709551616 / 256 = M / 18446744073709551616 ∧ N % 18446744073709551616 / 256 < 72057594037927936 := by
  subst h
  omega
theorem sv_push_n {N e : Nat} (he : e < 256) (hN : N < 1329227995784915872903807060280344576) :
    N % 18446744073709551616 * 256 % 18446744073709551616 + e = (e + 256 * N) % 18446744073709551616 ∧ N / 18446744073709551616 * 256 + N % 18446744073709551616 / 72057594037927936 = (e + 256 * N) / 18446744073709551616 ∧ N % 18446744073709551616 * 256 % 18446744073709551616 = N % 72057594037927936 * 256 ∧
      N % 18446744073709551616 / 72057594037927936 < 256 ∧ N / 18446744073709551616 * 256 + N % 18446744073709551616 / 72057594037927936 < 18446744073709551616 := by omega
def sv_lo (st : List Nat) : Int64 := lN (sv_N st % 18446744073709551616)
def sv_hi (st : List Nat) : Int64 := lN (sv_N st / 18446744073709551616)
theorem sv_hi_lt {st : List Nat} (h : sv_by st) (hl : st.length ≤ 16) : sv_N st / 18446744073709551616 < 18446744073709551616 := by
  have a := sv_N_lt h
  have b : 256 ^ st.length ≤ 256 ^ 16 := Nat.pow_le_pow_right (by decide) hl
  have c : (256 : Nat) ^ 16 = 18446744073709551616 * 18446744073709551616 := by decide
  exact Nat.div_lt_of_lt_mul (by omega)
theorem sv_top {e : Nat} {st : List Nat} (he : e < 256) : sv_lo (e :: st) &&& 255 = lN e := by
  have q := sv_pop_n (N := sv_N (e :: st)) (e := e) (M := sv_N st) rfl he
  unfold sv_lo
  have m : (sv_N (e :: st)) % 18446744073709551616 < 2 ^ 64 := Nat.mod_lt _ (by decide)
  have w := wb_mask (k := 8) m (by decide)
  have w : lN (sv_N (e :: st) % 18446744073709551616) &&& 255 = lN (sv_N (e :: st) % 18446744073709551616 % 256) := w
  rw [w, q.1]
theorem sv_plo {e : Nat} {st : List Nat} (h : sv_by (e :: st)) (hl : (e :: st).length ≤ 16) :
    (((sv_lo (e :: st)).toUInt64 >>> ((8 : Int32).toInt64.toUInt64 &&& Int64.toUInt64 63)).toInt64) ||| ((sv_hi (e :: st) &&& 255) <<< ((56 : Int32).toInt64 &&& 63)) = sv_lo st := by
  have he := h e List.mem_cons_self
  obtain ⟨q1, q2, q3, q4⟩ := sv_pop_n (N := sv_N (e :: st)) (e := e) (M := sv_N st) rfl he
  have m : (sv_N (e :: st)) % 18446744073709551616 < 2 ^ 64 := Nat.mod_lt _ (by decide)
  have mh : (sv_N (e :: st)) / 18446744073709551616 < 2 ^ 64 := sv_hi_lt h hl
  have a : ((sv_lo (e :: st)).toUInt64 >>> ((8 : Int32).toInt64.toUInt64 &&& Int64.toUInt64 63)).toInt64 = lN (sv_N (e :: st) % 18446744073709551616 / 256) := wb_shr (k := 8) m (by decide)
  have b : sv_hi (e :: st) &&& 255 = lN (sv_N (e :: st) / 18446744073709551616 % 256) := wb_mask (k := 8) mh (by decide)
  have c : lN (sv_N (e :: st) / 18446744073709551616 % 256) <<< ((56 : Int32).toInt64 &&& 63) = lN (sv_N (e :: st) / 18446744073709551616 % 256 * 72057594037927936) := wb_shl _ (k := 56) (by decide)
  rw [a, b, c]
  have ml : sv_N (e :: st) / 18446744073709551616 % 256 < 256 := Nat.mod_lt _ (by decide)
  have r := g_or' (k := 56) (p := 72057594037927936) (a := sv_N (e :: st) % 18446744073709551616 / 256) (b := sv_N (e :: st) / 18446744073709551616 % 256) (by decide) q4 (by omega)
  rw [r]
  unfold sv_lo
  rw [Nat.add_comm, q2]
theorem sv_phi {e : Nat} {st : List Nat} (h : sv_by (e :: st)) (hl : (e :: st).length ≤ 16) : ((sv_hi (e :: st)).toUInt64 >>> ((8 : Int32).toInt64.toUInt64 &&& Int64.toUInt64 63)).toInt64 = sv_hi st := by
  have he := h e List.mem_cons_self
  obtain ⟨q1, q2, q3, q4⟩ := sv_pop_n (N := sv_N (e :: st)) (e := e) (M := sv_N st) rfl he
  have mh : (sv_N (e :: st)) / 18446744073709551616 < 2 ^ 64 := sv_hi_lt h hl
  have a : ((sv_hi (e :: st)).toUInt64 >>> ((8 : Int32).toInt64.toUInt64 &&& Int64.toUInt64 63)).toInt64 = lN (sv_N (e :: st) / 18446744073709551616 / 256) := wb_shr (k := 8) mh (by decide)
  rw [a, q3]; rfl
theorem sv_ulo {e : Nat} {st : List Nat} (he : e < 256) (h : sv_by st) (hl : st.length < 16) : (sv_lo st <<< ((8 : Int32).toInt64 &&& 63)) ||| lN e = sv_lo (e :: st) := by
  obtain ⟨q1, q2, q3, q4, q5⟩ := sv_push_n he (sv_N_15 h hl)
  have a : sv_lo st <<< ((8 : Int32).toInt64 &&& 63) = lN (sv_N st % 18446744073709551616 * 256) := wb_shl _ (k := 8) (by decide)
  have b : lN (sv_N st % 18446744073709551616 * 256) = lN (sv_N st % 72057594037927936 * 256) := by rw [wb_mod, ← q3]
  have m : sv_N st % 72057594037927936 < 72057594037927936 := Nat.mod_lt _ (by decide)
  rw [a, b, g_or (k := 8) (p := 256) (by decide) he (by omega)]
  unfold sv_lo
  rw [← q3, q1]; rfl
theorem sv_uhi {e : Nat} {st : List Nat} (he : e < 256) (h : sv_by st) (hl : st.length < 16) : (sv_hi st <<< ((8 : Int32).toInt64 &&& 63)) ||| (((sv_lo st).toUInt64 >>> ((56 : Int32).toInt64.toUInt64 &&& Int64.toUInt64 63)).toInt64) = sv_hi (e :: st) := by
  obtain ⟨q1, q2, q3, q4, q5⟩ := sv_push_n he (sv_N_15 h hl)
  have m : (sv_N st) % 18446744073709551616 < 2 ^ 64 := Nat.mod_lt _ (by decide)
  have a : sv_hi st <<< ((8 : Int32).toInt64 &&& 63) = lN (sv_N st / 18446744073709551616 * 256) := wb_shl _ (k := 8) (by decide)
  have b : ((sv_lo st).toUInt64 >>> ((56 : Int32).toInt64.toUInt64 &&& Int64.toUInt64 63)).toInt64 = lN (sv_N st % 18446744073709551616 / 72057594037927936) := wb_shr (k := 56) m (by decide)
  rw [a, b, g_or (k := 8) (p := 256) (by decide) q4 q5, q2]; rfl
