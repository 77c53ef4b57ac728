/-! slots of 32 cells: what a slot holds, and what a writer leaves as it was -/
theorem hk_ad (s i : Nat) : nI s * 32 + nI i = nI (s * 32 + i) := by
  rw [show (32 : Int32) = nI 32 from rfl, pk_mul, nI_add]
theorem hk_ad0 (s : Nat) : nI s * 32 = nI (s * 32) := by rw [show (32 : Int32) = nI 32 from rfl, pk_mul]
theorem hk_ps (t p : Nat) : 32 + nI t * 4 + nI p = nI (32 + t * 4 + p) := by
  rw [show (32 : Int32) = nI 32 from rfl, show (4 : Int32) = nI 4 from rfl, pk_mul, nI_add, nI_add]
def hk_h (K S : Nat → Int32) (s : Nat) (l : List Nat) : Prop := S s = nI l.length ∧ ∀ i, i < l.length → i < 32 → K (s * 32 + i) = nI (hk_c l i)
def hk_hy (K S : Nat → Int32) (s : Nat) (l : List Nat) : Prop := S s = nI (min l.length 33) ∧ ∀ i, i < l.length → i < 32 → K (s * 32 + i) = nI (hk_c l i)
def hk_fr (W : Nat → Prop) (K S K' S' : Nat → Int32) : Prop := ∀ s, ¬ W s → S' s = S s ∧ ∀ i, i < 32 → K' (s * 32 + i) = K (s * 32 + i)
theorem hk_fr_r {W : Nat → Prop} {K S : Nat → Int32} : hk_fr W K S K S := fun _ _ => ⟨rfl, fun _ _ => rfl⟩
theorem hk_fr_t {W : Nat → Prop} {K S K1 S1 K2 S2 : Nat → Int32} (a : hk_fr W K S K1 S1) (b : hk_fr W K1 S1 K2 S2) : hk_fr W K S K2 S2 :=
  fun s h => ⟨(b s h).1.trans (a s h).1, fun i hi => ((b s h).2 i hi).trans ((a s h).2 i hi)⟩
theorem hk_fr_w {W V : Nat → Prop} {K S K' S' : Nat → Int32} (a : hk_fr W K S K' S') (h : ∀ s, W s → V s) : hk_fr V K S K' S' :=
  fun s hs => a s (fun z => hs (h s z))
theorem hk_fr_h {W : Nat → Prop} {K S K' S' : Nat → Int32} {s : Nat} {l : List Nat} (f : hk_fr W K S K' S') (hs : ¬ W s) (h : hk_h K S s l) : hk_h K' S' s l :=
  ⟨(f s hs).1.trans h.1, fun i hi h32 => ((f s hs).2 i h32).trans (h.2 i hi h32)⟩
theorem hk_fr_hy {W : Nat → Prop} {K S K' S' : Nat → Int32} {s : Nat} {l : List Nat} (f : hk_fr W K S K' S') (hs : ¬ W s) (h : hk_hy K S s l) : hk_hy K' S' s l :=
  ⟨(f s hs).1.trans h.1, fun i hi h32 => ((f s hs).2 i h32).trans (h.2 i hi h32)⟩
theorem hk_c_last (l : List Nat) (c : Nat) : hk_c (l ++ [c]) l.length = c := by
  have := hk_c_r l [c] 0
  rw [Nat.add_zero] at this
  rw [this]; rfl
theorem hk_len1 (l : List Nat) (c : Nat) : (l ++ [c]).length = l.length + 1 := by rw [List.length_append]; rfl
theorem hk_cells {K : Nat → Int32} {o c : Nat} {l : List Nat} (h : ∀ i, i < l.length → i < 32 → K (o * 32 + i) = nI (hk_c l i)) :
    ∀ i, i < (l ++ [c]).length → i < 32 → upd K (o * 32 + l.length) (nI c) (o * 32 + i) = nI (hk_c (l ++ [c]) i) := by
  intro i hi h32
  rw [hk_len1] at hi
  rcases Nat.lt_or_ge i l.length with z | z
  · rw [pk_un (by omega), hk_c_l z]; exact h i z h32
  · have e : i = l.length := by omega
    subst e
    rw [pk_us, hk_c_last]
theorem hk_cells' {K : Nat → Int32} {o c : Nat} {l : List Nat} (hl : 32 ≤ l.length) (h : ∀ i, i < l.length → i < 32 → K (o * 32 + i) = nI (hk_c l i)) :
    ∀ i, i < (l ++ [c]).length → i < 32 → K (o * 32 + i) = nI (hk_c (l ++ [c]) i) := by
  intro i hi h32
  rw [hk_c_l (by omega)]; exact h i (by omega) h32
theorem hk_put {K S : Nat → Int32} {o c : Nat} {l : List Nat} (h : hk_h K S o l) : hk_h (upd K (o * 32 + l.length) (nI c)) (upd S o (nI (l.length + 1))) o (l ++ [c]) :=
  ⟨by rw [pk_us, hk_len1], hk_cells h.2⟩
theorem hk_put' {K S : Nat → Int32} {o c : Nat} {l : List Nat} (h : hk_h K S o l) (hl : 32 ≤ l.length) : hk_h K (upd S o (nI (l.length + 1))) o (l ++ [c]) :=
  ⟨by rw [pk_us, hk_len1], hk_cells' hl h.2⟩
theorem hk_puty {K S : Nat → Int32} {o c : Nat} {l : List Nat} (h : hk_hy K S o l) : hk_hy (upd K (o * 32 + l.length) (nI c)) (upd S o (nI (min (l.length + 1) 33))) o (l ++ [c]) :=
  ⟨by rw [pk_us, hk_len1], hk_cells h.2⟩
theorem hk_puty' {K S : Nat → Int32} {o c : Nat} {l : List Nat} (h : hk_hy K S o l) (hl : 32 ≤ l.length) : hk_hy K (upd S o (nI (min (l.length + 1) 33))) o (l ++ [c]) :=
  ⟨by rw [pk_us, hk_len1], hk_cells' hl h.2⟩
theorem hk_fr_p {K S : Nat → Int32} {o j : Nat} {x y : Int32} (hj : j < 32) : hk_fr (fun s => s = o) K S (upd K (o * 32 + j) x) (upd S o y) :=
  fun s hs => ⟨pk_un hs, fun i hi => pk_un (by have : s ≠ o := hs; omega)⟩
theorem hk_fr_s {K S : Nat → Int32} {o : Nat} {y : Int32} : hk_fr (fun s => s = o) K S K (upd S o y) :=
  fun s hs => ⟨pk_un hs, fun i hi => rfl⟩
theorem hk_h0 {K S : Nat → Int32} {o : Nat} : hk_h K (upd S o 0) o [] := ⟨pk_us, fun i hi => absurd hi (Nat.not_lt_zero i)⟩
theorem hk_hy0 {K S : Nat → Int32} {o : Nat} : hk_hy K (upd S o 0) o [] := ⟨pk_us, fun i hi => absurd hi (Nat.not_lt_zero i)⟩
theorem hk_rd {K S : Nat → Int32} {s p : Nat} {l : List Nat} (h : hk_h K S s l) (hs : s < 110) (hp : p < l.length) (h32 : p < 32) : K (nI s * 32 + nI p).toNatClampNeg = nI (hk_c l p) := by
  rw [hk_ad, nI_clamp (by omega)]; exact h.2 p hp h32
theorem hk_rdy {K S : Nat → Int32} {s p : Nat} {l : List Nat} (h : hk_hy K S s l) (hs : s < 110) (hp : p < l.length) (h32 : p < 32) : K (nI s * 32 + nI p).toNatClampNeg = nI (hk_c l p) := by
  rw [hk_ad, nI_clamp (by omega)]; exact h.2 p hp h32
theorem hk_sz {K S : Nat → Int32} {s : Nat} {l : List Nat} (h : hk_h K S s l) (hs : s < 110) : S (nI s).toNatClampNeg = nI l.length := by
  rw [nI_clamp (by omega)]; exact h.1
theorem hk_szy {K S : Nat → Int32} {s : Nat} {l : List Nat} (h : hk_hy K S s l) (hs : s < 110) (hl : l.length ≤ 32) : S (nI s).toNatClampNeg = nI l.length := by
  rw [nI_clamp (by omega), h.1, show min l.length 33 = l.length by omega]
theorem hk_vx {s p : Nat} (hs : s < 98) (hp : p < 32) : vp_in (nI s * 32 + nI p) 3136 := by
  rw [hk_ad]; exact vp_in_nI (by omega) (by omega)
theorem hk_vy {s p : Nat} (hs : s < 110) (hp : p < 32) : vp_in (nI s * 32 + nI p) 3520 := by
  rw [hk_ad]; exact vp_in_nI (by omega) (by omega)
/-! numbers of a node -/
theorem hk_kd {c : Nat} (h : c < 524288) : nI c / 65536 = nI (c / 65536) := pk_div (d := 65536) (by omega) (by omega) (by omega)
theorem hk_tyn {c : Nat} (h : c < 524288) : nI c - nI c / 256 * 256 = nI (c % 256) := pk_rem (d := 256) (by omega) (by omega) (by omega)
theorem hk_dv {c : Nat} (h : c < 524288) : nI c / 256 = nI (c / 256) := pk_div (d := 256) (by omega) (by omega) (by omega)
theorem hk_ixn {c : Nat} (h : c < 524288) : nI c / 256 - nI c / 256 / 256 * 256 = nI (c / 256 % 256) := by
  rw [hk_dv h]; exact pk_rem (d := 256) (by omega) (by omega) (by omega)
theorem hk_szc {K S : Nat → Int32} {s : Nat} {l : List Nat} (h : hk_hy K S s l) (hl : l.length ≤ 32) : S s = nI l.length := by
  rw [h.1, show min l.length 33 = l.length by omega]
