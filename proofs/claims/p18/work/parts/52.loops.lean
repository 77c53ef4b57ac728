/-! the law's loops over parts, assignments, theorems -/
section
variable {xn xc xm xd xh : Int32} {xA xR xK xS xY xP xE : Nat → Int32} {T : hk_T} {nM nH : Nat} {TY HC : Nat → Nat} {G : Nat → List Nat}
/-- the flag and the conclusion before part p -/
def sw_fl (E : Nat → Nat) (p : Nat) (x7 x8 : Int32) : Prop :=
  (p = 0 ∧ x7 = 1) ∨ (1 ≤ p ∧ x8 = nI (E 0) ∧ (x7 = 0 ∨ (x7 = 1 ∧ ∀ q, 1 ≤ q → q < p → E q = 1)))
theorem sw_410 {post : Int32 → Prop} {L kc ks : Nat} {xs : Nat → Int32} {J322 J393 : Int32 → Prop} {x3 : Int32} {h m : Nat} {E : Nat → Nat} (I : sw_I T nM TY nH HC G) (RX : hk_R T nM TY nH HC G xA xR xY xP (hk_h xK xS)) (hh : h < nH) (hm : m < 1024)
    (hE : ∀ p, p ≤ HC h → E p < 2 ∧ sv_v (sw_sg m) (G (32 + h * 4 + p)) (E p)) (hT : (∀ q, 1 ≤ q → q < HC h + 1 → E q = 1) → E 0 = 1) (k : J393 (nI (m + 1))) :
    ∀ (d p : Nat) (x7 x8 : Int32), p + d = HC h + 1 → sw_fl E p x7 x8 → wL_law_410 post L xs J322 J393 x3 (nI h) (nI (HC h)) (nI m) kc ks xn xc xm xd (nI nH) xA xR xK xS xY xP xE (d + 1) x7 x8 (nI p) := by
  obtain ⟨hc, gp⟩ := I.1.2.2.2.2.2.2 h hh
  intro d
  induction d with
  | zero =>
    intro p x7 x8 hp hf
    refine br_t (nI_lt (by omega) (by omega)) ?_
    rcases hf with ⟨z, -⟩ | ⟨z, e8, rfl | ⟨rfl, z2⟩⟩
    · omega
    · exact br_t rfl (nm_r (nI_1 _) k)
    · have e1 : x8 = 1 := by
        rw [e8, hT (fun q h1 h2 => z2 q h1 (by omega))]; rfl
      exact br_f (by decide) (br_t e1 (nm_r (nI_1 _) k))
  | succ d ih =>
    intro p x7 x8 hp hf
    have pH : p ≤ HC h := by omega
    obtain ⟨e1, e2⟩ := hE p pH
    have l32 := (gp p pH).2.1
    refine br_f (nI_nlt (by omega) (by omega)) ?_
    refine sw_sz I RX hh pH (nm_r (sw_m_1 _) ⟨(G (32 + h * 4 + p)).length + 1, ?_⟩)
    have st0 : sv_ev (sw_sg m) ((G (32 + h * 4 + p)).drop (G (32 + h * 4 + p)).length) [] = some [] := by rw [List.drop_of_length_le (Nat.le_refl _)]; rfl
    refine sw_445 I RX hh pH rfl hm e2 ?_ _ [] (Nat.le_refl _) st0
    refine sw_757 e1 (by omega) (fun z => ih (p + 1) _ _ (by omega) ?_) (fun z y => ih (p + 1) _ _ (by omega) ?_) (fun z y => ih (p + 1) _ _ (by omega) ?_)
    · rcases hf with ⟨z0, rfl⟩ | ⟨z0, -⟩
      · subst z0
        exact Or.inr ⟨by omega, rfl, Or.inr ⟨rfl, fun q h1 h2 => by omega⟩⟩
      · omega
    · rcases hf with ⟨z0, -⟩ | ⟨z0, e8, -⟩
      · exact absurd z0 z
      · exact Or.inr ⟨by omega, e8, Or.inl rfl⟩
    · rcases hf with ⟨z0, -⟩ | ⟨z0, e8, z1 | ⟨z1, z2⟩⟩
      · exact absurd z0 z
      · exact Or.inr ⟨by omega, e8, Or.inl z1⟩
      · refine Or.inr ⟨by omega, e8, Or.inr ⟨z1, fun q h1 h2 => ?_⟩⟩
        by_cases w : q = p
        · subst w; omega
        · exact z2 q h1 (by omega)
/-- what the parts of a theorem that holds are worth -/
theorem sw_val {h : Nat} (I : sw_I T nM TY nH HC G) (hh : h < nH) (m : Nat) : ∃ E : Nat → Nat, (∀ p, p ≤ HC h → E p < 2 ∧ sv_v (sw_sg m) (G (32 + h * 4 + p)) (E p)) ∧ ((∀ q, 1 ≤ q → q < HC h + 1 → E q = 1) → E 0 = 1) := by
  obtain ⟨a1, c, c1, c2, c3⟩ := I.2.2 h hh (sw_sg m) (sw_sg_va m)
  have ex : ∀ p, ∃ e, p ≤ HC h → e < 2 ∧ sv_v (sw_sg m) (G (32 + h * 4 + p)) e := by
    intro p
    by_cases z : p ≤ HC h
    · cases p with
      | zero => exact ⟨c, fun _ => ⟨c1, by rw [Nat.add_zero]; exact c2⟩⟩
      | succ i =>
        have il : i < (hk_H G (32 + h * 4 + 1) (HC h)).length := by rw [hk_H_len]; omega
        obtain ⟨e, e1, e2⟩ := a1 _ (hk_ix_mem il)
        rw [hk_H_gd (by omega), show 32 + h * 4 + 1 + i = 32 + h * 4 + (i + 1) by omega] at e2
        exact ⟨e, fun _ => ⟨e1, e2⟩⟩
    · exact ⟨0, fun y => absurd y z⟩
  obtain ⟨E, hE⟩ := Classical.axiomOfChoice ex
  refine ⟨E, hE, fun H => ?_⟩
  have e0 := (hE 0 (Nat.zero_le _)).2
  rw [Nat.add_zero] at e0
  rw [sv_v_u e0 c2]
  refine c3 (fun y hy => ?_)
  obtain ⟨i, hi, rfl⟩ := hk_H_mem hy
  have w := (hE (i + 1) (by omega)).2
  rw [H (i + 1) (by omega) (by omega)] at w
  rw [show 32 + h * 4 + 1 + i = 32 + h * 4 + (i + 1) by omega]; exact w
theorem sw_393 {post : Int32 → Prop} {L kc ks : Nat} {xs : Nat → Int32} {J322 : Int32 → Prop} {x3 : Int32} {h : Nat} (I : sw_I T nM TY nH HC G) (RX : hk_R T nM TY nH HC G xA xR xY xP (hk_h xK xS)) (hh : h < nH) (k : J322 (nI (h + 1))) :
    ∀ (d m : Nat), m + d = 1024 → wL_law_393 post L xs J322 x3 (nI h) (nI (HC h)) kc ks xn xc xm xd (nI nH) xA xR xK xS xY xP xE (d + 1) (nI m) := by
  intro d
  induction d with
  | zero =>
    intro m hm
    exact br_t (nI_le (a := 1024) (by omega) (by omega)) (nm_r (nI_1 _) k)
  | succ d ih =>
    intro m hm
    obtain ⟨E, hE, hT⟩ := sw_val I hh m
    refine br_f (nI_ge (b := 1024) (by omega) (by omega)) ⟨HC h + 1 + 1, ?_⟩
    exact sw_410 I RX hh (by omega) hE hT (ih (m + 1) (by omega)) (HC h + 1) 0 1 0 (by omega) (Or.inl ⟨rfl, rfl⟩)
theorem sw_352 {post : Int32 → Prop} {L kc ks : Nat} {xs : Nat → Int32} {J322 : Int32 → Prop} {x3 : Int32} {h : Nat} (I : sw_I T nM TY nH HC G) (RX : hk_R T nM TY nH HC G xA xR xY xP (hk_h xK xS)) (hh : h < nH) (k : J322 (nI (h + 1))) :
    ∀ (d p : Nat), p + d = HC h + 1 → wL_law_352 post L xs J322 x3 (nI h) (nI (HC h)) kc ks xn xc xm xd (nI nH) xA xR xK xS xY xP xE (d + 1) (nI p) := by
  obtain ⟨hc, gp⟩ := I.1.2.2.2.2.2.2 h hh
  intro d
  induction d with
  | zero =>
    intro p hp
    exact br_t (nI_lt (by omega) (by omega)) ⟨1024 + 1, sw_393 I RX hh k 1024 0 (by omega)⟩
  | succ d ih =>
    intro p hp
    have g := gp p (by omega)
    have l32 := g.2.1
    have l0 := hk_gt_pos g
    refine br_f (nI_nlt (by omega) (by omega)) ?_
    refine sw_sz I RX hh (by omega) ?_
    exact br_f (nI_nlt (b := 1) (by omega) (by omega)) (br_t (nI_le (b := 32) l32 (by omega)) (nm_r (nI_1 _) (ih (p + 1) (by omega))))
theorem sw_322 {post : Int32 → Prop} {L kc ks : Nat} {xs : Nat → Int32} (I : sw_I T nM TY nH HC G) (RX : hk_R T nM TY nH HC G xA xR xY xP (hk_h xK xS)) (k : post 1) :
    ∀ (d h : Nat), h + d = nH → wL_law_322 post L xs (nI nH) kc ks xn xc xm xd (nI nH) xA xR xK xS xY xP xE (d + 1) (nI h) := by
  have h16 : nH ≤ 16 := I.1.2.2.2.1
  intro d
  induction d with
  | zero =>
    intro h hd
    exact br_t (nI_le (by omega) (by omega)) k
  | succ d ih =>
    intro h hd
    have hh : h < nH := by omega
    have hc := (I.1.2.2.2.2.2.2 h hh).1
    refine br_f (nI_ge (by omega) (by omega)) ?_
    refine sw_hc I RX hh ?_
    refine br_f (nI_pos (by omega)) (br_t (nI_le (b := 3) hc (by omega)) ⟨HC h + 1 + 1, ?_⟩)
    exact sw_352 I RX hh (ih (h + 1) (by omega)) (HC h + 1) 0 (by omega)
end
