theorem hk_clamp (x : Int32) (lo hi : Nat) (h : lo ≤ hi) (hh : hi < 2 ^ 31) : ∃ c, lo ≤ c ∧ c ≤ hi ∧ ∀ A : Int32 → Prop, A (nI c) → ((nI lo ≤ x → ((x ≤ nI hi → A x) ∧ (¬ x ≤ nI hi → A (nI hi)))) ∧ (¬ nI lo ≤ x → A (nI lo))) := by
  by_cases h1 : nI lo ≤ x
  · by_cases h2 : x ≤ nI hi
    · have h0 : ¬ x < 0 := Int32.not_lt.mpr (Int32.le_trans (nI_pos' (by omega)) h1)
      obtain ⟨j, hj, rfl⟩ := nI_of h0
      rw [nI_leI (by omega) hj] at h1
      have h2' := h2
      rw [nI_leI hj hh] at h2'
      exact ⟨j, h1, h2', fun A a => br_t (nI_le h1 hj) (br_t h2 a)⟩
    · exact ⟨hi, h, Nat.le_refl _, fun A a => br_t h1 (br_f h2 a)⟩
  · exact ⟨lo, Nat.le_refl _, h, fun A a => br_f h1 a⟩
theorem hk_I_types {T T' : hk_T} {nM : Nat} {TY : Nat → Nat} {nH : Nat} {HC : Nat → Nat} {G : Nat → List Nat} {cM cH : Nat} (h : hk_I T nM TY nH HC G cM cH) (ht : hk_ti T') (hn : T.1 ≤ T'.1) : hk_I T' nM TY nH HC G cM cH := by
  obtain ⟨h1, h2, h3, h4, h5, h6, h7⟩ := h
  refine ⟨ht, h2, h3, h4, h5, fun t q => ?_, fun q hq => ⟨(h7 q hq).1, fun p hp => hk_gt_mono ((h7 q hq).2 p hp) hn⟩⟩
  obtain ⟨a, b, c⟩ := h6 t q
  exact ⟨by omega, hk_gt_mono b hn, c⟩
section
variable {xn xc xm xd xh : Int32} {xA xR xK xS xY xP xE : Nat → Int32} {T T' : hk_T} {nM nH cM cH : Nat} {TY HC : Nat → Nat} {G : Nat → List Nat}
theorem xa_keep {post : Int32 → St2 → Prop} {ty : Nat} (h : nM < 32) (k : post (nI nM) (xn, xc, nI (nM + 1), xd, xh, xA, xR, xK, xS, upd xY nM (nI ty), xP, xE)) : wpX_keepTerm post (xn, xc, nI nM, xd, xh, xA, xR, xK, xS, xY, xP, xE) (nI ty) := by
  refine ⟨vp_in_nI h (by omega), nm_r (e' := upd xY nM (nI ty)) (by rw [nI_clamp (by omega)]) (nm_r (nI_1 _) ?_)⟩
  rw [nI_pred]; exact k
theorem xa_isPart {post : Int32 → Prop} {t n : Nat} {x : Int32} (ht : t < nH) (hH : nH ≤ 16) (hP : xP t = nI n) (hn : n ≤ 3) (k0 : (∀ j, j < n + 1 → x ≠ nI j) → post 0) (k1 : ∀ j, j < n + 1 → x = nI j → post 1) : wpX_isPart post (xn, xc, xm, xd, nI nH, xA, xR, xK, xS, xY, xP, xE) (nI t) x := by
  refine hk_ok1 (by omega) ht (br_f (by decide) ?_)
  rcases hk_val x (n + 1) with z | ⟨j, hj, rfl⟩
  · refine br_c (fun _ => k0 z) (fun q => ⟨vp_in_nI (by omega) (by omega), ?_⟩)
    rw [nI_clamp (by omega), hP]
    obtain ⟨j, hj, rfl⟩ := nI_of q
    refine br_t (nI_lt ?_ hj) (k0 z)
    rcases Nat.lt_or_ge n j with w | w
    · exact w
    · exact absurd rfl (z j (by omega))
  · refine br_f (nI_pos (by omega)) ⟨vp_in_nI (by omega) (by omega), ?_⟩
    rw [nI_clamp (by omega), hP]
    exact br_f (nI_nlt (by omega) (by omega)) (k1 j hj rfl)
end
theorem hk_id0 {A B : Prop} {x : Int32} (h : ∀ j, j < 16 → x ≠ nI j) (a : A) : (x < 0 → A) ∧ (¬ x < 0 → ((15 < x → A) ∧ (¬ 15 < x → B))) := by
  refine br_c (fun _ => a) (fun z => ?_)
  obtain ⟨j, hj, rfl⟩ := nI_of z
  refine br_t (nI_lt (a := 15) ?_ hj) a
  rcases Nat.lt_or_ge 15 j with q | q
  · exact q
  · exact absurd rfl (h j (by omega))
theorem hk_id1 {A B : Prop} {j : Nat} (hj : j < 16) (b : B) : (nI j < 0 → A) ∧ (¬ nI j < 0 → ((15 < nI j → A) ∧ (¬ 15 < nI j → B))) :=
  br_f (nI_pos (by omega)) (br_f (nI_nlt (a := 15) (by omega) (by omega)) b)
theorem hk_gt_1 {n c : Nat} (h : hk_ar c = 0) (hc : hk_gc n c) : hk_gt n [c] :=
  ⟨by rw [hk_run_s, h]; rfl, by show 1 ≤ 32; decide, fun x hx => by rw [List.mem_singleton.mp hx]; exact hc⟩
theorem hk_comb_gt {n : Nat} {a b : List Nat} (ga : hk_gt n a) (gb : hk_gt n b) (hl : 1 + a.length + b.length ≤ 32) : hk_gt n ([196608] ++ a ++ b) := by
  refine ⟨?_, by rw [List.length_append, List.length_append]; exact hl, fun c hc => ?_⟩
  · show hk_run 1 (196608 :: (a ++ b)) = some 0
    rw [hk_run_s, hk_ar_3 (by decide)]
    show hk_run 2 (a ++ b) = _
    rw [hk_run_app _ _ _ _ (hk_run1 ga.1 1)]; exact gb.1
  · rcases List.mem_append.mp hc with z | z
    · rcases List.mem_append.mp z with z | z
      · rw [List.mem_singleton.mp z]; exact ⟨by omega, fun y => by omega⟩
      · exact ga.2.2 c z
    · exact gb.2.2 c z
