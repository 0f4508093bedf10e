/-! see -/
theorem case_k19 {u : pa_S} {a1 a2 a3 a4 a5 : Int32} (hi : iv_I u) : pa_case iv_I u a1 a2 a3 a4 a5 19 := by
  have hi0 := hi
  obtain ⟨w, e, N, hw⟩ := hi
  have hf := iv_F hw
  have hc := iv_C hw
  have hm := iv_M hw
  have h5 := hf.1
  obtain ⟨⟨z, hz, z1, z2, z3⟩, l2, l3⟩ := hw.2.2.1
  show wp_X6_see u a1 a2 a3 a4 _
  have X : ∀ (v : pa_S) po, wp_X7_see v a1 a2 a3 a4 po = wb_X7_see_0 v a1 a2 a3 a4 po := fun _ _ => rfl
  simp only [X]
  unfold wp_X6_see wb_X6_see_0
  by_cases hm1 : a1 = -1
  · rw [if_pos hm1]
    unfold wp_X2_clear wb_X2_clear_0 wb_X7_see_0
    simp only [forall_eq]
    rw [if_pos hm1]
    have g1 : fr_of (fun t i k => (t = 8 ∧ i = 0) ∨ (t = 24 ∧ k = 36)) u (pa_sI (pa_sI u 8 0 1 0) 24 0 36 0) := fr_sI (by omega) (fr_sI (by omega) (fr_refl u))
    refine ⟨by rw [pI_sI, if_pos ⟨rfl, rfl, rfl⟩], iv_L (fr_mono (fun t i k z => by unfold fp_L; omega) g1) hw ⟨⟨0, by omega, ?_, ?_, fun r hr => absurd hr (Nat.not_lt_zero r)⟩, le_fair_fr g1 (by omega) (by omega) (by omega) (by omega) (by omega) (Nat.le_refl _) l2, le_book_fr g1 (by omega) (by omega) (by omega) (by omega) (by omega) (Nat.le_refl _) l3⟩⟩
    · rw [pI_sI, if_neg (by omega), pI_sI, if_pos ⟨rfl, rfl, rfl⟩]; rfl
    · rw [pI_sI, if_pos ⟨rfl, rfl, rfl⟩]; rfl
  rw [if_neg hm1]
  rcases rg_h w a1 hf with ⟨h, hh, rfl⟩ | h
  rotate_left
  · rw [hasL_0 hf hc (Or.inl h), if_pos rfl]; dsimp only
    unfold wb_X7_see_0
    rw [if_neg hm1, ih_0 hf hm h, if_pos rfl]
    exact ⟨rfl, hi0⟩
  rcases rg_01 a2 0 2 (by omega) (by omega) with ⟨l, _, hl2, rfl⟩ | hl2
  rotate_left
  · rw [hasL_0 hf hc (Or.inr hl2), if_pos rfl]; dsimp only
    unfold wb_X7_see_0
    rw [if_neg hm1, ih_1 hf hm hh, if_neg (by decide), il_0 hl2, if_pos rfl]
    exact ⟨rfl, hi0⟩
  rw [sp_hasLine hf hc hh (by omega), if_neg (by decide)]
  rcases rg_01 a3 0 60 (by omega) (by omega) with ⟨n, _, hn2, rfl⟩ | hn2
  rotate_left
  · rw [wi_0 (A := 0) (B := 60) (lo := 0) (hi := 60) rfl rfl hn2, if_pos rfl]; dsimp only
    unfold wb_X7_see_0
    rw [if_neg hm1, ih_1 hf hm hh, if_neg (by decide), il_1 (by omega), if_neg (by decide), ig_0 hn2, if_pos rfl]
    exact ⟨rfl, hi0⟩
  rw [wi_1 (A := 0) (B := 60) (lo := 0) (hi := 60) rfl rfl (by omega) hn2 (by omega), if_neg (by decide)]
  rcases rg_01 a4 0 20 (by omega) (by omega) with ⟨d, _, hd2, rfl⟩ | hd2
  rotate_left
  · rw [wi_0 (A := 0) (B := 20) (lo := 0) (hi := 20) rfl rfl hd2, if_pos rfl]; dsimp only
    unfold wb_X7_see_0
    rw [if_neg hm1, ih_1 hf hm hh, if_neg (by decide), il_1 (by omega), if_neg (by decide), ig_1 hn2, if_neg (by decide), in_0 (A := 0) (B := 20) (lo := 0) (hi := 20) rfl rfl hd2, if_pos rfl]
    exact ⟨rfl, hi0⟩
  rw [wi_1 (A := 0) (B := 20) (lo := 0) (hi := 20) rfl rfl (by omega) hd2 (by omega), if_neg (by decide), z1]
  by_cases hz8 : z < 5
  rotate_left
  · rw [if_neg (show ¬ nI z < 5 from nI_nlt (b := 5) (a := z) (by omega) (by omega))]; dsimp only
    unfold wb_X7_see_0
    rw [if_neg hm1, ih_1 hf hm hh, if_neg (by decide), il_1 (by omega), if_neg (by decide), ig_1 hn2, if_neg (by decide), in_1 (A := 0) (B := 20) (lo := 0) (hi := 20) rfl rfl (by omega) hd2 (by omega), if_neg (by decide), z2, if_pos (show nI z = 5 by rw [show z = 5 by omega]; rfl)]
    exact ⟨rfl, hi0⟩
  rw [if_pos (show nI z < 5 from nI_lt (b := 5) hz8 (by omega))]
  refine sp_add z1 (by omega) ?_
  dsimp only
  generalize hv : pa_sI (pa_sA u 9 0 (le_up (pa_A u 9 0) z (nI h) (nI l) (nI n) (nI d))) 8 0 1 (nI (z + 1)) = v
  have gv : fr_of (fun t i k => (t = 8 ∨ t = 9) ∧ i = 0) u v := by rw [← hv]; exact fr_sI (by omega) (fr_sA (by omega) (fr_refl u))
  have hmv : wo_M v w := wo_M_fr gv (by omega) (fun t _ _ => by omega) hm
  have zv : pa_I v 24 0 36 = nI z := by rw [gv.1 24 0 36 (by omega)]; exact z2
  unfold wb_X7_see_0
  rw [if_neg hm1, ih_1 hf hmv hh, if_neg (by decide), il_1 (by omega), if_neg (by decide), ig_1 hn2, if_neg (by decide), in_1 (A := 0) (B := 20) (lo := 0) (hi := 20) rfl rfl (by omega) hd2 (by omega), if_neg (by decide), zv, if_neg (show ¬ nI z = 5 from fun q => by have := (nI_eq (b := 5) (by omega) (by omega)).mp q; omega), pw_and (vp_in_nI (by omega) (by omega)), nI_clamp (by omega)]
  simp only [forall_eq, pI_sA, zv, pw_n3, pw_n1, pk_mul, nI_add]
  rw [pw_and (vp_in_nI (by omega) (by omega)), pw_and (vp_in_nI (by omega) (by omega)), nI_clamp (by omega), pI_sI, if_pos ⟨rfl, rfl, rfl⟩]
  generalize hy1 : pa_sA v 46 0 (upd (pa_A v 46 0) z (nI (3 * h + l))) = y1
  generalize hy2 : pa_sA y1 47 0 (upd (pa_A y1 47 0) z (nI n)) = y2
  generalize hx : pa_sI (pa_sA y2 48 0 (upd (pa_A y2 48 0) z (nI d))) 24 0 36 (nI (z + 1)) = x
  have gx : fr_of (fun t i k => t = 46 ∨ t = 47 ∨ t = 48 ∨ (t = 24 ∧ k = 36)) v x := by rw [← hx, ← hy2, ← hy1]; exact fr_sI (by omega) (fr_sA (by omega) (fr_sA (by omega) (fr_sA (by omega) (fr_refl v))))
  have g : fr_of (fun t i k => ((t = 8 ∨ t = 9) ∧ i = 0) ∨ t = 46 ∨ t = 47 ∨ t = 48 ∨ (t = 24 ∧ k = 36)) u x := fr_trans (fr_mono (fun _ _ _ q => Or.inl q) gv) (fr_mono (fun _ _ _ q => Or.inr q) gx)
  refine ⟨rfl, iv_L (fr_mono (fun t i k z => by unfold fp_L; omega) g) hw ⟨⟨z + 1, by omega, ?_, ?_, fun r hr => ?_⟩, le_fair_fr g (by omega) (by omega) (by omega) (by omega) (by omega) (Nat.le_refl _) l2, le_book_fr g (by omega) (by omega) (by omega) (by omega) (by omega) (Nat.le_refl _) l3⟩⟩
  · rw [gx.1 8 0 1 (by omega), ← hv, pI_sI, if_pos ⟨rfl, rfl, rfl⟩]
  · rw [← hx, pI_sI, if_pos ⟨rfl, rfl, rfl⟩]
  · have e9 : pa_A x 9 0 = le_up (pa_A u 9 0) z (nI h) (nI l) (nI n) (nI d) := by rw [gx.2.1 9 0 (by omega), ← hv, pA_sI, pA_sA, if_pos ⟨rfl, rfl⟩]
    have e46 : pa_A x 46 0 = upd (pa_A u 46 0) z (nI (3 * h + l)) := by rw [← hx, ← hy2, ← hy1, pA_sI, pA_sA, if_neg (by omega), pA_sA, if_neg (by omega), pA_sA, if_pos ⟨rfl, rfl⟩, gv.2.1 46 0 (by omega)]
    have e47 : pa_A x 47 0 = upd (pa_A u 47 0) z (nI n) := by rw [← hx, ← hy2, ← hy1, pA_sI, pA_sA, if_neg (by omega), pA_sA, if_pos ⟨rfl, rfl⟩, pA_sA, if_neg (by omega), gv.2.1 47 0 (by omega)]
    have e48 : pa_A x 48 0 = upd (pa_A u 48 0) z (nI d) := by rw [← hx, ← hy2, ← hy1, pA_sI, pA_sA, if_pos ⟨rfl, rfl⟩, pA_sA, if_neg (by omega), pA_sA, if_neg (by omega), gv.2.1 48 0 (by omega)]
    rw [e9, e46, e47, e48, pw_upd, pw_upd, pw_upd]
    by_cases q : r = z
    · subst q
      rw [if_pos rfl, if_pos rfl, if_pos rfl]
      exact ⟨h, l, n, d, hh, by omega, hn2, hd2, le_up_at.1, le_up_at.2.1, le_up_at.2.2.1, le_up_at.2.2.2, rfl, rfl, rfl⟩
    · rw [if_neg q, if_neg q, if_neg q]
      obtain ⟨h', l', x', t', b1, b2, b3, b4, b5, b6, b7, b8, b9⟩ := z3 r (by omega)
      exact ⟨h', l', x', t', b1, b2, b3, b4, by have := le_up_lo (g := pa_A u 9 0) (z := z) (r := r) (p := 0) (x1 := nI h) (x2 := nI l) (x3 := nI n) (x4 := nI d) (by omega) (by omega); rw [Nat.add_zero] at this; rw [this]; exact b5, by rw [le_up_lo (by omega) (by omega)]; exact b6, by rw [le_up_lo (by omega) (by omega)]; exact b7, by rw [le_up_lo (by omega) (by omega)]; exact b8, b9⟩
