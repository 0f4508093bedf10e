/-! fair -/
section FAIR
variable {w : pw_W} {e : pw_E} {N : Nat}
/-- a row is added on both sides -/
theorem fair_add {u : pa_S} {x1 x2 : Int32} (hw : iv_at u w e N) (hx : x1 = nI 5 ∨ ∃ h l, h < wo_n w ∧ l < wo_n w ∧ h ≠ l ∧ x1 = nI h ∧ x2 = nI l) (h7 : x1 ≠ -1) (mid : Int32 → pa_S → (Int32 → pa_S → Prop) → Prop)
    (hmid : ∀ (v : pa_S) po, wo_M v w → wb_X7_fair_48 v x1 x2 po → mid 0 v po) :
    wb_X6_fair_50 u x1 x2 (fun (r : Int32) (u1 : pa_S) => mid 0 u1 (fun (r' : Int32) (u2 : pa_S) => r = r' ∧ iv_I u2)) := by
  have h5 := (iv_F hw).1
  obtain ⟨l1, ⟨z, hz, z1, z2, z3⟩, l3⟩ := hw.2.2.1
  unfold wb_X6_fair_50
  rw [z1]
  by_cases hz8 : z < 10
  rotate_left
  · rw [if_neg (show ¬ nI z < 10 from nI_nlt (b := 10) (a := z) (by omega) (by omega))]
    refine hmid u _ (iv_M hw) ?_
    unfold wb_X7_fair_48
    rw [z2, if_pos (show nI z = 10 by rw [show z = 10 by omega]; rfl)]
    exact ⟨rfl, iv_at_I hw⟩
  rw [if_pos (show nI z < 10 from nI_lt (b := 10) hz8 (by omega))]
  refine sp_add z1 (by omega) ?_
  generalize hv : pa_sI (pa_sA u 9 1 (le_up (pa_A u 9 1) z x1 x2 0 0)) 8 1 1 (nI (z + 1)) = v
  have gv : fr_of (fun t i k => (t = 8 ∨ t = 9) ∧ i = 1) u v := by rw [← hv]; exact fr_sI (by omega) (fr_sA (by omega) (fr_refl u))
  have hmv : wo_M v w := wo_M_fr gv (by omega) (fun t _ _ => by omega) (iv_M hw)
  have zv : pa_I v 24 0 40 = nI z := by rw [gv.1 24 0 40 (by omega)]; exact z2
  refine hmid v _ hmv ?_
  unfold wb_X7_fair_48
  rw [zv, if_neg (show ¬ nI z = 10 from fun q => by have := (nI_eq (b := 10) (by omega) (by omega)).mp q; omega), pw_and (vp_in_nI (by omega) (by omega)), nI_clamp (by omega)]
  simp only [forall_eq, pI_sA, zv]
  have fin : ∀ y : Int32, (x1 = nI 5 ∨ y = x2) → wb_X7_fair_88 (pa_sA v 49 0 (upd (pa_A v 49 0) z x1)) (nI z) y (fun (r' : Int32) (u2 : pa_S) => nI (z + 1) = r' ∧ iv_I u2) := by
    intro y hy
    unfold wb_X7_fair_88
    rw [pw_and (vp_in_nI (by omega) (by omega)), nI_clamp (by omega)]
    simp only [forall_eq, pI_sA, zv, pw_n1, nI_add]
    rw [pI_sI, if_pos ⟨rfl, rfl, rfl⟩]
    generalize hx' : pa_sI (pa_sA (pa_sA v 49 0 (upd (pa_A v 49 0) z x1)) 50 0 (upd (pa_A (pa_sA v 49 0 (upd (pa_A v 49 0) z x1)) 50 0) z y)) 24 0 40 (nI (z + 1)) = x
    have gx : fr_of (fun t i k => t = 49 ∨ t = 50 ∨ (t = 24 ∧ k = 40)) v x := by rw [← hx']; exact fr_sI (by omega) (fr_sA (by omega) (fr_sA (by omega) (fr_refl v)))
    have g : fr_of (fun t i k => ((t = 8 ∨ t = 9) ∧ i = 1) ∨ t = 49 ∨ t = 50 ∨ (t = 24 ∧ k = 40)) u x := fr_trans (fr_mono (fun _ _ _ q => Or.inl q) gv) (fr_mono (fun _ _ _ q => Or.inr q) gx)
    refine ⟨rfl, iv_L (fr_mono (fun t i k z => by unfold fp_L; omega) g) hw ⟨le_see_fr g (by omega) (by omega) (by omega) (by omega) (by omega) (by omega) (Nat.le_refl _) l1, ⟨z + 1, by omega, ?_, ?_, fun r hr => ?_⟩, le_book_fr g (by omega) (by omega) (by omega) (by omega) (by omega) (Nat.le_refl _) l3⟩⟩
    · rw [gx.1 8 1 1 (by omega), ← hv, pI_sI, if_pos ⟨rfl, rfl, rfl⟩]
    · rw [← hx', pI_sI, if_pos ⟨rfl, rfl, rfl⟩]
    · have e9 : pa_A x 9 1 = le_up (pa_A u 9 1) z x1 x2 0 0 := by rw [gx.2.1 9 1 (by omega), ← hv, pA_sI, pA_sA, if_pos ⟨rfl, rfl⟩]
      have e49 : pa_A x 49 0 = upd (pa_A u 49 0) z x1 := by rw [← hx', pA_sI, pA_sA, if_neg (by omega), pA_sA, if_pos ⟨rfl, rfl⟩, gv.2.1 49 0 (by omega)]
      have e50 : pa_A x 50 0 = upd (pa_A u 50 0) z y := by rw [← hx', pA_sI, pA_sA, if_pos ⟨rfl, rfl⟩, pA_sA, if_neg (by omega), gv.2.1 50 0 (by omega)]
      rw [e9, e49, e50, pw_upd, pw_upd]
      by_cases q : r = z
      · subst q
        rw [if_pos rfl, if_pos rfl, le_up_at.1, le_up_at.2.1]
        rcases hx with hx | ⟨h, l, a, b, c, d1, d2⟩
        · exact Or.inl ⟨hx, hx⟩
        · refine Or.inr ⟨h, l, a, b, c, d1, d2, d1, ?_⟩
          rcases hy with hy | hy
          · rw [d1] at hy
            have := (nI_eq (by omega) (by omega)).mp hy
            omega
          · rw [hy]; exact d2
      · rw [if_neg q, if_neg q]
        have t0 := le_up_lo (g := pa_A u 9 1) (z := z) (r := r) (p := 0) (x1 := x1) (x2 := x2) (x3 := 0) (x4 := 0) (by omega) (by omega)
        rw [Nat.add_zero] at t0
        rw [t0, le_up_lo (by omega) (by omega)]
        exact z3 r (by omega)
  by_cases h5' : x1 = 5
  · rw [if_pos h5']
    exact fin 0 (Or.inl h5')
  · rw [if_neg h5']
    exact fin x2 (Or.inr rfl)
end FAIR
theorem case_k24 {u : pa_S} {a1 a2 a3 a4 a5 : Int32} (hi : iv_I u) : pa_case iv_I u a1 a2 a3 a4 a5 24 := by
  have hi0 := hi
  obtain ⟨w, e, N, hw⟩ := hi
  have hf := iv_F hw
  have hc := iv_C hw
  have hm := iv_M hw
  have h5 := hf.1
  obtain ⟨l1, l2, l3⟩ := hw.2.2.1
  show wp_X6_fair u a1 a2 _
  have X : ∀ (v : pa_S) po, wp_X7_fair v a1 a2 po = wb_X7_fair_0 v a1 a2 po := fun _ _ => rfl
  simp only [X]
  unfold wp_X6_fair wb_X6_fair_0
  by_cases hm1 : a1 = -1
  · rw [if_pos hm1]
    unfold wp_X2_clear wb_X2_clear_0 wb_X7_fair_0
    simp only [forall_eq]
    rw [if_pos hm1]
    have g1 : fr_of (fun t i k => (t = 8 ∧ i = 1) ∨ (t = 24 ∧ k = 40)) u (pa_sI (pa_sI u 8 1 1 0) 24 0 40 0) := fr_sI (by omega) (fr_sI (by omega) (fr_refl u))
    refine ⟨by rw [pI_sI, if_pos ⟨rfl, rfl, rfl⟩], iv_L (fr_mono (fun t i k z => by unfold fp_L; omega) g1) hw ⟨le_see_fr g1 (by omega) (by omega) (by omega) (by omega) (by omega) (by omega) (Nat.le_refl _) l1, ⟨0, by omega, ?_, ?_, fun r hr => absurd hr (Nat.not_lt_zero r)⟩, le_book_fr g1 (by omega) (by omega) (by omega) (by omega) (by omega) (Nat.le_refl _) l3⟩⟩
    · rw [pI_sI, if_neg (by omega), pI_sI, if_pos ⟨rfl, rfl, rfl⟩]; rfl
    · rw [pI_sI, if_pos ⟨rfl, rfl, rfl⟩]; rfl
  rw [if_neg hm1]
  by_cases h5' : a1 = 5
  · rw [if_pos h5']
    refine fair_add hw (Or.inl h5') hm1 (fun _ v po => wb_X7_fair_0 v a1 a2 po) (fun v po _ h => ?_)
    unfold wb_X7_fair_0
    rw [if_neg hm1, if_pos h5']
    unfold wb_X7_fair_35
    rw [if_pos h5']
    exact h
  rw [if_neg h5']
  rcases rg_h w a1 hf with ⟨h, hh, rfl⟩ | h
  rotate_left
  · rw [has_0 hc h, if_pos rfl]; dsimp only
    unfold wb_X7_fair_0
    rw [if_neg hm1, if_neg h5', ih_0 hf hm h, if_pos rfl]
    exact ⟨rfl, hi0⟩
  rw [sp_has hf hc hh, if_neg (by decide)]
  rcases rg_h w a2 hf with ⟨k, hk, rfl⟩ | hk
  rotate_left
  · rw [has_0 hc hk, if_pos rfl]; dsimp only
    unfold wb_X7_fair_0
    rw [if_neg hm1, if_neg h5', ih_1 hf hm hh, if_neg (by decide), ih_0 hf hm hk, if_pos rfl]
    exact ⟨rfl, hi0⟩
  rw [sp_has hf hc hk, if_neg (by decide)]
  by_cases hne : h = k
  · rw [if_pos (show nI h = nI k by rw [hne])]
    unfold wb_X7_fair_0
    dsimp only
    rw [if_neg hm1, if_neg h5', ih_1 hf hm hh, if_neg (by decide), ih_1 hf hm hk, if_neg (by decide)]
    unfold wb_X7_fair_35
    rw [if_neg h5', if_pos (show nI h = nI k by rw [hne])]
    exact ⟨rfl, hi0⟩
  have hne' : ¬ nI h = nI k := fun z => hne ((nI_eq (by omega) (by omega)).mp z)
  rw [if_neg hne']
  refine fair_add hw (Or.inr ⟨h, k, hh, hk, hne, rfl, rfl⟩) hm1 (fun _ v po => wb_X7_fair_0 v (nI h) (nI k) po) (fun v po hmv hp => ?_)
  unfold wb_X7_fair_0
  rw [if_neg hm1, if_neg h5', ih_1 hf hmv hh, if_neg (by decide), ih_1 hf hmv hk, if_neg (by decide)]
  unfold wb_X7_fair_35
  rw [if_neg h5', if_neg hne']
  exact hp
