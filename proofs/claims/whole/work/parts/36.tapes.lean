/-! tapes: read -/
section TAPES
variable {u : pa_S} {x : Int32} {po : Int32 → Prop}
theorem it_1 {t : Nat} (h : t ≤ 5) : wp_X6_isTape u (nI t) po = po 1 := by
  unfold wp_X6_isTape wb_X6_isTape_0
  rw [wi_1 (A := 0) (B := 5) (lo := 0) (hi := 5) rfl rfl (by omega) h (by omega)]
  exact pw_and (a := (1 : Int32) &&& 1 = 1) (by decide)
theorem it_0 (h : x < nI 0 ∨ nI 5 < x) : wp_X6_isTape u x po = po 0 := by
  unfold wp_X6_isTape wb_X6_isTape_0
  rw [wi_0 (A := 0) (B := 5) (lo := 0) (hi := 5) rfl rfl h]
  exact pw_and (a := (0 : Int32) &&& 1 = 0) (by decide)
theorem mt_1 {t : Nat} (h : t ≤ 5) : wp_X7_isTape u (nI t) po = po 1 := by
  unfold wp_X7_isTape wb_X7_isTape_0
  rw [in_1 (A := 0) (B := 5) (lo := 0) (hi := 5) rfl rfl (by omega) h (by omega)]
  exact pw_and (a := (1 : Int32) &&& 1 = 1) (by decide)
theorem mt_0 (h : x < nI 0 ∨ nI 5 < x) : wp_X7_isTape u x po = po 0 := by
  unfold wp_X7_isTape wb_X7_isTape_0
  rw [in_0 (A := 0) (B := 5) (lo := 0) (hi := 5) rfl rfl h]
  exact pw_and (a := (0 : Int32) &&& 1 = 0) (by decide)
theorem hp_1 {t z i : Nat} (hz : z ≤ 60) (h : pa_I u 19 t 2 = nI z) (hi : i < z) : wp_X4_hasPlace u t (nI i) po = po 1 := by
  unfold wp_X4_hasPlace wb_X4_hasPlace_0
  rw [if_neg (nI_pos (by omega)), h, if_neg (nI_ge hi (by omega)), if_neg (show ¬ (60 : Int32) ≤ nI i from nI_ge (b := 60) (by omega) (by omega))]
theorem hp_0 {t z : Nat} (h : pa_I u 19 t 2 = nI z) (hi : x < 0 ∨ nI z ≤ x) : wp_X4_hasPlace u t x po = po 0 := by
  unfold wp_X4_hasPlace wb_X4_hasPlace_0
  rcases hi with hi | hi
  · rw [if_pos hi]
  · by_cases y : x < 0
    · rw [if_pos y]
    · rw [if_neg y, h, if_pos hi]
theorem mi_1 {z i : Nat} (hz : z ≤ 60) (hi : i < z) : wp_X7_in u (nI i) 0 (nI z - 1) po = po 1 := by
  unfold wp_X7_in wb_X7_in_0
  rw [if_neg (nI_pos (by omega)), if_neg (by rw [pw_np (by omega)]; exact nI_ge hi (by omega))]
theorem mi_0 {z : Nat} (hz : z ≤ 60) (hi : x < 0 ∨ nI z ≤ x) : wp_X7_in u x 0 (nI z - 1) po = po 0 := by
  unfold wp_X7_in wb_X7_in_0
  rcases hi with hi | hi
  · rw [if_pos hi]
  · by_cases y : x < 0
    · rw [if_pos y]
    · rw [if_neg y, if_pos (by rw [pw_np (by omega)]; exact hi)]
end TAPES
theorem case_k35 {u : pa_S} {a1 a2 a3 a4 a5 : Int32} (hi : iv_I u) : pa_case iv_I u a1 a2 a3 a4 a5 35 := by
  have hi0 := hi
  obtain ⟨w, e, N, hw⟩ := hi
  have hp := hw.2.1.2.2.2.2.1
  show wp_X6_read u a1 a2 _
  have X : ∀ (v : pa_S) po, wp_X7_read v a1 a2 po = wb_X7_read_0 v a1 a2 po := fun _ _ => rfl
  simp only [X]
  unfold wp_X6_read wb_X6_read_0 wb_X7_read_0
  rcases rg_01 a1 0 5 (by omega) (by omega) with ⟨t, _, ht, rfl⟩ | ht
  rotate_left
  · rw [it_0 ht, if_pos rfl]; dsimp only
    rw [mt_0 ht, if_pos rfl]
    exact ⟨rfl, hi0⟩
  obtain ⟨z, hz, z1, z2, z3, z4, z5⟩ := hp t (by omega)
  rw [it_1 ht, if_neg (by decide), pw_and (vp_in_nI (by omega) (by omega)), nI_clamp (by omega)]
  rcases pk_ix a2 (n := z) (by omega) with hi | hi | ⟨i, hi, rfl⟩
  rotate_left 2
  · rw [hp_1 hz z1 hi, if_neg (by decide), pw_and (vp_in_nI (by omega) (by omega))]
    unfold wp_X4_at wb_X4_at_0
    rw [hp_1 hz z1 hi, if_neg (by decide), pw_and (vp_in_nI (by omega) (by omega)), nI_clamp (by omega)]
    dsimp only
    have s0 : ¬ pa_A u 64 0 t < 0 := by
      rcases z4 with ⟨_, q⟩ | ⟨s, hs, q⟩
      · omega
      · rw [q]; exact nI_pos (by omega)
    rw [mt_1 ht, if_neg (by decide), pw_and (vp_in_nI (by omega) (by omega)), if_neg s0, pw_and (vp_in_nI (by omega) (by omega)), z2, mi_1 hz hi, if_neg (by decide), show (60 : Int32) * nI t + nI i = nI (60 * t + i) from by rw [pw_n60, pk_mul, nI_add], pw_and (vp_in_nI (by omega) (by omega)), nI_clamp (by omega)]
    exact ⟨z5 i (by omega), hi0⟩
  all_goals
    rw [hp_0 z1 (by first | exact Or.inl hi | exact Or.inr hi), if_pos rfl]
    dsimp only
    rw [mt_1 ht, if_neg (by decide), pw_and (vp_in_nI (by omega) (by omega))]
    by_cases s0 : pa_A u 64 0 t < 0
    · rw [if_pos s0]; exact ⟨rfl, hi0⟩
    · rw [if_neg s0, pw_and (vp_in_nI (by omega) (by omega)), z2, mi_0 hz (by first | exact Or.inl hi | exact Or.inr hi), if_pos rfl]
      exact ⟨rfl, hi0⟩
