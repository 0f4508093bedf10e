/-! trace, taken -/
theorem case_k30 {u : pa_S} {a1 a2 a3 a4 a5 : Int32} (hi : iv_I u) : pa_case iv_I u a1 a2 a3 a4 a5 30 := by
  have hi0 := hi
  obtain ⟨w, e, N, hw⟩ := hi
  obtain ⟨z, hz, z1, z2, z3⟩ := hw.2.1.2.2.2.1
  show wp_X6_trace u a1 _
  have X : ∀ (v : pa_S) po, wp_X7_trace v a1 po = wb_X7_trace_0 v a1 po := fun _ _ => rfl
  simp only [X]
  unfold wp_X6_trace wb_X6_trace_0 wb_X7_trace_0
  have K : ∀ po, wp_X0_isKept u a1 po = wb_X0_isKept_0 u a1 po := fun _ => rfl
  rcases rg_01 a1 0 19 (by omega) (by omega) with ⟨n, _, hn, rfl⟩ | hn
  · by_cases y : n < z
    · have kp : ∀ po, wp_X0_isKept u (nI n) po = po 1 := by
        intro po
        rw [K]
        unfold wb_X0_isKept_0
        rw [if_neg (nI_pos (by omega)), z1, if_neg (nI_ge y (by omega)), if_neg (show ¬ (20 : Int32) ≤ nI n from nI_ge (b := 20) (by omega) (by omega))]
      rw [kp, if_neg (by decide)]
      unfold wp_X0_bodyAt wb_X0_bodyAt_0
      rw [kp, if_neg (by decide), pw_and (vp_in_nI (by omega) (by omega)), nI_clamp (by omega)]
      dsimp only
      rw [in_1 (A := 0) (B := 19) (lo := 0) (hi := 19) rfl rfl (by omega) hn (by omega), if_neg (by decide), z2, if_neg (nI_ge y (by omega)), pw_and (vp_in_nI (by omega) (by omega))]
      exact ⟨z3 n y (by omega), hi0⟩
    · rw [K]
      unfold wb_X0_isKept_0
      rw [if_neg (nI_pos (by omega)), z1, if_pos (nI_le (by omega) (by omega))]
      dsimp only
      rw [if_pos rfl]
      rw [in_1 (A := 0) (B := 19) (lo := 0) (hi := 19) rfl rfl (by omega) hn (by omega), if_neg (by decide), z2, if_pos (nI_le (by omega) (by omega))]
      exact ⟨rfl, hi0⟩
  · have kp : ∀ po, wp_X0_isKept u a1 po = po 0 := by
      intro po
      rw [K]
      unfold wb_X0_isKept_0
      rcases hn with hn | hn
      · rw [if_pos (show a1 < 0 from hn)]
      · by_cases y : a1 < 0
        · rw [if_pos y]
        · rw [if_neg y]
          by_cases y2 : pa_I u 17 0 1 ≤ a1
          · rw [if_pos y2]
          · rw [if_neg y2, if_pos]
            rw [Int32.lt_iff_toInt_lt] at hn
            rw [Int32.le_iff_toInt_le]
            have e1 : (nI 19).toInt = 19 := by decide
            have e2 : (20 : Int32).toInt = 20 := by decide
            omega
    rw [kp, if_pos rfl]
    dsimp only
    rw [in_0 (A := 0) (B := 19) (lo := 0) (hi := 19) rfl rfl hn, if_pos rfl]
    exact ⟨rfl, hi0⟩
theorem sl_taken {u : pa_S} {po : Int32 → Prop} : ∀ (q k : Fin 7), wl_X6_taken_42 po u 5000 (nI q) (nI k) (nI k) 0 = po (if q.val = 0 ∨ k.val = q.val ∨ (q.val = 1 ∧ k.val = 4) ∨ (q.val = 2 ∧ k.val = 5) ∨ (q.val = 3 ∧ k.val = 6) then nI k else -12) := by
  have step : ∀ (f : Nat) (q k at' : Nat) (c : Nat), q ≤ 6 → at' ≤ 6 → c < 7 → wl_X6_taken_42 po u (f + 1) (nI q) (nI k) (nI at') (nI c) = if at' = q then po (nI k) else wl_X6_taken_42 po u f (nI q) (nI k) (pa_kab.getD at' 0) (nI (c + 1)) := by
    intro f q k at' c hq ha hc
    show wb_X6_taken_42 _ u (nI q) (nI k) (nI at') (nI c) po = _
    unfold wb_X6_taken_42
    rw [if_neg (show ¬ (7 : Int32) ≤ nI c from nI_ge (b := 7) (by omega) (by omega)), wi_1 (A := 0) (B := 6) (lo := 0) (hi := 6) rfl rfl (by omega) ha (by omega), if_neg (by decide)]
    by_cases z : at' = q
    · rw [if_pos z, if_pos (show nI at' = nI q by rw [z])]
    · rw [if_neg z, if_neg (show ¬ nI at' = nI q from fun y => z ((nI_eq (by omega) (by omega)).mp y)), pw_and (vp_in_nI (by omega) (by omega)), nI_clamp (by omega)]
      simp only [forall_eq, pw_n1, nI_add]
  have stop : ∀ (f : Nat) (q k : Nat) (c : Nat), c < 7 → wl_X6_taken_42 po u (f + 1) (nI q) (nI k) (-1) (nI c) = po (-12) := by
    intro f q k c hc
    show wb_X6_taken_42 _ u (nI q) (nI k) (-1) (nI c) po = _
    unfold wb_X6_taken_42
    rw [if_neg (show ¬ (7 : Int32) ≤ nI c from nI_ge (b := 7) (by omega) (by omega)), wi_0 (A := 0) (B := 6) (lo := 0) (hi := 6) rfl rfl (Or.inl (by decide)), if_pos rfl]
  have k0 : pa_kab.getD 0 0 = -1 := rfl
  have k1 : pa_kab.getD 1 0 = nI 0 := rfl
  have k2 : pa_kab.getD 2 0 = nI 0 := rfl
  have k3 : pa_kab.getD 3 0 = nI 0 := rfl
  have k4 : pa_kab.getD 4 0 = nI 1 := rfl
  have k5 : pa_kab.getD 5 0 = nI 2 := rfl
  have k6 : pa_kab.getD 6 0 = nI 3 := rfl
  intro ⟨q, hq⟩ ⟨k, hk⟩
  show wl_X6_taken_42 po u (4996 + 1 + 1 + 1 + 1) (nI q) (nI k) (nI k) (nI 0) = _
  dsimp only
  rw [step _ q k k 0 (by omega) (by omega) (by omega)]
  rcases (show k = 0 ∨ k = 1 ∨ k = 2 ∨ k = 3 ∨ k = 4 ∨ k = 5 ∨ k = 6 by omega) with rfl | rfl | rfl | rfl | rfl | rfl | rfl
  · rw [k0, stop _ _ _ _ (by omega)]
    split <;> split <;> first | rfl | omega
  · rw [k1, step _ q 1 0 _ (by omega) (by omega) (by omega), k0, stop _ _ _ _ (by omega)]
    repeat' split
    all_goals first | rfl | omega
  · rw [k2, step _ q 2 0 _ (by omega) (by omega) (by omega), k0, stop _ _ _ _ (by omega)]
    repeat' split
    all_goals first | rfl | omega
  · rw [k3, step _ q 3 0 _ (by omega) (by omega) (by omega), k0, stop _ _ _ _ (by omega)]
    repeat' split
    all_goals first | rfl | omega
  · rw [k4, step _ q 4 1 _ (by omega) (by omega) (by omega), k1, step _ q 4 0 _ (by omega) (by omega) (by omega), k0, stop _ _ _ _ (by omega)]
    repeat' split
    all_goals first | rfl | omega
  · rw [k5, step _ q 5 2 _ (by omega) (by omega) (by omega), k2, step _ q 5 0 _ (by omega) (by omega) (by omega), k0, stop _ _ _ _ (by omega)]
    repeat' split
    all_goals first | rfl | omega
  · rw [k6, step _ q 6 3 _ (by omega) (by omega) (by omega), k3, step _ q 6 0 _ (by omega) (by omega) (by omega), k0, stop _ _ _ _ (by omega)]
    repeat' split
    all_goals first | rfl | omega
theorem case_k31 {u : pa_S} {a1 a2 a3 a4 a5 : Int32} (hi : iv_I u) : pa_case iv_I u a1 a2 a3 a4 a5 31 := by
  have hi0 := hi
  obtain ⟨w, e, N, hw⟩ := hi
  have hf := iv_F hw
  have hm := iv_M hw
  have h5 := hf.1
  show wp_X6_taken u a1 a2 _
  have X : ∀ (v : pa_S) po, wp_X7_taken v a1 a2 po = wb_X7_taken_0 v a1 a2 po := fun _ _ => rfl
  simp only [X]
  unfold wp_X6_taken wb_X6_taken_0 wb_X7_taken_0
  rcases rg_01 a2 0 6 (by omega) (by omega) with ⟨q, _, hq, rfl⟩ | hq
  rotate_left
  · rw [wi_0 (A := 0) (B := 6) (lo := 0) (hi := 6) rfl rfl hq, if_pos rfl]; dsimp only
    rw [in_0 (A := 0) (B := 6) (lo := 0) (hi := 6) rfl rfl hq, if_pos rfl]
    exact ⟨rfl, hi0⟩
  rw [wi_1 (A := 0) (B := 6) (lo := 0) (hi := 6) rfl rfl (by omega) hq (by omega), if_neg (by decide)]
  rcases rg_h w a1 hf with ⟨h, hh, rfl⟩ | h
  rotate_left
  · rw [has_0 (iv_C hw) h, if_pos rfl]; dsimp only
    rw [in_1 (A := 0) (B := 6) (lo := 0) (hi := 6) rfl rfl (by omega) hq (by omega), if_neg (by decide), ih_0 hf hm h, if_pos rfl]
    exact ⟨rfl, hi0⟩
  have k6 := (hf.2.1 h hh).1
  rw [sp_has hf (iv_C hw) hh, if_neg (by decide), sp_kindOf hf (iv_C hw) hh]
  have s := @sl_taken u (fun (r : Int32) => wb_X7_taken_0 u (nI h) (nI q) (fun (r' : Int32) => r = r' ∧ iv_I u)) ⟨q, by omega⟩ ⟨wo_k w h, by omega⟩
  dsimp only at s
  unfold wb_X7_taken_0 at s
  rw [s, in_1 (A := 0) (B := 6) (lo := 0) (hi := 6) rfl rfl (by omega) hq (by omega), if_neg (by decide), ih_1 hf hm hh, if_neg (by decide), pw_and (vp_in_nI (by omega) (by omega)), nI_clamp (by omega), (hm.2.2.2.2.1 h hh).1]
  unfold wb_X7_taken_51 wb_X7_taken_61
  have c0 : (nI q = 0) = (q = 0) := pw_eqI (b := 0) (by omega) (by omega)
  have c1 : (nI q = 1) = (q = 1) := pw_eqI (b := 1) (by omega) (by omega)
  have c2 : (nI q = 2) = (q = 2) := pw_eqI (b := 2) (by omega) (by omega)
  have c3 : (nI q = 3) = (q = 3) := pw_eqI (b := 3) (by omega) (by omega)
  have d0 : (nI (wo_k w h) = nI q) = (wo_k w h = q) := pw_eqI (by omega) (by omega)
  have d4 : (nI (wo_k w h) = 4) = (wo_k w h = 4) := pw_eqI (b := 4) (by omega) (by omega)
  have d5 : (nI (wo_k w h) = 5) = (wo_k w h = 5) := pw_eqI (b := 5) (by omega) (by omega)
  have d6 : (nI (wo_k w h) = 6) = (wo_k w h = 6) := pw_eqI (b := 6) (by omega) (by omega)
  simp only [forall_eq, c0, c1, c2, c3, d0, d4, d5, d6]
  repeat' split
  all_goals first | exact ⟨rfl, hi0⟩ | (exfalso; omega)
