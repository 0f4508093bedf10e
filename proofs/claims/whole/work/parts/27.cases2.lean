/-! calls: shake, pass, told, count, of -/
theorem case_k6 {u : pa_S} {a1 a2 a3 a4 a5 : Int32} (hi : iv_I u) : pa_case iv_I u a1 a2 a3 a4 a5 6 := by
  have hi0 := hi
  obtain ⟨w, e, N, ⟨hf, hd, hc, hm, hz⟩, hr, hl, hn⟩ := hi
  have h5 := hf.1
  show wp_X6_shake u a1 a2 _
  unfold wp_X6_shake wb_X6_shake_0
  rcases rg_h w a1 hf with ⟨h, hh, rfl⟩ | h
  rotate_left
  · rw [has_0 hc h, if_pos rfl]
    unfold wp_X7_shake wb_X7_shake_0
    try dsimp only
    rw [ih_0 hf hm h, if_pos rfl]
    exact ⟨rfl, hi0⟩
  rw [sp_has hf hc hh, if_neg (by decide)]
  rcases rg_h w a2 hf with ⟨k, hk, rfl⟩ | hk
  rotate_left
  · rw [has_0 hc hk, if_pos rfl]
    unfold wp_X7_shake wb_X7_shake_0
    try dsimp only
    rw [ih_1 hf hm hh, if_neg (by decide), ih_0 hf hm hk, if_pos rfl]
    exact ⟨rfl, hi0⟩
  rw [sp_has hf hc hk, if_neg (by decide)]
  by_cases hne : h = k
  · rw [if_pos (show nI h = nI k by rw [hne])]
    unfold wp_X7_shake wb_X7_shake_0
    try dsimp only
    rw [ih_1 hf hm hh, if_neg (by decide), ih_1 hf hm hk, if_neg (by decide), if_pos (show nI h = nI k by rw [hne])]
    exact ⟨rfl, hi0⟩
  rw [if_neg (show ¬ nI h = nI k from fun z => hne ((nI_eq (by omega) (by omega)).mp z))]
  have hb := iv_b hr hc
  have hE := hr.1
  refine sp_shakeHands hf hc hE.2.2.2.2.2.1 hE.2.2.2.2.2.2.2 hb hh hk hne (fun v hv hg hq => ?_)
  have gC : fr_of fp_C0 u v := fr_mono (fun _ _ _ z => fp_oC (by omega) z) hg
  have hm1 := wo_M_C0 gC hm
  unfold wp_X7_shake wb_X7_shake_0
  try dsimp only
  rw [ih_1 hf hm1 hh, if_neg (by decide), ih_1 hf hm1 hk, if_neg (by decide), if_neg (show ¬ nI h = nI k from fun z => hne ((nI_eq (by omega) (by omega)).mp z))]
  refine mp_prints hf hm1 (en_M_C0 gC hE.2.2.2.2.2.2.1) hE.2.2.2.2.2.2.2 hb hh hk hne (fun x hx hgx => ⟨rfl, ?_⟩)
  have gM : fr_of fp_M0 v x := fr_mono (fun _ _ _ z => fp_wM z) hgx
  have hwd : wo_d (wo_hw e w h k) = wo_d w ∧ wo_n (wo_hw e w h k) = wo_n w := by
    unfold wo_hw
    split <;> exact ⟨rfl, rfl⟩
  refine iv_mk (w' := wo_hw e w h k) hr hl (fr_trans (fr_mono (fun _ _ _ z => fp_CX z) gC) (fr_mono (fun _ _ _ z => fp_MX z) gM)) ⟨wo_WF_hw hf hE.2.2.2.2.2.2.2 hb hh hk, by rw [hwd.1]; exact hd, wo_C_M0 gM hv, hx, ?_⟩ (by rw [hwd.2]; exact Nat.le_refl _) (iv_n_M0 gM (iv_n_o hg hn))
  refine iv_z_M0 gM ⟨fun j hj hj2 => ?_, fun j hj hj2 => ?_⟩
  · rw [hwd.2] at hj
    rw [hq j (by omega) (by omega)]; exact hz.1 j hj hj2
  · rw [hwd.2] at hj
    rw [hg.2.1 6 0 (by unfold fp_o; omega)]; exact hz.2 j hj hj2
theorem case_k10 {u : pa_S} {a1 a2 a3 a4 a5 : Int32} (hi : iv_I u) : pa_case iv_I u a1 a2 a3 a4 a5 10 := by
  have hi0 := hi
  obtain ⟨w, e, N, ⟨hf, hd, hc, hm, hz⟩, hr, hl, hn⟩ := hi
  have h5 := hf.1
  show wp_X6_pass u a1 _
  unfold wp_X6_pass wb_X6_pass_0
  rcases rg_01 a1 0 60 (by omega) (by omega) with ⟨n, _, h, rfl⟩ | h
  rotate_left
  · rw [wi_0 (A := 0) (B := 60) (lo := 0) (hi := 60) rfl rfl h, if_pos rfl]
    unfold wp_X7_pass wb_X7_pass_0
    try dsimp only
    rw [in_0 (A := 0) (B := 60) (lo := 0) (hi := 60) rfl rfl h, if_pos rfl]
    exact ⟨rfl, hi0⟩
  rw [wi_1 (A := 0) (B := 60) (lo := 0) (hi := 60) rfl rfl (by omega) h (by omega), if_neg (by decide), hc.2.2.1, nI_add]
  by_cases hd2 : wo_d w + n ≤ 9999
  rotate_left
  · rw [if_neg (show ¬ nI (wo_d w + n) ≤ 9999 from nI_ge (a := 9999) (by omega) (by omega))]
    unfold wp_X7_pass wb_X7_pass_0
    try dsimp only
    rw [in_1 (A := 0) (B := 60) (lo := 0) (hi := 60) rfl rfl (by omega) h (by omega), if_neg (by decide), hm.2.2.1, nI_add, if_neg (show ¬ nI (wo_d w + n) ≤ 9999 from nI_ge (a := 9999) (by omega) (by omega))]
    exact ⟨rfl, hi0⟩
  rw [if_pos (show nI (wo_d w + n) ≤ 9999 from nI_le (b := 9999) (by omega) (by omega))]
  refine sp_goDays hf h hc (fun v hv hg => ?_)
  have gC : fr_of fp_C0 u v := fr_mono (fun _ _ _ z => fp_oC (by omega) (fp_do z)) hg
  have hm1 := wo_M_C0 gC hm
  unfold wp_X7_pass wb_X7_pass_0
  try dsimp only
  rw [in_1 (A := 0) (B := 60) (lo := 0) (hi := 60) rfl rfl (by omega) h (by omega), if_neg (by decide), hm1.2.2.1, nI_add, if_pos (show nI (wo_d w + n) ≤ 9999 from nI_le (b := 9999) (by omega) (by omega))]
  refine mp_goDays hf hm1 (by omega) (by omega) (fun x hx hgx => ⟨?_, ?_⟩)
  · rw [hv.2.2.1, hx.2.2.1]
  have gM : fr_of fp_M0 v x := fr_mono (fun _ _ _ z => fp_wM z) hgx
  refine iv_mk (w' := wo_go w n) hr hl (fr_trans (fr_mono (fun _ _ _ z => fp_CX z) gC) (fr_mono (fun _ _ _ z => fp_MX z) gM)) ⟨wo_WF_go hf (by omega), hd2, wo_C_M0 gM hv, hx, ?_⟩ (Nat.le_refl _) (iv_n_M0 gM (iv_n_o (fr_mono (fun _ _ _ z => fp_do z) hg) hn))
  exact iv_z_M0 gM (iv_z_fr hg (by unfold fp_d; omega) (by unfold fp_d; omega) hz)
theorem iv_l_cnt {u : pa_S} {n : Nat} (h : iv_l u n) : pa_I u 8 0 1 = pa_I u 24 0 36 ∧ pa_I u 8 1 1 = pa_I u 24 0 40 ∧ pa_I u 8 2 1 = pa_I u 24 0 30 := by
  obtain ⟨⟨a, _, a1, a2, _⟩, ⟨b, _, b1, b2, _⟩, ⟨c, _, c1, c2, _⟩⟩ := h
  rw [a1, a2, b1, b2, c1, c2]
  exact ⟨rfl, rfl, rfl⟩
theorem case_k32 {u : pa_S} {a1 a2 a3 a4 a5 : Int32} (hi : iv_I u) : pa_case iv_I u a1 a2 a3 a4 a5 32 := by
  have hi0 := hi
  obtain ⟨w, e, N, ⟨hf, hd, hc, hm, hz⟩, hr, hl, hn⟩ := hi
  show wp_X6_count u a1 _
  have c0 : pa_I u 1 0 6 = pa_I u 24 0 0 := by rw [hc.1, hm.1]
  have c1 : pa_I u 0 0 12 = pa_I u 24 0 8 := by rw [hr.1.2.2.2.1, hr.1.2.2.2.2.1]
  have c2 := iv_l_cnt hl
  have c5 : pa_I u 10 0 3 = pa_I u 24 0 10 := by
    obtain ⟨z, _, z1, z2, _⟩ := hr.2.1
    rw [z1, z2]
  have c6 : pa_I u 17 0 1 = pa_I u 24 0 63 := by
    obtain ⟨z, _, z1, z2, _⟩ := hr.2.2.2.1
    rw [z1, z2]
  unfold wp_X6_count wb_X6_count_0 wp_X7_count wb_X7_count_0 wp_X5_size wb_X5_size_0 wp_X0_ran wb_X0_ran_0
  rw [c0, c1, c2.1, c2.2.1, c2.2.2, c5, c6]
  by_cases h0 : a1 = 0
  · rw [if_pos h0]; dsimp only; rw [if_pos h0]; exact ⟨rfl, hi0⟩
  rw [if_neg h0]
  by_cases h1 : a1 = 1
  · rw [if_pos h1]; dsimp only; rw [if_neg h0, if_pos h1]; exact ⟨rfl, hi0⟩
  rw [if_neg h1]
  by_cases h2 : a1 = 2
  · rw [if_pos h2]; dsimp only; rw [if_neg h0, if_neg h1, if_pos h2]; exact ⟨rfl, hi0⟩
  rw [if_neg h2]
  by_cases h3 : a1 = 3
  · rw [if_pos h3]; dsimp only; rw [if_neg h0, if_neg h1, if_neg h2, if_pos h3]; exact ⟨rfl, hi0⟩
  rw [if_neg h3]
  by_cases h4 : a1 = 4
  · rw [if_pos h4]; dsimp only; rw [if_neg h0, if_neg h1, if_neg h2, if_neg h3, if_pos h4]; exact ⟨rfl, hi0⟩
  rw [if_neg h4]
  by_cases h5 : a1 = 5
  · rw [if_pos h5]; dsimp only; rw [if_neg h0, if_neg h1, if_neg h2, if_neg h3, if_neg h4, if_pos h5]; exact ⟨rfl, hi0⟩
  rw [if_neg h5]
  by_cases h6 : a1 = 6
  · rw [if_pos h6]; dsimp only; rw [if_neg h0, if_neg h1, if_neg h2, if_neg h3, if_neg h4, if_neg h5, if_pos h6]; exact ⟨rfl, hi0⟩
  rw [if_neg h6]; dsimp only; rw [if_neg h0, if_neg h1, if_neg h2, if_neg h3, if_neg h4, if_neg h5, if_neg h6]; exact ⟨rfl, hi0⟩
/-- a question's end: the world is as it was -/
theorem iv_q {u v : pa_S} {w : pw_W} {e : pw_E} {N : Nat} (hw : iv_w u w) (hr : iv_r u e N) (hl : iv_l u (wo_n w)) (hg : fr_of fp_X u v) (hc : wo_C v 0 w) (hm : wo_M v w) (hz : iv_z v 0 w) (hn : iv_n v N) : iv_I v :=
  iv_mk hr hl hg ⟨hw.1, hw.2.1, hc, hm, hz⟩ (Nat.le_refl _) hn
theorem case_k9 {u : pa_S} {a1 a2 a3 a4 a5 : Int32} (hi : iv_I u) : pa_case iv_I u a1 a2 a3 a4 a5 9 := by
  have hi0 := hi
  obtain ⟨w, e, N, hw, hr, hl, hn⟩ := hi
  obtain ⟨hf, hd, hc, hm, hz⟩ := hw
  have hb := iv_b hr hc
  have hE := hr.1
  have hen := en_at hE.2.2.2.2.2.2.1 hm hb
  show wp_X6_told u a1 _
  unfold wp_X6_told wb_X6_told_0
  have X : ∀ (v : pa_S) po, wp_X7_told v a1 po = wb_X7_told_0 v a1 po := fun _ _ => rfl
  simp only [X]
  unfold wb_X7_told_0
  by_cases h0 : a1 = 0
  · rw [if_pos h0]; dsimp only; rw [if_pos h0, hc.2.2.1, hm.2.2.1]; exact ⟨rfl, hi0⟩
  rw [if_neg h0]
  by_cases h1 : a1 = 1
  · rw [if_pos h1, hc.2.2.2.1]; dsimp only; rw [if_neg h0, if_pos h1, hen.1, (hE.2.2.2.2.2.1 _ (by rw [hE.1]; exact hb)).1]; exact ⟨hc.2.2.2.2.1, rfl, hi0⟩
  rw [if_neg h1]
  by_cases h2 : a1 = 2
  · rw [if_pos h2, hc.2.2.2.1]; dsimp only; rw [if_neg h0, if_neg h1, if_pos h2, hen.2, (hE.2.2.2.2.2.1 _ (by rw [hE.1]; exact hb)).2.1]; exact ⟨hc.2.2.2.2.1, rfl, hi0⟩
  rw [if_neg h2]
  by_cases h3 : a1 = 3
  · rw [if_pos h3]; dsimp only; rw [if_neg h0, if_neg h1, if_neg h2, if_pos h3, hc.2.1, hm.2.1]; exact ⟨rfl, hi0⟩
  rw [if_neg h3]
  by_cases h4 : a1 = 4
  · rw [if_pos h4]
    refine sp_fortuneOfAll hf hc hE.2.2.2.2.2.1 hE.2.2.2.2.2.2.2 hb (fun v hv => ?_)
    dsimp only
    rw [if_neg h0, if_neg h1, if_neg h2, if_neg h3, if_pos h4]
    have gC : fr_of fp_C0 u v := fr_mono (fun _ _ _ z => fp_vC z) hv
    refine mp_allFortunes hf (wo_M_C0 gC hm) (en_M_C0 gC hE.2.2.2.2.2.2.1) hE.2.2.2.2.2.2.2 hb (fun x hx => ⟨rfl, ?_⟩)
    have gM : fr_of fp_M0 v x := fr_mono (fun _ _ _ z => fp_gM z) hx
    exact iv_q ⟨hf, hd, hc, hm, hz⟩ hr hl (fr_trans (fr_mono (fun _ _ _ z => fp_CX z) gC) (fr_mono (fun _ _ _ z => fp_MX z) gM)) (wo_C_M0 gM (wo_C_frv hv hc)) (wo_M_frg hx (wo_M_C0 gC hm)) (iv_z_M0 gM (iv_z_fr hv (by unfold fp_v; omega) (by unfold fp_v; omega) hz)) (iv_n_M0 gM (iv_n_v hv hn))
  rw [if_neg h4]
  by_cases h5 : a1 = 5
  · rw [if_pos h5, sp_lengthOfAll hf hc]; dsimp only; rw [if_neg h0, if_neg h1, if_neg h2, if_neg h3, if_neg h4, if_pos h5, mp_allLengths hf hm]; exact ⟨rfl, hi0⟩
  rw [if_neg h5]; dsimp only; rw [if_neg h0, if_neg h1, if_neg h2, if_neg h3, if_neg h4, if_neg h5]; exact ⟨rfl, hi0⟩
