/-! calls: ink, set, row, draw, shake, pass, told, count, of -/
theorem case_k4 {u : pa_S} {a1 a2 a3 a4 a5 : Int32} (hi : iv_I u) : pa_case iv_I u a1 a2 a3 a4 a5 4 := by
  have hi0 := hi
  obtain ⟨w, e, N, ⟨hf, hd, hc, hm, hz⟩, hr, hl, hn⟩ := hi
  show wp_X6_ink u a1 _
  unfold wp_X6_ink wb_X6_ink_0
  rcases rg_01 a1 0 999 (by omega) (by omega) with ⟨n, _, h, rfl⟩ | h
  · rw [wi_1 (A := 0) (B := 999) (lo := 0) (hi := 999) rfl rfl (by omega) h (by omega), if_neg (by decide)]
    simp only [forall_eq]
    unfold wp_X7_ink wb_X7_ink_0
    try dsimp only
    rw [in_1 (A := 0) (B := 999) (lo := 0) (hi := 999) rfl rfl (by omega) h (by omega), if_neg (by decide)]
    simp only [forall_eq]
    refine ⟨by rw [pI_sI, if_neg (by omega), hc.2.1, hm.2.1], ?_⟩
    refine iv_mk (w' := wo_set w (wo_s w) (wo_l w) n (wo_d w)) hr hl (fr_sI (by unfold fp_X; omega) (fr_sI (by unfold fp_X; omega) (fr_refl u))) ⟨⟨hf.1, hf.2.1, hf.2.2.1, hf.2.2.2.1, h, hf.2.2.2.2.2⟩, hd, ?_, ?_, ?_⟩ (Nat.le_refl _) (fun s hs => by rw [pN_sI, pN_sI]; exact hn s hs)
    · obtain ⟨c1, c2, c3, c4, c5, c6, c7, c8⟩ := hc
      refine ⟨?_, ?_, ?_, c4, c5, c6, c7, c8⟩
      · rw [pI_sI, if_neg (by omega), pI_sI, if_neg (by omega)]; exact c1
      · rw [pI_sI, if_neg (by omega), pI_sI, if_pos ⟨rfl, rfl, rfl⟩]; rfl
      · rw [pI_sI, if_neg (by omega), pI_sI, if_neg (by omega)]; exact c3
    · obtain ⟨c1, c2, c3, c4, c6, c7, c8⟩ := hm
      refine ⟨?_, ?_, ?_, ?_, c6, c7, c8⟩
      · rw [pI_sI, if_neg (by omega), pI_sI, if_neg (by omega)]; exact c1
      · rw [pI_sI, if_pos ⟨rfl, rfl, rfl⟩]; rfl
      · rw [pI_sI, if_neg (by omega), pI_sI, if_neg (by omega)]; exact c3
      · rw [pI_sI, if_neg (by omega), pI_sI, if_neg (by omega)]; exact c4
    · exact hz
  · rw [wi_0 (A := 0) (B := 999) (lo := 0) (hi := 999) rfl rfl h, if_pos rfl]
    unfold wp_X7_ink wb_X7_ink_0
    try dsimp only
    rw [in_0 (A := 0) (B := 999) (lo := 0) (hi := 999) rfl rfl h, if_pos rfl]
    exact ⟨rfl, hi0⟩
theorem case_k2 {u : pa_S} {a1 a2 a3 a4 a5 : Int32} (hi : iv_I u) : pa_case iv_I u a1 a2 a3 a4 a5 2 := by
  have hi0 := hi
  obtain ⟨w, e, N, ⟨hf, hd, hc, hm, hz⟩, hr, hl, hn⟩ := hi
  have h5 := hf.1
  show wp_X6_set u a1 a2 a3 _
  unfold wp_X6_set wb_X6_set_0
  rcases rg_h w a1 hf with ⟨h, hh, rfl⟩ | h
  rotate_left
  · rw [hasL_0 hf hc (Or.inl h), if_pos rfl]
    unfold wp_X7_set wb_X7_set_0
    try dsimp only
    rw [ih_0 hf hm h, if_pos rfl]
    exact ⟨rfl, hi0⟩
  rcases rg_01 a2 0 2 (by omega) (by omega) with ⟨l, _, hl2, rfl⟩ | hl2
  rotate_left
  · rw [hasL_0 hf hc (Or.inr hl2), if_pos rfl]
    unfold wp_X7_set wb_X7_set_0
    try dsimp only
    rw [ih_1 hf hm hh, if_neg (by decide), il_0 hl2, if_pos rfl]
    exact ⟨rfl, hi0⟩
  rw [sp_hasLine hf hc hh (by omega), if_neg (by decide)]
  rcases rg_01 a3 0 60 (by omega) (by omega) with ⟨n, _, hn2, rfl⟩ | hn2
  rotate_left
  · rw [wi_0 (A := 0) (B := 60) (lo := 0) (hi := 60) rfl rfl hn2, if_pos rfl]
    unfold wp_X7_set wb_X7_set_0
    try dsimp only
    rw [ih_1 hf hm hh, if_neg (by decide), il_1 (by omega), if_neg (by decide), ig_0 hn2, if_pos rfl]
    exact ⟨rfl, hi0⟩
  have gC : fr_of fp_C0 u (pa_sA u 5 0 (upd (pa_A u 5 0) (3 * h + l) (nI n))) := fr_sA (by unfold fp_C0; omega) (fr_refl u)
  have hm1 := wo_M_C0 gC hm
  rw [wi_1 (A := 0) (B := 60) (lo := 0) (hi := 60) rfl rfl (by omega) hn2 (by omega), if_neg (by decide), sp_lengthOf hf hc hh (by omega), sp_putLength hf hc hh (by omega)]
  unfold wp_X7_set wb_X7_set_0
  try dsimp only
  rw [ih_1 hf hm1 hh, if_neg (by decide), il_1 (by omega), if_neg (by decide), ig_1 hn2, if_neg (by decide), pw_n3, pk_mul, nI_add, pw_and (vp_in_nI (by omega) (by omega)), nI_clamp (by omega), hm1.2.2.2.2.2.1 _ (by omega)]
  simp only [forall_eq]
  rw [pw_and (vp_in_nI (by omega) (by omega))]
  refine ⟨trivial, iv_mk (w' := wo_wl w (fun j => if j = 3 * h + l then n else wo_l w j)) hr hl (fr_sA (by unfold fp_X; omega) (fr_mono (fun _ _ _ z => fp_CX z) gC)) ⟨wo_WF_wl hf (fun j hj => ?_), hd, ?_, ?_, ?_⟩ (Nat.le_refl _) (fun s hs => by rw [pN_sA, pN_sA]; exact hn s hs)⟩
  · have := hf.2.2.1 j hj
    show (if j = 3 * h + l then n else wo_l w j) ≤ 60
    split <;> omega
  · refine wo_C_M0 (fr_sA (by unfold fp_M0; omega) (fr_refl _)) (wo_C_wl (l := wo_l w) hc (fun j hj => ?_))
    rw [pw_upd]
    split
    · rfl
    · exact hc.2.2.2.2.2.2.1 j hj
  · refine wo_M_l hm1 (fun j hj => ?_)
    rw [pw_upd]
    split
    · rfl
    · exact hm1.2.2.2.2.2.1 j hj
  · exact iv_z_M0 (fr_sA (by unfold fp_M0; omega) (fr_refl _)) (iv_z_fr (P := fun t _ _ => t = 5) (fr_sA rfl (fr_refl u)) (by omega) (by omega) hz)
theorem case_k3 {u : pa_S} {a1 a2 a3 a4 a5 : Int32} (hi : iv_I u) : pa_case iv_I u a1 a2 a3 a4 a5 3 := by
  have hi0 := hi
  obtain ⟨w, e, N, ⟨hf, hd, hc, hm, hz⟩, hr, hl, hn⟩ := hi
  have h5 := hf.1
  show wp_X6_row u a1 a2 a3 _
  unfold wp_X6_row wb_X6_row_0
  rcases rg_h w a1 hf with ⟨h, hh, rfl⟩ | h
  rotate_left
  · rw [has_0 hc h, if_pos rfl]
    unfold wp_X7_row wb_X7_row_0
    try dsimp only
    rw [ih_0 hf hm h, if_pos rfl]
    exact ⟨rfl, hi0⟩
  have k6 := (hf.2.1 h hh).1
  rw [sp_has hf hc hh, if_neg (by decide)]
  rcases rg_01 a2 0 3 (by omega) (by omega) with ⟨l, _, hl2, rfl⟩ | hl2
  rotate_left
  · rw [wi_0 (A := 0) (B := 3) (lo := 0) (hi := 3) rfl rfl hl2, if_pos rfl]
    unfold wp_X7_row wb_X7_row_0
    try dsimp only
    rw [ih_1 hf hm hh, if_neg (by decide), in_0 (A := 0) (B := 3) (lo := 0) (hi := 3) rfl rfl hl2, if_pos rfl]
    exact ⟨rfl, hi0⟩
  rw [wi_1 (A := 0) (B := 3) (lo := 0) (hi := 3) rfl rfl (by omega) hl2 (by omega), if_neg (by decide)]
  rcases rg_01 a3 0 9 (by omega) (by omega) with ⟨n, _, hn2, rfl⟩ | hn2
  rotate_left
  · rw [wi_0 (A := 0) (B := 9) (lo := 0) (hi := 9) rfl rfl hn2, if_pos rfl]
    unfold wp_X7_row wb_X7_row_0
    try dsimp only
    rw [ih_1 hf hm hh, if_neg (by decide), in_1 (A := 0) (B := 3) (lo := 0) (hi := 3) rfl rfl (by omega) hl2 (by omega), if_neg (by decide), in_0 (A := 0) (B := 9) (lo := 0) (hi := 9) rfl rfl hn2, if_pos rfl]
    exact ⟨rfl, hi0⟩
  rw [wi_1 (A := 0) (B := 9) (lo := 0) (hi := 9) rfl rfl (by omega) hn2 (by omega), if_neg (by decide), sp_kindOf hf hc hh]
  by_cases hk : wo_k w h = 6
  rotate_left
  · rw [if_neg (show ¬ nI (wo_k w h) = 6 from fun z => hk ((nI_eq (b := 6) (by omega) (by omega)).mp z))]
    unfold wp_X7_row wb_X7_row_0
    try dsimp only
    rw [ih_1 hf hm hh, if_neg (by decide), in_1 (A := 0) (B := 3) (lo := 0) (hi := 3) rfl rfl (by omega) hl2 (by omega), if_neg (by decide), in_1 (A := 0) (B := 9) (lo := 0) (hi := 9) rfl rfl (by omega) hn2 (by omega), if_neg (by decide), pw_and (vp_in_nI (by omega) (by omega)), nI_clamp (by omega), (hm.2.2.2.2.1 h hh).1,
      if_neg (show ¬ nI (wo_k w h) = 6 from fun z => hk ((nI_eq (b := 6) (by omega) (by omega)).mp z))]
    exact ⟨rfl, hi0⟩
  have gC : fr_of fp_C0 u (pa_sA u 6 0 (upd (pa_A u 6 0) (4 * h + l) (nI n))) := fr_sA (by unfold fp_C0; omega) (fr_refl u)
  have hm1 := wo_M_C0 gC hm
  rw [if_pos (show nI (wo_k w h) = 6 by rw [hk]; rfl), sp_partOf hf hc hh (by omega), sp_putPart hf hc hh (by omega)]
  unfold wp_X7_row wb_X7_row_0
  try dsimp only
  rw [ih_1 hf hm1 hh, if_neg (by decide), in_1 (A := 0) (B := 3) (lo := 0) (hi := 3) rfl rfl (by omega) hl2 (by omega), if_neg (by decide), in_1 (A := 0) (B := 9) (lo := 0) (hi := 9) rfl rfl (by omega) hn2 (by omega), if_neg (by decide), pw_and (vp_in_nI (by omega) (by omega)), nI_clamp (by omega), (hm1.2.2.2.2.1 h hh).1,
    if_pos (show nI (wo_k w h) = 6 by rw [hk]; rfl), pw_n4, pk_mul, nI_add, pw_and (vp_in_nI (by omega) (by omega)), nI_clamp (by omega), hm1.2.2.2.2.2.2 _ (by omega)]
  simp only [forall_eq]
  rw [pw_and (vp_in_nI (by omega) (by omega))]
  obtain ⟨c1, c2, c3, c4, c5, c6, c7, c8⟩ := hc
  obtain ⟨d1, d2, d3, d4, d6, d7, d8⟩ := hm
  refine ⟨trivial, iv_mk (w' := (wo_n w, wo_k w, wo_v w, wo_s w, wo_l w, (fun j => if j = 4 * h + l then n else wo_r w j), wo_i w, wo_d w, wo_b w)) hr hl (fr_sA (by unfold fp_X; omega) (fr_mono (fun _ _ _ z => fp_CX z) gC)) ⟨⟨hf.1, hf.2.1, hf.2.2.1, fun j hj => ?_, hf.2.2.2.2⟩, hd, ?_, ?_, ?_⟩ (Nat.le_refl _) (fun s hs => by rw [pN_sA, pN_sA]; exact hn s hs)⟩
  · have := hf.2.2.2.1 j hj
    show (if j = 4 * h + l then n else wo_r w j) ≤ 9
    split <;> omega
  · refine ⟨c1, c2, c3, c4, c5, c6, c7, fun j hj => ?_⟩
    rw [pA_sA, if_neg (by omega), pA_sA, if_pos ⟨rfl, rfl⟩, pw_upd]
    show _ = nI (if j = 4 * h + l then n else wo_r w j)
    split
    · rfl
    · exact c8 j hj
  · refine ⟨d1, d2, d3, d4, fun j hj => ?_, fun j hj => ?_, fun j hj => ?_⟩
    · exact d6 j hj
    · exact d7 j hj
    · rw [pA_sA, if_pos ⟨rfl, rfl⟩, pw_upd]
      show _ = nI (if j = 4 * h + l then n else wo_r w j)
      split
      · rfl
      · exact d8 j hj
  · refine ⟨hz.1, fun j hj hj2 => ?_⟩
    have hj3 : 4 * wo_n w ≤ j := hj
    rw [pA_sA, if_neg (by omega), pA_sA, if_pos ⟨rfl, rfl⟩, pw_upd, if_neg (by omega)]
    exact hz.2 j hj hj2
theorem case_k5 {u : pa_S} {a1 a2 a3 a4 a5 : Int32} (hi : iv_I u) : pa_case iv_I u a1 a2 a3 a4 a5 5 := by
  have hi0 := hi
  obtain ⟨w, e, N, ⟨hf, hd, hc, hm, hz⟩, hr, hl, hn⟩ := hi
  have h5 := hf.1
  show wp_X6_draw u a1 a2 a3 _
  unfold wp_X6_draw wb_X6_draw_0
  rcases rg_h w a1 hf with ⟨h, hh, rfl⟩ | h
  rotate_left
  · rw [hasL_0 hf hc (Or.inl h), if_pos rfl]
    unfold wp_X7_draw wb_X7_draw_0
    try dsimp only
    rw [ih_0 hf hm h, if_pos rfl]
    exact ⟨rfl, hi0⟩
  rcases rg_01 a2 0 2 (by omega) (by omega) with ⟨l, _, hl2, rfl⟩ | hl2
  rotate_left
  · rw [hasL_0 hf hc (Or.inr hl2), if_pos rfl]
    unfold wp_X7_draw wb_X7_draw_0
    try dsimp only
    rw [ih_1 hf hm hh, if_neg (by decide), il_0 hl2, if_pos rfl]
    exact ⟨rfl, hi0⟩
  rw [sp_hasLine hf hc hh (by omega), if_neg (by decide)]
  rcases rg_01 a3 0 60 (by omega) (by omega) with ⟨n, _, hn2, rfl⟩ | hn2
  rotate_left
  · rw [wi_0 (A := 0) (B := 60) (lo := 0) (hi := 60) rfl rfl hn2, if_pos rfl]
    unfold wp_X7_draw wb_X7_draw_0
    try dsimp only
    rw [ih_1 hf hm hh, if_neg (by decide), il_1 (by omega), if_neg (by decide), ig_0 hn2, if_pos rfl]
    exact ⟨rfl, hi0⟩
  have hb := iv_b hr hc
  have hE := hr.1
  rw [wi_1 (A := 0) (B := 60) (lo := 0) (hi := 60) rfl rfl (by omega) hn2 (by omega), if_neg (by decide)]
  refine sp_drawOn hf hc hE.2.2.2.2.2.1 hE.2.2.2.2.2.2.2 hb hh (by omega) hn2 (fun v hv hg => ?_)
  have gC : fr_of fp_C0 u v := fr_mono (fun _ _ _ z => fp_oC (by omega) (fp_do z)) hg
  have hm1 := wo_M_C0 gC hm
  unfold wp_X7_draw wb_X7_draw_0
  try dsimp only
  rw [ih_1 hf hm1 hh, if_neg (by decide), il_1 (by omega), if_neg (by decide), ig_1 hn2, if_neg (by decide)]
  refine mp_draws hf hm1 (en_M_C0 gC hE.2.2.2.2.2.2.1) hE.2.2.2.2.2.2.2 hb hh (by omega) hn2 (fun x hx hgx => ⟨rfl, ?_⟩)
  have gM : fr_of fp_M0 v x := fr_mono (fun _ _ _ z => fp_wM z) hgx
  refine iv_mk (w' := wo_dw e w h l n) hr hl (fr_trans (fr_mono (fun _ _ _ z => fp_CX z) gC) (fr_mono (fun _ _ _ z => fp_MX z) gM)) ⟨wo_WF_dw hf hE.2.2.2.2.2.2.2 hb hh (by omega), hd, wo_C_M0 gM hv, hx, ?_⟩ (Nat.le_refl _) (iv_n_M0 gM (iv_n_o (fr_mono (fun _ _ _ z => fp_do z) hg) hn))
  refine iv_z_M0 gM ⟨fun k hk hk2 => ?_, fun j hj hj2 => ?_⟩
  · rw [hg.2.1 4 0 (by unfold fp_d; omega)]; exact hz.1 k hk hk2
  · rw [hg.2.1 6 0 (by unfold fp_d; omega)]; exact hz.2 j hj hj2
