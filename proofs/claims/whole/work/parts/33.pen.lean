/-! pen -/
section PEN
variable {w : pw_W} {e : pw_E} {N : Nat}
def wo_pe (e : pw_E) (w : pw_W) (h n : Nat) : Nat → Nat → Int32 → Int32 → Int32
  | 0, _, r, _ => r
  | k + 1, l, r, m => if nI (wo_fu e (wo_dw e w h l n) h) ≤ m then wo_pe e w h n k (l + 1) r m else wo_pe e w h n k (l + 1) (nI l) (nI (wo_fu e (wo_dw e w h l n) h))
theorem sl_pen {h n : Nat} {po : Int32 → pa_S → Prop} (hh : h < wo_n w) (hn : n ≤ 60) :
    ∀ (k f l : Nat) (r m : Int32) (v : pa_S), l + k = 3 → k < f → iv_at v w e N → (∀ x, iv_at x w e N → po (wo_pe e w h n k l r m) x) → wl_X6_pen_34 po f v (nI h) (nI n) r m (nI l)
  | 0, f + 1, l, r, m, v, eq, _, hv, hk => by
    obtain rfl : l = 3 := by omega
    unfold wl_X6_pen_34 wb_X6_pen_34
    rw [if_pos (by decide)]
    exact hk v hv
  | k + 1, f + 1, l, r, m, v, eq, hlt, hv, hk => by
    unfold wl_X6_pen_34 wb_X6_pen_34
    rw [if_neg (show ¬ (3 : Int32) ≤ nI l from nI_ge (b := 3) (by omega) (by omega))]
    refine qc_start hv (by omega) (fun v1 q1 hv1 => ?_)
    have hw1 := iv_at_qc hv q1
    refine sp_drawOn (iv_F hv) hv1 (iv_EC hw1) (iv_EW hv) (iv_B hv) hh (by omega) hn (fun v2 hv2 hg2 => ?_)
    have hw2 := iv_at_qc hw1 (qc_d (N := N) (by omega) hg2)
    have hb0 := iv_B hv
    refine sp_fortuneOf (wo_WF_dw (iv_F hv) (iv_EW hv) hb0 hh (by omega)) hv2 (iv_EC hw2) (iv_EW hv) (show wo_b (wo_dw e w h l n) < N from hb0) hh (fun v3 hv3 => ?_)
    have hw3 := iv_at_qc hw2 (qc_v (N := N) hv3)
    unfold wo_pe at hk
    by_cases z : nI (wo_fu e (wo_dw e w h l n) h) ≤ m
    · rw [if_pos z]
      rw [if_pos z] at hk
      unfold wb_X6_pen_89
      simp only [forall_eq, pw_n1, nI_add]
      exact sl_pen hh hn k f (l + 1) r m v3 (by omega) (by omega) hw3 hk
    · rw [if_neg z]
      rw [if_neg z] at hk
      unfold wb_X6_pen_89
      simp only [forall_eq, pw_n1, nI_add]
      exact sl_pen hh hn k f (l + 1) _ _ v3 (by omega) (by omega) hw3 hk
theorem ml_pen {h n : Nat} {po : Int32 → pa_S → Prop} (hh : h < wo_n w) (hn : n ≤ 60) :
    ∀ (k f l : Nat) (r m : Int32) (v : pa_S), l + k = 3 → k < f → iv_at v w e N → (∀ x, iv_at x w e N → po (wo_pe e w h n k l r m) x) → wl_X7_pen_32 po f v (nI h) (nI n) r m (nI l)
  | 0, f + 1, l, r, m, v, eq, _, hv, hk => by
    obtain rfl : l = 3 := by omega
    unfold wl_X7_pen_32 wb_X7_pen_32
    rw [if_pos (by decide)]
    exact hk v hv
  | k + 1, f + 1, l, r, m, v, eq, hlt, hv, hk => by
    unfold wl_X7_pen_32 wb_X7_pen_32
    rw [if_neg (show ¬ (3 : Int32) ≤ nI l from nI_ge (b := 3) (by omega) (by omega))]
    have hb0 := iv_B hv
    refine mp_save (iv_F hv) (iv_M hv) (fun v1 hv1 hK hg1 => ?_)
    have g1 : fr_of fp_M0 v v1 := fr_mono (fun _ _ _ z => fp_kM z) hg1
    refine mp_draws (iv_F hv) hv1 (en_M_M0 g1 (iv_EM hv)) (iv_EW hv) hb0 hh (by omega) hn (fun v2 hv2 hg2 => ?_)
    have g2 : fr_of fp_M0 v v2 := fr_trans g1 (fr_mono (fun _ _ _ z => fp_wM z) hg2)
    refine mp_fortune (wo_WF_dw (iv_F hv) (iv_EW hv) hb0 hh (by omega)) hv2 (en_M_M0 g2 (iv_EM hv)) (iv_EW hv) (show wo_b (wo_dw e w h l n) < N from hb0) hh (fun v3 hv3 => ?_)
    have g3 : fr_of fp_M0 v v3 := fr_trans g2 (fr_mono (fun _ _ _ z => fp_gM z) hv3)
    refine mp_putBack (iv_F hv) (wo_M_frg hv3 hv2) wo_eq_set (wo_K_frw (fr_mono (fun _ _ _ z => fp_gw z) hv3) (wo_K_frw hg2 hK)) (fun x hx _ hgx => ?_)
    have hw3 := iv_at_m hv (fr_trans g3 (fr_mono (fun _ _ _ z => fp_wM z) hgx)) hx
    unfold wo_pe at hk
    by_cases z : nI (wo_fu e (wo_dw e w h l n) h) ≤ m
    · rw [if_neg (show ¬ m < nI (wo_fu e (wo_dw e w h l n) h) by rw [Int32.not_lt]; exact z)]
      rw [if_pos z] at hk
      unfold wb_X7_pen_79
      simp only [forall_eq, pw_n1, nI_add]
      exact ml_pen hh hn k f (l + 1) r m x (by omega) (by omega) hw3 hk
    · rw [if_pos (show m < nI (wo_fu e (wo_dw e w h l n) h) by rw [← Int32.not_le]; exact z)]
      rw [if_neg z] at hk
      unfold wb_X7_pen_79
      simp only [forall_eq, pw_n1, nI_add]
      exact ml_pen hh hn k f (l + 1) _ _ x (by omega) (by omega) hw3 hk
end PEN
theorem case_k13 {u : pa_S} {a1 a2 a3 a4 a5 : Int32} (hi : iv_I u) : pa_case iv_I u a1 a2 a3 a4 a5 13 := by
  have hi0 := hi
  obtain ⟨w, e, N, hw⟩ := hi
  show wp_X6_pen u a1 a2 _
  have X : ∀ (v : pa_S) po, wp_X7_pen v a1 a2 po = wb_X7_pen_0 v a1 a2 po := fun _ _ => rfl
  simp only [X]
  unfold wp_X6_pen wb_X6_pen_0 wb_X7_pen_0
  rcases rg_h w a1 (iv_F hw) with ⟨h, hh, rfl⟩ | h
  rotate_left
  · rw [has_0 (iv_C hw) h, if_pos rfl]; dsimp only
    rw [ih_0 (iv_F hw) (iv_M hw) h, if_pos rfl]
    exact ⟨rfl, hi0⟩
  rw [sp_has (iv_F hw) (iv_C hw) hh, if_neg (by decide)]
  rcases rg_01 a2 1 9 (by omega) (by omega) with ⟨q, q1, hq, rfl⟩ | hq
  rotate_left
  · rw [wi_0 (A := 1) (B := 9) (lo := 1) (hi := 9) rfl rfl hq, if_pos rfl]; dsimp only
    rw [ih_1 (iv_F hw) (iv_M hw) hh, if_neg (by decide), in_0 (A := 1) (B := 9) (lo := 1) (hi := 9) rfl rfl hq, if_pos rfl]
    exact ⟨rfl, hi0⟩
  rw [wi_1 (A := 1) (B := 9) (lo := 1) (hi := 9) rfl rfl q1 hq (by omega), if_neg (by decide), pw_n0]
  refine sl_pen hh (show q ≤ 60 by omega) 3 5000 0 _ _ u (by omega) (by omega) hw (fun v hv => ?_)
  dsimp only
  rw [ih_1 (iv_F hw) (iv_M hv) hh, if_neg (show ¬ (1 : Int32) = nI 0 by decide), in_1 (A := 1) (B := 9) (lo := 1) (hi := 9) rfl rfl q1 hq (by omega), if_neg (show ¬ (1 : Int32) = nI 0 by decide)]
  exact ml_pen hh (show q ≤ 60 by omega) 3 5000 0 _ _ v (by omega) (by omega) hv (fun x hx => ⟨rfl, iv_at_I hx⟩)
