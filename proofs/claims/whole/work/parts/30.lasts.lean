/-! lasts -/
def wo_ls (e : pw_E) (w : pw_W) (h q : Nat) : Nat → Nat → Int32
  | 0, _ => -5
  | k + 1, i => if wo_fu e (wo_go w i) h < q then nI i else wo_ls e w h q k (i + 1)
section LASTS
variable {w : pw_W} {e : pw_E} {N : Nat}
theorem wo_C_go {u : pa_S} {s n : Nat} (hc : wo_C u s (wo_go (wo_go w n) 1)) : wo_C u s (wo_go w (n + 1)) := by
  refine wo_C_congr hc rfl (fun _ _ => ⟨rfl, rfl, rfl⟩) (fun j _ => ?_) (fun _ _ => rfl) rfl rfl rfl
  show wo_l w j - (wo_fo w (j / 3) (wo_d w) n + wo_fade w (j / 3) (wo_d w + n)) = wo_l w j - wo_fo w (j / 3) (wo_d w) n - (0 + wo_fade w (j / 3) (wo_d w + n + 0))
  rw [Nat.zero_add, Nat.add_zero]
  omega
theorem wo_C_go0 {u : pa_S} {s : Nat} (hc : wo_C u s w) : wo_C u s (wo_go w 0) := wo_C_congr hc rfl (fun _ _ => ⟨rfl, rfl, rfl⟩) (fun j _ => rfl) (fun _ _ => rfl) rfl rfl rfl
theorem wo_M_go0 {u : pa_S} (hc : wo_M u w) : wo_M u (wo_go w 0) := wo_M_congr hc rfl (fun _ _ => ⟨rfl, rfl, rfl⟩) (fun j _ => rfl) (fun _ _ => rfl) rfl rfl rfl
theorem sl_lasts {u : pa_S} {h q : Nat} {po : Int32 → pa_S → Prop} (hf : wo_WF w) (hd : wo_d w ≤ 9999) (hw : en_WF e N) (hb : wo_b w < N) (hh : h < wo_n w) (hq : q ≤ 999) (hEC : en_C u e) :
    ∀ (k f i : Nat) (v : pa_S), i + k = 61 → k < f → qc_r N u v → wo_C v 2 (wo_go w i) → (∀ x, qc_r N u x → po (wo_ls e w h q k i) x) → wl_X6_lasts_45 po f v (nI h) (nI q) (nI i)
  | 0, f + 1, i, v, eq, _, qv, hc, hk => by
    unfold wl_X6_lasts_45 wb_X6_lasts_45
    rw [if_pos (show (60 : Int32) < nI i from nI_lt (a := 60) (by omega) (by omega))]
    exact hk v qv
  | k + 1, f + 1, i, v, eq, hlt, qv, hc, hk => by
    have hfg := wo_WF_go (n := i) hf (by omega)
    have hbg : wo_b (wo_go w i) < N := hb
    have fl := wo_fu_le (h := h) hfg hw hbg hh
    unfold wl_X6_lasts_45 wb_X6_lasts_45
    rw [if_neg (show ¬ (60 : Int32) < nI i from nI_nlt (b := i) (a := 60) (by omega) (by omega))]
    refine sp_fortuneOf hfg hc (en_C_qc qv hEC) hw hbg hh (fun v1 hv1 => ?_)
    have q1 := qc_trans qv (qc_v (N := N) hv1)
    unfold wo_ls at hk
    by_cases hlq : wo_fu e (wo_go w i) h < q
    · rw [if_neg (show ¬ nI q ≤ nI (wo_fu e (wo_go w i) h) from nI_ge hlq (by omega))]
      rw [if_pos hlq] at hk
      exact hk v1 q1
    · rw [if_pos (show nI q ≤ nI (wo_fu e (wo_go w i) h) from nI_le (by omega) (by omega))]
      rw [if_neg hlq] at hk
      refine sp_goDays (n := 1) hfg (by omega) (wo_C_frv hv1 hc) (fun v2 hv2 hg2 => ?_)
      simp only [forall_eq, pw_n1, nI_add]
      exact sl_lasts hf hd hw hb hh hq hEC k f (i + 1) v2 (by omega) (by omega) (qc_trans q1 (qc_d (by omega) hg2)) (wo_C_go hv2) hk
theorem ml_lasts {u : pa_S} {h q : Nat} {po : Int32 → pa_S → Prop} (hu : iv_at u w e N) (hh : h < wo_n w) (hq : q ≤ 999) :
    ∀ (k f i : Nat) (v : pa_S), i + k = 61 → k < f → fr_of fp_M0 u v → wo_M v (wo_go w i) → wo_K v w → (∀ x, iv_I x → po (wo_ls e w h q k i) x) → wl_X7_lasts_27 po f v (nI h) (nI q) (nI i)
  | 0, f + 1, i, v, eq, _, qv, hc, hK, hk => by
    unfold wl_X7_lasts_27 wb_X7_lasts_27
    rw [if_pos (show (61 : Int32) ≤ nI i from nI_le (a := 61) (by omega) (by omega))]
    unfold wb_X7_lasts_52
    refine mp_putBack (iv_F hu) hc wo_eq_set hK (fun x hx _ hgx => ?_)
    rw [if_pos (show (61 : Int32) ≤ nI i from nI_le (a := 61) (by omega) (by omega))]
    exact hk x (iv_qm hu (fr_trans qv (fr_mono (fun _ _ _ z => fp_wM z) hgx)) hx)
  | k + 1, f + 1, i, v, eq, hlt, qv, hc, hK, hk => by
    have hf := iv_F hu
    have hd := hu.1.2.1
    have hfg := wo_WF_go (n := i) hf (by omega)
    have hb0 := iv_B hu
    have hbg : wo_b (wo_go w i) < N := hb0
    have hw := iv_EW hu
    have fl := wo_fu_le (h := h) hfg hw hbg hh
    unfold wl_X7_lasts_27 wb_X7_lasts_27
    rw [if_neg (show ¬ (61 : Int32) ≤ nI i from nI_ge (b := 61) (by omega) (by omega))]
    refine mp_fortune hfg hc (en_M_M0 qv (iv_EM hu)) hw hbg hh (fun v1 hv1 => ?_)
    have q1 : fr_of fp_M0 u v1 := fr_trans qv (fr_mono (fun _ _ _ z => fp_gM z) hv1)
    have hK1 := wo_K_frw (fr_mono (fun _ _ _ z => fp_gw z) hv1) hK
    unfold wo_ls at hk
    by_cases hlq : wo_fu e (wo_go w i) h < q
    · rw [if_pos (show nI (wo_fu e (wo_go w i) h) < nI q from nI_lt hlq (by omega))]
      rw [if_pos hlq] at hk
      unfold wb_X7_lasts_52
      refine mp_putBack hf (wo_M_frg hv1 hc) wo_eq_set hK1 (fun x hx _ hgx => ?_)
      rw [if_neg (show ¬ (61 : Int32) ≤ nI i from nI_ge (b := 61) (by omega) (by omega))]
      exact hk x (iv_qm hu (fr_trans q1 (fr_mono (fun _ _ _ z => fp_wM z) hgx)) hx)
    · rw [if_neg (show ¬ nI (wo_fu e (wo_go w i) h) < nI q from nI_nlt (by omega) (by omega))]
      rw [if_neg hlq] at hk
      refine mp_goDay hfg (wo_M_frg hv1 hc) (fun v2 hv2 hg2 => ?_)
      simp only [forall_eq, pw_n1, nI_add]
      exact ml_lasts hu hh hq k f (i + 1) v2 (by omega) (by omega) (fr_trans q1 (fr_mono (fun _ _ _ z => fp_wM z) hg2)) (wo_go_go hv2) (wo_K_frw hg2 hK1) hk
end LASTS
theorem case_k12 {u : pa_S} {a1 a2 a3 a4 a5 : Int32} (hi : iv_I u) : pa_case iv_I u a1 a2 a3 a4 a5 12 := by
  have hi0 := hi
  obtain ⟨w, e, N, hw⟩ := hi
  have hf := iv_F hw
  have hc := iv_C hw
  have hm := iv_M hw
  show wp_X6_lasts u a1 a2 _
  have X : ∀ (v : pa_S) po, wp_X7_lasts v a1 a2 po = wb_X7_lasts_0 v a1 a2 po := fun _ _ => rfl
  simp only [X]
  unfold wp_X6_lasts wb_X6_lasts_0 wb_X7_lasts_0
  rcases rg_h w a1 hf with ⟨h, hh, rfl⟩ | h
  rotate_left
  · rw [has_0 hc h, if_pos rfl]; dsimp only
    rw [ih_0 hf hm h, if_pos rfl]
    exact ⟨rfl, hi0⟩
  rw [sp_has hf hc hh, if_neg (by decide)]
  rcases rg_01 a2 0 999 (by omega) (by omega) with ⟨q, _, hq, rfl⟩ | hq
  rotate_left
  · rw [wi_0 (A := 0) (B := 999) (lo := 0) (hi := 999) rfl rfl hq, if_pos rfl]; dsimp only
    rw [ih_1 hf hm hh, if_neg (by decide), iq_0 hq, if_pos rfl]
    exact ⟨rfl, hi0⟩
  rw [wi_1 (A := 0) (B := 999) (lo := 0) (hi := 999) rfl rfl (by omega) hq (by omega), if_neg (by decide)]
  refine qc_start hw (by omega) (fun v qv hv => ?_)
  rw [pw_n0]
  refine sl_lasts hf hw.1.2.1 (iv_EW hw) (iv_B hw) hh hq (iv_EC hw) 61 5000 0 v (by omega) (by omega) qv (wo_C_go0 hv) (fun v1 q1 => ?_)
  have hw1 := iv_at_qc hw q1
  dsimp only
  rw [ih_1 hf (iv_M hw1) hh, if_neg (show ¬ (1 : Int32) = nI 0 by decide), iq_1 hq, if_neg (show ¬ (1 : Int32) = nI 0 by decide)]
  refine mp_save hf (iv_M hw1) (fun v2 hv2 hK hg2 => ?_)
  exact ml_lasts hw1 hh hq 61 5000 0 v2 (by omega) (by omega) (fr_mono (fun _ _ _ z => fp_kM z) hg2) (wo_M_go0 hv2) hK (fun x hx => ⟨rfl, hx⟩)
