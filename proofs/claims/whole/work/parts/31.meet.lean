/-! meet, looked -/
section MEET
variable {w : pw_W} {e : pw_E} {N : Nat}
theorem iv_at_m {v x : pa_S} (h : iv_at v w e N) (g : fr_of fp_M0 v x) (hm : wo_M x w) : iv_at x w e N := by
  obtain ⟨⟨hf, hd, hc, hm0, hz⟩, hr, hl, hn⟩ := h
  exact ⟨⟨hf, hd, wo_C_M0 g hc, hm, iv_z_M0 g hz⟩, iv_r_X (fr_mono (fun _ _ _ z => fp_MX z) g) hr, iv_l_X (fr_mono (fun _ _ _ z => fp_MX z) g) (Nat.le_refl _) hl, iv_n_M0 g hn⟩
theorem iv_at_I {v : pa_S} (h : iv_at v w e N) : iv_I v := ⟨w, e, N, h⟩
theorem wo_hw_b {a b : Nat} : wo_b (wo_hw e w a b) = wo_b w := by unfold wo_hw; split <;> rfl
theorem wo_hw_n {a b : Nat} : wo_n (wo_hw e w a b) = wo_n w := by unfold wo_hw; split <;> rfl
theorem wo_hw_eq {a b : Nat} : wo_eq w (wo_hw e w a b) := by unfold wo_hw; split <;> exact wo_eq_set
theorem sp_ifShaken {u : pa_S} {a b : Nat} {po : pa_S → Prop} (hu : iv_at u w e N) (ha : a < wo_n w) (hb : b < wo_n w) (hab : a ≠ b)
    (hk : ∀ v, iv_at v w e N → wo_C v 2 (wo_hw e w a b) → po v) : wp_X6_ifShaken u (nI a) (nI b) po := by
  unfold wp_X6_ifShaken wb_X6_ifShaken_0
  refine qc_start hu (by omega) (fun v qv hv => ?_)
  have hv1 := iv_at_qc hu qv
  exact sp_shakeHands (iv_F hu) hv (iv_EC hv1) (iv_EW hu) (iv_B hu) ha hb hab (fun x hx hg _ => hk x (iv_at_qc hv1 (qc_o (by omega) hg)) hx)
theorem sp_allOf {u : pa_S} {w' : pw_W} {po : Int32 → pa_S → Prop} (hu : iv_at u w e N) (hf : wo_WF w') (hb : wo_b w' = wo_b w) (hc : wo_C u 2 w')
    (hk : ∀ v, iv_at v w e N → po (nI (wo_fa e w' (wo_n w'))) v) : wp_X3_fortuneOfAll u 2 po :=
  sp_fortuneOfAll hf hc (iv_EC hu) (iv_EW hu) (by rw [hb]; exact iv_B hu) (fun v hv => hk v (iv_at_qc hu (qc_v hv)))
theorem mp_fortunesIf {u : pa_S} {a b : Nat} {po : Int32 → pa_S → Prop} (hu : iv_at u w e N) (ha : a < wo_n w) (hb : b < wo_n w) (hab : a ≠ b)
    (hk : ∀ v, iv_at v w e N → po (nI (wo_fa e (wo_hw e w a b) (wo_n w))) v) : wp_X7_fortunesIf u (nI a) (nI b) po := by
  have hf := iv_F hu
  unfold wp_X7_fortunesIf wb_X7_fortunesIf_0
  refine mp_save hf (iv_M hu) (fun v1 hv1 hK hg1 => ?_)
  have g1 : fr_of fp_M0 u v1 := fr_mono (fun _ _ _ z => fp_kM z) hg1
  refine mp_prints hf hv1 (en_M_M0 g1 (iv_EM hu)) (iv_EW hu) (iv_B hu) ha hb hab (fun v2 hv2 hg2 => ?_)
  have g2 : fr_of fp_M0 u v2 := fr_trans g1 (fr_mono (fun _ _ _ z => fp_wM z) hg2)
  refine mp_allFortunes (wo_WF_hw hf (iv_EW hu) (iv_B hu) ha hb) hv2 (en_M_M0 g2 (iv_EM hu)) (iv_EW hu) (by rw [wo_hw_b]; exact iv_B hu) (fun v3 hv3 => ?_)
  have g3 : fr_of fp_M0 u v3 := fr_trans g2 (fr_mono (fun _ _ _ z => fp_gM z) hv3)
  rw [wo_hw_n]
  exact mp_putBack hf (wo_M_frg hv3 hv2) wo_hw_eq (wo_K_frw (fr_mono (fun _ _ _ z => fp_gw z) hv3) (wo_K_frw hg2 hK)) (fun x hx _ hgx => hk x (iv_at_m hu (fr_trans g3 (fr_mono (fun _ _ _ z => fp_wM z) hgx)) hx))
/-- the best pair: over b, over a -/
def wo_mi (e : pw_E) (w : pw_W) (a : Nat) : Nat → Nat → Nat → Int32 → Nat × Int32
  | 0, _, m, r => (m, r)
  | k + 1, b, m, r => if wo_fa e (wo_hw e w a b) (wo_n w) ≤ m then wo_mi e w a k (b + 1) m r else wo_mi e w a k (b + 1) (wo_fa e (wo_hw e w a b) (wo_n w)) (nI (10 * a + b))
def wo_mo (e : pw_E) (w : pw_W) : Nat → Nat → Nat → Int32 → Int32
  | 0, _, _, r => r
  | k + 1, a, m, r => wo_mo e w k (a + 1) (wo_mi e w a (wo_n w - (a + 1)) (a + 1) m r).1 (wo_mi e w a (wo_n w - (a + 1)) (a + 1) m r).2
theorem wo_fah {u : pa_S} {a b : Nat} (hu : iv_at u w e N) (ha : a < wo_n w) (hb : b < wo_n w) : wo_fa e (wo_hw e w a b) (wo_n w) ≤ 16000 := by
  have h5 := (iv_F hu).1
  have z := wo_fa_le (wo_WF_hw (iv_F hu) (iv_EW hu) (iv_B hu) ha hb) (iv_EW hu) (by rw [wo_hw_b]; exact iv_B hu) (wo_n w) (by rw [wo_hw_n]; exact Nat.le_refl _)
  omega
theorem sl_meetI {a : Nat} {k13 : pa_S → Int32 → Int32 → Int32 → Prop} {po : Int32 → pa_S → Prop} (ha : a < wo_n w) :
    ∀ (k f b m : Nat) (r : Int32) (v : pa_S), b + k = wo_n w → a < b → m ≤ 16000 → k < f → iv_at v w e N →
      (∀ x, iv_at x w e N → (wo_mi e w a k b m r).1 ≤ 16000 → k13 x (nI (wo_mi e w a k b m r).1) (wo_mi e w a k b m r).2 (nI (a + 1))) → wl_X6_meet_29 k13 po f v (nI m) r (nI a) (nI b)
  | 0, f + 1, b, m, r, v, eq, hab, hm, _, hv, hk => by
    have h5 := (iv_F hv).1
    unfold wl_X6_meet_29 wb_X6_meet_29
    rw [(iv_C hv).1, if_pos (nI_le (by omega) (by omega))]
    simp only [forall_eq, pw_n1, nI_add]
    exact hk v hv hm
  | k + 1, f + 1, b, m, r, v, eq, hab, hm, hlt, hv, hk => by
    have h5 := (iv_F hv).1
    have fl := wo_fah hv ha (show b < wo_n w by omega)
    unfold wl_X6_meet_29 wb_X6_meet_29
    rw [(iv_C hv).1, if_neg (nI_ge (by omega) (by omega))]
    refine sp_ifShaken hv ha (show b < wo_n w by omega) (by omega) (fun v1 hv1 hc1 => ?_)
    refine sp_allOf hv1 (wo_WF_hw (iv_F hv) (iv_EW hv) (iv_B hv) ha (show b < wo_n w by omega)) wo_hw_b hc1 (fun v2 hv2 => ?_)
    rw [wo_hw_n]
    unfold wo_mi at hk
    by_cases z : wo_fa e (wo_hw e w a b) (wo_n w) ≤ m
    · rw [if_pos (nI_le z (by omega))]
      rw [if_pos z] at hk
      unfold wb_X6_meet_70
      simp only [forall_eq, pw_n1, nI_add]
      exact sl_meetI ha k f (b + 1) m r v2 (by omega) (by omega) hm (by omega) hv2 hk
    · rw [if_neg (nI_ge (by omega) (by omega))]
      rw [if_neg z] at hk
      unfold wb_X6_meet_70
      simp only [forall_eq, pw_n1, pw_n10, pk_mul, nI_add]
      exact sl_meetI ha k f (b + 1) _ _ v2 (by omega) (by omega) fl (by omega) hv2 hk
theorem sl_meetO {po : Int32 → pa_S → Prop} : ∀ (k f a m : Nat) (r : Int32) (v : pa_S), a + k = wo_n w → m ≤ 16000 → k < f → iv_at v w e N →
      (∀ x, iv_at x w e N → po (wo_mo e w k a m r) x) → wl_X6_meet_13 po f v (nI m) r (nI a)
  | 0, f + 1, a, m, r, v, eq, hm, _, hv, hk => by
    have h5 := (iv_F hv).1
    unfold wl_X6_meet_13 wb_X6_meet_13
    rw [(iv_C hv).1, if_pos (nI_le (by omega) (by omega))]
    exact hk v hv
  | k + 1, f + 1, a, m, r, v, eq, hm, hlt, hv, hk => by
    have h5 := (iv_F hv).1
    unfold wl_X6_meet_13 wb_X6_meet_13
    rw [(iv_C hv).1, if_neg (nI_ge (by omega) (by omega))]
    simp only [forall_eq, pw_n1, nI_add]
    exact sl_meetI (show a < wo_n w by omega) (wo_n w - (a + 1)) 5000 (a + 1) m r v (by omega) (by omega) hm (by omega) hv (fun x hx hl => sl_meetO k f (a + 1) _ _ x (by omega) hl (by omega) hx hk)
theorem ml_meetI {a : Nat} {k13 : pa_S → Int32 → Int32 → Int32 → Prop} {po : Int32 → pa_S → Prop} (ha : a < wo_n w) :
    ∀ (k f b m : Nat) (r : Int32) (v : pa_S), b + k = wo_n w → a < b → m ≤ 16000 → k < f → iv_at v w e N →
      (∀ x, iv_at x w e N → (wo_mi e w a k b m r).1 ≤ 16000 → k13 x (wo_mi e w a k b m r).2 (nI (wo_mi e w a k b m r).1) (nI (a + 1))) → wl_X7_meet_23 k13 po f v r (nI m) (nI a) (nI b)
  | 0, f + 1, b, m, r, v, eq, hab, hm, _, hv, hk => by
    have h5 := (iv_F hv).1
    unfold wl_X7_meet_23 wb_X7_meet_23
    rw [(iv_M hv).1, if_pos (nI_le (by omega) (by omega))]
    simp only [forall_eq, pw_n1, nI_add]
    exact hk v hv hm
  | k + 1, f + 1, b, m, r, v, eq, hab, hm, hlt, hv, hk => by
    have h5 := (iv_F hv).1
    have fl := wo_fah hv ha (show b < wo_n w by omega)
    unfold wl_X7_meet_23 wb_X7_meet_23
    rw [(iv_M hv).1, if_neg (nI_ge (by omega) (by omega))]
    refine mp_fortunesIf hv ha (show b < wo_n w by omega) (by omega) (fun v2 hv2 => ?_)
    unfold wo_mi at hk
    by_cases z : wo_fa e (wo_hw e w a b) (wo_n w) ≤ m
    · rw [if_neg (nI_nlt z (by omega))]
      rw [if_pos z] at hk
      unfold wb_X7_meet_61
      simp only [forall_eq, pw_n1, nI_add]
      exact ml_meetI ha k f (b + 1) m r v2 (by omega) (by omega) hm (by omega) hv2 hk
    · rw [if_pos (nI_lt (by omega) (by omega))]
      rw [if_neg z] at hk
      unfold wb_X7_meet_61
      simp only [forall_eq, pw_n1, pw_n10, pk_mul, nI_add]
      exact ml_meetI ha k f (b + 1) _ _ v2 (by omega) (by omega) fl (by omega) hv2 hk
theorem ml_meetO {po : Int32 → pa_S → Prop} : ∀ (k f a m : Nat) (r : Int32) (v : pa_S), a + k = wo_n w → m ≤ 16000 → k < f → iv_at v w e N →
      (∀ x, iv_at x w e N → po (wo_mo e w k a m r) x) → wl_X7_meet_10 po f v r (nI m) (nI a)
  | 0, f + 1, a, m, r, v, eq, hm, _, hv, hk => by
    have h5 := (iv_F hv).1
    unfold wl_X7_meet_10 wb_X7_meet_10
    rw [(iv_M hv).1, if_pos (nI_le (by omega) (by omega))]
    exact hk v hv
  | k + 1, f + 1, a, m, r, v, eq, hm, hlt, hv, hk => by
    have h5 := (iv_F hv).1
    unfold wl_X7_meet_10 wb_X7_meet_10
    rw [(iv_M hv).1, if_neg (nI_ge (by omega) (by omega))]
    simp only [forall_eq, pw_n1, nI_add]
    exact ml_meetI (show a < wo_n w by omega) (wo_n w - (a + 1)) 5000 (a + 1) m r v (by omega) (by omega) hm (by omega) hv (fun x hx hl => ml_meetO k f (a + 1) _ _ x (by omega) hl (by omega) hx hk)
end MEET
theorem case_k15 {u : pa_S} {a1 a2 a3 a4 a5 : Int32} (hi : iv_I u) : pa_case iv_I u a1 a2 a3 a4 a5 15 := by
  obtain ⟨w, e, N, hw⟩ := hi
  have h5 := (iv_F hw).1
  have fa := wo_fa_le (iv_F hw) (iv_EW hw) (iv_B hw) (wo_n w) (Nat.le_refl _)
  show wp_X6_meet u _
  unfold wp_X6_meet wb_X6_meet_0
  refine sp_fortuneOfAll (iv_F hw) (iv_C hw) (iv_EC hw) (iv_EW hw) (iv_B hw) (fun v hv => ?_)
  have hv1 := iv_at_qc hw (qc_v (N := N) hv)
  rw [pw_n0]
  refine sl_meetO (wo_n w) 5000 0 _ _ v (by omega) (by omega) (by omega) hv1 (fun x hx => ?_)
  unfold wp_X7_meet wb_X7_meet_0
  refine mp_allFortunes (iv_F hw) (iv_M hx) (iv_EM hx) (iv_EW hw) (iv_B hw) (fun y hy => ?_)
  have hy1 := iv_at_m hx (fr_mono (fun _ _ _ z => fp_gM z) hy) (wo_M_frg hy (iv_M hx))
  rw [pw_n0]
  exact ml_meetO (wo_n w) 5000 0 _ _ y (by omega) (by omega) (by omega) hy1 (fun z hz => ⟨rfl, iv_at_I hz⟩)
