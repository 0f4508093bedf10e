/-! lowest terms; mean -/
theorem sl_low {u : pa_S} {A B : Nat} {p : Int32} {po : Int32 → Prop} : ∀ (k f a b c : Nat), b < k → k < f → c + k ≤ 999 → a < 2 ^ 30 → b < 2 ^ 30 →
    wl_X6_lowestTerm_8 po u f (nI A) (nI B) p (nI a) (nI b) (nI c) = wb_X6_lowestTerm_40 u (nI A) (nI B) p (nI (Nat.gcd b a)) po
  | 0, f, a, b, c, h, _, _, _, _ => absurd h (Nat.not_lt_zero b)
  | k + 1, f + 1, a, b, c, h, hlt, hc, ha, hb => by
    unfold wl_X6_lowestTerm_8 wb_X6_lowestTerm_8
    rw [if_neg (show ¬ (1000 : Int32) ≤ nI c from nI_ge (b := 1000) (by omega) (by omega))]
    by_cases z : b = 0
    · subst z
      rw [if_pos (show nI 0 = 0 from rfl), Nat.gcd_zero_left]
    · rw [if_neg (nI_ne0 (by omega) (by omega)), pw_and (nI_ne0 (by omega) (by omega)), pw_rem (by omega) (by omega) (by omega)]
      simp only [forall_eq, pw_n1, nI_add]
      have m := Nat.mod_lt a (show 0 < b by omega)
      rw [sl_low k f b (a % b) (c + 1) (by omega) (by omega) (by omega) hb (by omega), ← Nat.gcd_rec]
theorem ml_div {u : pa_S} {po : Int32 → Prop} : ∀ (k f a b : Nat), b < k → k < f → a < 2 ^ 30 → b < 2 ^ 30 → wl_X7_divisor_5 po u f (nI a) (nI b) = po (nI (Nat.gcd b a))
  | 0, f, a, b, h, _, _, _ => absurd h (Nat.not_lt_zero b)
  | k + 1, f + 1, a, b, h, hlt, ha, hb => by
    unfold wl_X7_divisor_5 wb_X7_divisor_5
    by_cases z : b = 0
    · subst z
      rw [if_pos (show nI 0 = 0 from rfl), Nat.gcd_zero_left]
    · rw [if_neg (nI_ne0 (by omega) (by omega)), pw_and (nI_ne0 (by omega) (by omega)), pw_rem (by omega) (by omega) (by omega)]
      simp only [forall_eq]
      have m := Nat.mod_lt a (show 0 < b by omega)
      rw [ml_div k f b (a % b) (by omega) (by omega) hb (by omega), ← Nat.gcd_rec]
def wo_lt (a b : Nat) (p : Int32) : Int32 := if p = 0 then nI a / nI (Nat.gcd b a) else nI b / nI (Nat.gcd b a)
theorem sp_low {u : pa_S} {a b : Nat} {p : Int32} {po : Int32 → Prop} (ha : a < 2 ^ 30) (h0 : 0 < b) (hb : b ≤ 100) : wp_X6_lowestTerm u (nI a) (nI b) p po = po (wo_lt a b p) := by
  have g0 : 0 < Nat.gcd b a := Nat.gcd_pos_of_pos_left _ h0
  have g1 : Nat.gcd b a ≤ b := Nat.gcd_le_left _ h0
  unfold wp_X6_lowestTerm wb_X6_lowestTerm_0
  rw [pw_n0, sl_low 101 5000 a b 0 (by omega) (by omega) (by omega) ha (by omega)]
  unfold wb_X6_lowestTerm_40 wb_X6_lowestTerm_49 wo_lt
  by_cases z : p = 0
  · rw [if_pos z, if_pos z, if_neg (nI_ne0 g0 (by omega)), pw_and (nI_ne0 g0 (by omega))]
  · rw [if_neg z, if_neg z, if_neg (nI_ne0 g0 (by omega)), pw_and (nI_ne0 g0 (by omega))]
theorem mp_low {u : pa_S} {a b : Nat} {p : Int32} {po : Int64 → Prop} (ha : a < 2 ^ 30) (h0 : 0 < b) (hb : b ≤ 100) : wp_X7_lowest u (nI a) (nI b) p po = po (wo_lt a b p).toInt64 := by
  have g0 : 0 < Nat.gcd b a := Nat.gcd_pos_of_pos_left _ h0
  have g1 : Nat.gcd b a ≤ b := Nat.gcd_le_left _ h0
  unfold wp_X7_lowest wb_X7_lowest_0 wp_X7_divisor wb_X7_divisor_0
  rw [ml_div 101 5000 a b (by omega) (by omega) ha (by omega)]
  unfold wo_lt
  by_cases z : p = 0
  · rw [if_pos z, if_pos z, pw_and (nI_ne0 g0 (by omega))]
  · rw [if_neg z, if_neg z, pw_and (nI_ne0 g0 (by omega))]
theorem mp_onAll {v : pa_S} {w : pw_W} {e : pw_E} {N n : Nat} {po : Int32 → pa_S → Prop} (hv : iv_at v w e N) (hn : n ≤ 60) (hp : ∀ x, iv_at x w e N → po (nI (wo_fa e (wo_go w n) (wo_n w))) x) : wp_X7_on v (nI n) 0 po := by
  have hd := hv.1.2.1
  have hf := iv_F hv
  have hb0 := iv_B hv
  have hfg := wo_WF_go (n := n) hf (by omega)
  unfold wp_X7_on wb_X7_on_0
  rw [if_pos rfl]
  unfold wb_X7_on_42
  rw [in_1 (A := 0) (B := 60) (lo := 0) (hi := 60) rfl rfl (by omega) hn (by omega), if_neg (by decide)]
  refine mp_save hf (iv_M hv) (fun v1 hv1 hK hg1 => ?_)
  have g1 : fr_of fp_M0 v v1 := fr_mono (fun _ _ _ z => fp_kM z) hg1
  refine mp_goDays hf hv1 (by omega) (by omega) (fun v2 hv2 hg2 => ?_)
  have g2 : fr_of fp_M0 v v2 := fr_trans g1 (fr_mono (fun _ _ _ z => fp_wM z) hg2)
  rw [if_pos rfl]
  refine mp_allFortunes hfg hv2 (en_M_M0 g2 (iv_EM hv)) (iv_EW hv) (show wo_b (wo_go w n) < N from hb0) (fun v3 hv3 => ?_)
  unfold wb_X7_on_102
  exact mp_putBack hf (wo_M_frg hv3 hv2) wo_eq_set (wo_K_frw (fr_mono (fun _ _ _ z => fp_gw z) hv3) (wo_K_frw hg2 hK)) (fun x hx _ hgx => hp x (iv_at_m hv (fr_trans g2 (fr_trans (fr_mono (fun _ _ _ z => fp_gM z) hv3) (fr_mono (fun _ _ _ z => fp_wM z) hgx))) hx))
theorem case_k23 {u : pa_S} {a1 a2 a3 a4 a5 : Int32} (hi : iv_I u) : pa_case iv_I u a1 a2 a3 a4 a5 23 := by
  have hi0 := hi
  obtain ⟨w, e, N, hw⟩ := hi
  have h5 := (iv_F hw).1
  show wp_X6_mean u a1 a2 _
  have X : ∀ (v : pa_S) po, wp_X7_mean v a1 a2 po = wb_X7_mean_0 v a1 a2 po := fun _ _ => rfl
  simp only [X]
  unfold wp_X6_mean wb_X6_mean_0 wb_X7_mean_0
  rcases rg_01 a1 0 60 (by omega) (by omega) with ⟨n, _, hn, rfl⟩ | hn
  rotate_left
  · rw [wi_0 (A := 0) (B := 60) (lo := 0) (hi := 60) rfl rfl hn, if_pos rfl]; dsimp only
    rw [in_0 (A := 0) (B := 60) (lo := 0) (hi := 60) rfl rfl hn, if_pos rfl]
    exact ⟨rfl, hi0⟩
  rw [wi_1 (A := 0) (B := 60) (lo := 0) (hi := 60) rfl rfl (by omega) hn (by omega), if_neg (by decide)]
  rcases rg_01 a2 0 1 (by omega) (by omega) with ⟨p, _, hp, rfl⟩ | hp
  rotate_left
  · rw [wi_0 (A := 0) (B := 1) (lo := 0) (hi := 1) rfl rfl hp, if_pos rfl]; dsimp only
    rw [in_1 (A := 0) (B := 60) (lo := 0) (hi := 60) rfl rfl (by omega) hn (by omega), if_neg (by decide), in_0 (A := 0) (B := 1) (lo := 0) (hi := 1) rfl rfl hp, if_pos rfl]
    exact ⟨rfl, hi0⟩
  rw [wi_1 (A := 0) (B := 1) (lo := 0) (hi := 1) rfl rfl (by omega) hp (by omega), if_neg (by decide), (iv_C hw).1]
  by_cases z : wo_n w = 0
  · rw [z, if_neg (by decide)]; dsimp only
    rw [in_1 (A := 0) (B := 60) (lo := 0) (hi := 60) rfl rfl (by omega) hn (by omega), if_neg (by decide), in_1 (A := 0) (B := 1) (lo := 0) (hi := 1) rfl rfl (by omega) hp (by omega), if_neg (by decide), (iv_M hw).1, z, if_pos (by decide)]
    exact ⟨rfl, hi0⟩
  rw [if_pos (show (1 : Int32) ≤ nI (wo_n w) from nI_le (a := 1) (by omega) (by omega))]
  have hd := hw.1.2.1
  have hb0 := iv_B hw
  have hfg := wo_WF_go (n := n) (iv_F hw) (by omega)
  have fl := wo_fa_le hfg (iv_EW hw) (show wo_b (wo_go w n) < N from hb0) (wo_n w) (Nat.le_refl _)
  refine qc_start hw (by omega) (fun v qv hv => ?_)
  refine sp_goDays (iv_F hw) hn hv (fun v1 hv1 hg1 => ?_)
  have hw1 := iv_at_qc hw (qc_trans qv (qc_d (N := N) (by omega) hg1))
  refine sp_fortuneOfAll hfg hv1 (iv_EC hw1) (iv_EW hw) hb0 (fun v2 hv2 => ?_)
  have hw2 := iv_at_qc hw1 (qc_v (N := N) hv2)
  rw [(iv_C hw2).1, show wo_n (wo_go w n) = wo_n w from rfl, sp_low (by omega) (by omega) (by omega)]
  dsimp only
  rw [in_1 (A := 0) (B := 60) (lo := 0) (hi := 60) rfl rfl (by omega) hn (by omega), if_neg (by decide), in_1 (A := 0) (B := 1) (lo := 0) (hi := 1) rfl rfl (by omega) hp (by omega), if_neg (by decide), (iv_M hw2).1, if_neg (show ¬ nI (wo_n w) ≤ 0 from nI_nle (by omega) (by omega))]
  refine mp_onAll hw2 hn (fun x hx => ?_)
  rw [(iv_M hx).1, mp_low (by omega) (by omega) (by omega)]
  exact ⟨rfl, iv_at_I hx⟩
