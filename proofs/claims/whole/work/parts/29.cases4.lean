/-! questions over what is tried out: on, lasts -/
def fp_t (t i k : Nat) : Prop := (1 ≤ t ∧ t ≤ 7 ∧ 2 ≤ i) ∨ t = 7 ∨ t = 23
theorem fp_tC {t i k : Nat} (h : fp_t t i k) : fp_C0 t i k := by unfold fp_t at h; unfold fp_C0; omega
def qc_r (N : Nat) (u v : pa_S) : Prop := fr_of fp_t u v ∧ (iv_n u N → iv_n v N)
section QC
variable {u v x : pa_S} {w w' : pw_W} {e : pw_E} {N s : Nat}
theorem qc_refl : qc_r N u u := ⟨fr_refl u, id⟩
theorem qc_trans (a : qc_r N u v) (b : qc_r N v x) : qc_r N u x := ⟨fr_trans a.1 b.1, fun z => b.2 (a.2 z)⟩
theorem qc_s (hs : 2 ≤ s) (h : fr_of (fp_s s) u v) (hc : wo_C v s w') (hN : wo_b w' < N) : qc_r N u v := ⟨fr_mono (fun t i k z => by unfold fp_s at z; unfold fp_t; omega) h, iv_n_s h hc hN⟩
theorem qc_o (hs : 2 ≤ s) (h : fr_of (fp_o s) u v) : qc_r N u v := ⟨fr_mono (fun t i k z => by unfold fp_o at z; unfold fp_t; omega) h, iv_n_o h⟩
theorem qc_d (hs : 2 ≤ s) (h : fr_of (fp_d s) u v) : qc_r N u v := qc_o hs (fr_mono (fun _ _ _ z => fp_do z) h)
theorem qc_v (h : fr_of (fp_v s) u v) : qc_r N u v := ⟨fr_mono (fun t i k z => by unfold fp_v at z; unfold fp_t; omega) h, iv_n_v h⟩
theorem iv_at_qc (h : iv_at u w e N) (q : qc_r N u v) : iv_at v w e N := by
  obtain ⟨⟨hf, hd, hc, hm, hz⟩, hr, hl, hn⟩ := h
  have gC : fr_of fp_C0 u v := fr_mono (fun _ _ _ z => fp_tC z) q.1
  have gX : fr_of fp_X u v := fr_mono (fun _ _ _ z => fp_CX z) gC
  have g6 : ∀ t k, 1 ≤ t → t ≤ 6 → ¬ fp_t t 0 k := fun t k _ _ z => by unfold fp_t at z; omega
  exact ⟨⟨hf, hd, wo_C_fr g6 (by unfold fp_t; omega) q.1 hc, wo_M_C0 gC hm, iv_z_fr q.1 (by unfold fp_t; omega) (by unfold fp_t; omega) hz⟩, iv_r_X gX hr, iv_l_X gX (Nat.le_refl _) hl, q.2 hn⟩
theorem iv_qm (h : iv_at v w e N) (g : fr_of fp_M0 v x) (hm : wo_M x w) : iv_I x := by
  obtain ⟨⟨hf, hd, hc, hm0, hz⟩, hr, hl, hn⟩ := h
  exact ⟨w, e, N, ⟨hf, hd, wo_C_M0 g hc, hm, iv_z_M0 g hz⟩, iv_r_X (fr_mono (fun _ _ _ z => fp_MX z) g) hr, iv_l_X (fr_mono (fun _ _ _ z => fp_MX z) g) (Nat.le_refl _) hl, iv_n_M0 g hn⟩
theorem iv_C (h : iv_at u w e N) : wo_C u 0 w := h.1.2.2.1
theorem iv_M (h : iv_at u w e N) : wo_M u w := h.1.2.2.2.1
theorem iv_F (h : iv_at u w e N) : wo_WF w := h.1.1
theorem iv_EC (h : iv_at u w e N) : en_C u e := h.2.1.1.2.2.2.2.2.1
theorem iv_EM (h : iv_at u w e N) : en_M u e N := h.2.1.1.2.2.2.2.2.2.1
theorem iv_EW (h : iv_at u w e N) : en_WF e N := h.2.1.1.2.2.2.2.2.2.2
theorem iv_B (h : iv_at u w e N) : wo_b w < N := iv_b h.2.1 h.1.2.2.1
/-- the start of a question: what is tried out is as now -/
theorem qc_start {po : pa_S → Prop} (h : iv_at u w e N) (hs : 2 ≤ s) (hk : ∀ v, qc_r N u v → wo_C v s w → po v) : wp_X3_become u s 0 po :=
  sp_become (iv_F h) (iv_C h) (by omega) (fun v hv hg _ _ _ => hk v (qc_s hs hg hv (iv_B h)) hv)
theorem en_C_qc (q : qc_r N u v) (z : en_C u e) : en_C v e := en_C_C0 (fr_mono (fun _ _ _ z => fp_tC z) q.1) z
end QC
/-- what on asks: 0 all, 1 a hand, 2 a line -/
theorem case_k11 {u : pa_S} {a1 a2 a3 a4 a5 : Int32} (hi : iv_I u) : pa_case iv_I u a1 a2 a3 a4 a5 11 := by
  have hi0 := hi
  obtain ⟨w, e, N, hw⟩ := hi
  have hf := iv_F hw
  have hc := iv_C hw
  have hm := iv_M hw
  have h5 := hf.1
  have hb := iv_B hw
  have hEW := iv_EW hw
  show wp_X6_on u a1 a2 _
  have X : ∀ (v : pa_S) po, wp_X7_on v a1 a2 po = wb_X7_on_0 v a1 a2 po := fun _ _ => rfl
  simp only [X]
  -- nothing is asked
  have none7 : ∀ po : Int32 → pa_S → Prop, ¬ a2 = 0 → (∀ m, 10 ≤ m → m < 10 + wo_n w → a2 ≠ nI m) → (∀ m, 20 ≤ m → m < 20 + 3 * wo_n w → a2 ≠ nI m) → po (-1) u → wb_X7_on_0 u a1 a2 po := by
    intro po z0 z1 z2 hp
    unfold wb_X7_on_0
    rw [if_neg z0, hm.1, show (9 : Int32) + nI (wo_n w) = nI (9 + wo_n w) from nI_add 9 _]
    rcases rg_01 a2 10 (9 + wo_n w) (by omega) (by omega) with ⟨m, m1, m2, rfl⟩ | r1
    · exact absurd rfl (z1 m m1 (by omega))
    rw [in_0 (A := 10) (lo := 10) (hi := 9 + wo_n w) rfl rfl r1, if_pos rfl, pw_n3, pk_mul, show (19 : Int32) + nI (3 * wo_n w) = nI (19 + 3 * wo_n w) from nI_add 19 _]
    rcases rg_01 a2 20 (19 + 3 * wo_n w) (by omega) (by omega) with ⟨m, m1, m2, rfl⟩ | r2
    · exact absurd rfl (z2 m m1 (by omega))
    rw [in_0 (A := 20) (lo := 20) (hi := 19 + 3 * wo_n w) rfl rfl r2, if_pos rfl]
    exact hp
  -- something is asked: go on alike
  have m42 : ∀ (v : pa_S) (po : Int32 → pa_S → Prop), iv_at v w e N → (a1 < nI 0 ∨ nI 60 < a1) → po (-2) v → wb_X7_on_42 v a1 a2 po := by
    intro v po _ ha hp
    unfold wb_X7_on_42
    rw [in_0 (A := 0) (B := 60) (lo := 0) (hi := 60) rfl rfl ha, if_pos rfl]
    exact hp
  have m42' : ∀ (v : pa_S) (n k : Nat) (po : Int32 → pa_S → Prop), iv_at v w e N → a1 = nI n → n ≤ 60 →
      ((a2 = 0 ∧ k = wo_fa e (wo_go w n) (wo_n w)) ∨ (∃ h, h < wo_n w ∧ a2 = nI (10 + h) ∧ k = wo_fu e (wo_go w n) h) ∨ (∃ j, j < 3 * wo_n w ∧ a2 = nI (20 + j) ∧ k = wo_l (wo_go w n) j)) →
      (∀ x, iv_I x → po (nI k) x) → wb_X7_on_42 v a1 a2 po := by
    intro v n k po hv ea hn hk hp
    subst ea
    have hd := hv.1.2.1
    have hfg := wo_WF_go (n := n) hf (by omega)
    have hbg : wo_b (wo_go w n) < N := hb
    unfold wb_X7_on_42
    rw [in_1 (A := 0) (B := 60) (lo := 0) (hi := 60) rfl rfl (by omega) hn (by omega), if_neg (by decide)]
    refine mp_save hf (iv_M hv) (fun v1 hv1 hK hg1 => ?_)
    have g1 : fr_of fp_M0 v v1 := fr_mono (fun _ _ _ z => fp_kM z) hg1
    refine mp_goDays hf hv1 (by omega) (by omega) (fun v2 hv2 hg2 => ?_)
    have g2 : fr_of fp_M0 v v2 := fr_trans g1 (fr_mono (fun _ _ _ z => fp_wM z) hg2)
    have hK2 := wo_K_frw hg2 hK
    have back : ∀ v3 (y : Nat), y = k → fr_of fp_g v2 v3 → wb_X7_on_102 v3 (nI y) po := by
      intro v3 y hy hg3
      subst hy
      unfold wb_X7_on_102
      refine mp_putBack hf (wo_M_frg hg3 hv2) wo_eq_set (wo_K_frw (fr_mono (fun _ _ _ z => fp_gw z) hg3) hK2) (fun x hx _ hgx => hp x ?_)
      exact iv_qm hv (fr_trans g2 (fr_trans (fr_mono (fun _ _ _ z => fp_gM z) hg3) (fr_mono (fun _ _ _ z => fp_wM z) hgx))) hx
    rcases hk with ⟨z, hk⟩ | ⟨h, hh, z, hk⟩ | ⟨j, hj, z, hk⟩
    · rw [if_pos z]
      exact mp_allFortunes hfg hv2 (en_M_M0 g2 (iv_EM hv)) hEW hbg (fun v3 hg3 => back v3 _ hk.symm hg3)
    · subst z
      rw [if_neg (show ¬ nI (10 + h) = 0 from pw_lits (k := 0) (n := 10 + h) rfl rfl (by omega) (by omega) (by omega)), if_neg (show ¬ (20 : Int32) ≤ nI (10 + h) from nI_ge (b := 20) (by omega) (by omega)), pw_n10, pk_sub (by omega), show 10 + h - 10 = h by omega]
      exact mp_fortune hfg hv2 (en_M_M0 g2 (iv_EM hv)) hEW hbg hh (fun v3 hg3 => back v3 _ hk.symm hg3)
    · subst z
      rw [if_neg (show ¬ nI (20 + j) = 0 from pw_lits (k := 0) (n := 20 + j) rfl rfl (by omega) (by omega) (by omega)), if_pos (show (20 : Int32) ≤ nI (20 + j) from nI_le (a := 20) (by omega) (by omega)), pw_n20, pk_sub (by omega), show 20 + j - 20 = j by omega, pw_and (vp_in_nI (by omega) (by omega)), nI_clamp (by omega), hv2.2.2.2.2.2.1 j hj]
      exact back v2 _ hk.symm (fr_refl v2)
  have m0 : ∀ (v : pa_S) (po : Int32 → pa_S → Prop), iv_at v w e N → (a2 = 0 ∨ (∃ h, h < wo_n w ∧ a2 = nI (10 + h)) ∨ (∃ j, j < 3 * wo_n w ∧ a2 = nI (20 + j))) → wb_X7_on_42 v a1 a2 po → wb_X7_on_0 v a1 a2 po := by
    intro v po hv hk hp
    unfold wb_X7_on_0
    rcases hk with z | ⟨h, hh, z⟩ | ⟨j, hj, z⟩
    · rw [if_pos z]; exact hp
    · subst z
      rw [if_neg (show ¬ nI (10 + h) = 0 from pw_lits (k := 0) (n := 10 + h) rfl rfl (by omega) (by omega) (by omega)), (iv_M hv).1, show (9 : Int32) + nI (wo_n w) = nI (9 + wo_n w) from nI_add 9 _, in_1 (A := 10) (lo := 10) (hi := 9 + wo_n w) rfl rfl (by omega) (by omega) (by omega), if_neg (by decide)]
      exact hp
    · subst z
      rw [if_neg (show ¬ nI (20 + j) = 0 from pw_lits (k := 0) (n := 20 + j) rfl rfl (by omega) (by omega) (by omega)), (iv_M hv).1, show (9 : Int32) + nI (wo_n w) = nI (9 + wo_n w) from nI_add 9 _, in_0 (A := 10) (lo := 10) (hi := 9 + wo_n w) rfl rfl (Or.inr (nI_lt (by omega) (by omega))), if_pos rfl, pw_n3, pk_mul, show (19 : Int32) + nI (3 * wo_n w) = nI (19 + 3 * wo_n w) from nI_add 19 _, in_1 (A := 20) (lo := 20) (hi := 19 + 3 * wo_n w) rfl rfl (by omega) (by omega) (by omega), if_neg (by decide)]
      exact hp
  -- the class, when something is asked
  have c82 : ∀ (x3 x4 : Int32), ((x3 = 1 ∧ a2 = 0) ∨ (x3 = 0 ∧ x4 = 1 ∧ ∃ h, h < wo_n w ∧ a2 = nI (10 + h)) ∨ (x3 = 0 ∧ x4 = 0 ∧ ∃ j, j < 3 * wo_n w ∧ a2 = nI (20 + j))) →
      wb_X6_on_82 u a1 a2 x3 x4 (fun (r : Int32) (u1 : pa_S) => wb_X7_on_0 u1 a1 a2 (fun (r' : Int32) (u2 : pa_S) => r = r' ∧ iv_I u2)) := by
    intro x3 x4 hk
    have hk' : a2 = 0 ∨ (∃ h, h < wo_n w ∧ a2 = nI (10 + h)) ∨ (∃ j, j < 3 * wo_n w ∧ a2 = nI (20 + j)) := by
      rcases hk with ⟨_, z⟩ | ⟨_, _, z⟩ | ⟨_, _, z⟩
      · exact Or.inl z
      · exact Or.inr (Or.inl z)
      · exact Or.inr (Or.inr z)
    unfold wb_X6_on_82
    rcases rg_01 a1 0 60 (by omega) (by omega) with ⟨n, _, hn, ea⟩ | ha
    rotate_left
    · rw [wi_0 (A := 0) (B := 60) (lo := 0) (hi := 60) rfl rfl ha, if_pos rfl]
      exact m0 u _ hw hk' (m42 u _ hw ha ⟨rfl, hi0⟩)
    subst ea
    have hd := hw.1.2.1
    have hfg := wo_WF_go (n := n) hf (by omega)
    have hbg : wo_b (wo_go w n) < N := hb
    rw [wi_1 (A := 0) (B := 60) (lo := 0) (hi := 60) rfl rfl (by omega) hn (by omega), if_neg (by decide)]
    refine qc_start hw (by omega) (fun v qv hv => ?_)
    refine sp_goDays hf hn hv (fun v1 hv1 hg1 => ?_)
    have q1 := qc_trans qv (qc_d (N := N) (by omega) hg1)
    have hE1 := en_C_qc q1 (iv_EC hw)
    rcases hk with ⟨z3, z⟩ | ⟨z3, z4, h, hh, z⟩ | ⟨z3, z4, j, hj, z⟩
    · rw [z3, if_neg (by decide)]
      refine sp_fortuneOfAll hfg hv1 hE1 hEW hbg (fun v2 hv2 => ?_)
      have hv' := iv_at_qc hw (qc_trans q1 (qc_v hv2))
      exact m0 v2 _ hv' hk' (m42' v2 n _ _ hv' rfl hn (Or.inl ⟨z, rfl⟩) (fun x hx => ⟨rfl, hx⟩))
    · subst z
      rw [z3, z4, if_pos rfl, if_neg (by decide), pw_n10, pk_sub (by omega), show 10 + h - 10 = h by omega]
      refine sp_fortuneOf hfg hv1 hE1 hEW hbg hh (fun v2 hv2 => ?_)
      have hv' := iv_at_qc hw (qc_trans q1 (qc_v hv2))
      exact m0 v2 _ hv' hk' (m42' v2 n _ _ hv' rfl hn (Or.inr (Or.inl ⟨h, hh, rfl, rfl⟩)) (fun x hx => ⟨rfl, hx⟩))
    · subst z
      rw [z3, z4, if_pos rfl, if_pos rfl, pw_n20, pk_sub (by omega), show 20 + j - 20 = j by omega, pw_n3, pk_div (by omega) (by omega) (by omega), pw_rem (by omega) (by omega) (by omega), sp_lengthOf hfg hv1 (show j / 3 < wo_n w by omega) (by omega), show 3 * (j / 3) + j % 3 = j by omega]
      have hv' := iv_at_qc hw q1
      exact m0 v1 _ hv' hk' (m42' v1 n _ _ hv' rfl hn (Or.inr (Or.inr ⟨j, hj, rfl, rfl⟩)) (fun x hx => ⟨rfl, hx⟩))
  unfold wp_X6_on wb_X6_on_0
  by_cases h0 : a2 = 0
  · subst h0
    rw [if_pos rfl]
    unfold wb_X6_on_9
    rw [if_pos (by decide)]
    unfold wb_X6_on_34 wb_X6_on_35
    rw [if_pos (by decide)]
    unfold wb_X6_on_63 wb_X6_on_64
    rw [if_neg (by decide)]
    exact c82 1 0 (Or.inl ⟨rfl, rfl⟩)
  rw [if_neg h0]
  by_cases hn : a2 < 10
  · unfold wb_X6_on_9
    rw [if_pos hn]
    have hn2 : a2.toInt < 10 := by
      rw [Int32.lt_iff_toInt_lt] at hn
      exact hn
    unfold wb_X6_on_34 wb_X6_on_35
    rw [if_pos (by rw [Int32.lt_iff_toInt_lt]; show a2.toInt < 20; omega)]
    unfold wb_X6_on_63 wb_X6_on_64
    rw [if_pos rfl, if_pos rfl, if_pos rfl]
    refine none7 _ h0 (fun m m1 m2 z => ?_) (fun m m1 m2 z => ?_) ⟨rfl, hi0⟩
    · rw [z, nI_toInt (by omega)] at hn2; omega
    · rw [z, nI_toInt (by omega)] at hn2; omega
  obtain ⟨m, hm31, rfl⟩ := nI_of (x := a2) (fun z => hn (Int32.lt_trans z (by decide)))
  have m10 : 10 ≤ m := by
    rw [Int32.lt_iff_toInt_lt, nI_toInt hm31] at hn
    have : (10 : Int32).toInt = 10 := by decide
    omega
  unfold wb_X6_on_9
  rw [if_neg hn, pw_n10, pk_sub m10]
  by_cases h1 : m - 10 < wo_n w
  · rw [sp_has hf hc h1, if_neg (by decide)]
    unfold wb_X6_on_35
    rw [if_pos (show nI m < 20 from nI_lt (b := 20) (by omega) (by omega))]
    unfold wb_X6_on_63 wb_X6_on_64
    rw [if_pos rfl, if_neg (by decide)]
    exact c82 0 1 (Or.inr (Or.inl ⟨rfl, rfl, m - 10, h1, by rw [show 10 + (m - 10) = m by omega]⟩))
  rw [has_0 hc (Or.inr (nI_le (by omega) (by omega))), if_pos rfl]
  unfold wb_X6_on_34 wb_X6_on_35
  by_cases h2 : m < 20
  · rw [if_pos (show nI m < 20 from nI_lt (b := 20) (by omega) (by omega))]
    unfold wb_X6_on_63 wb_X6_on_64
    rw [if_pos rfl, if_pos rfl, if_pos rfl]
    exact none7 _ h0 (fun k k1 k2 z => by have := (nI_eq (by omega) (by omega)).mp z; omega) (fun k k1 k2 z => by have := (nI_eq (by omega) (by omega)).mp z; omega) ⟨rfl, hi0⟩
  rw [if_neg (show ¬ nI m < 20 from nI_nlt (a := m) (b := 20) (by omega) (by omega)), pw_n20, pk_sub (by omega), pw_n3, pk_div (by omega) (by omega) (by omega)]
  by_cases h3 : (m - 20) / 3 < wo_n w
  · rw [sp_has hf hc h3, if_neg (by decide)]
    unfold wb_X6_on_64
    rw [if_pos rfl, if_pos rfl, if_neg (by decide)]
    exact c82 0 0 (Or.inr (Or.inr ⟨rfl, rfl, m - 20, by omega, by rw [show 20 + (m - 20) = m by omega]⟩))
  rw [has_0 hc (Or.inr (nI_le (by omega) (by omega))), if_pos rfl]
  unfold wb_X6_on_63 wb_X6_on_64
  rw [if_pos rfl, if_pos rfl, if_pos rfl]
  exact none7 _ h0 (fun k k1 k2 z => by have := (nI_eq (by omega) (by omega)).mp z; omega) (fun k k1 k2 z => by have := (nI_eq (by omega) (by omega)).mp z; omega) ⟨rfl, hi0⟩
