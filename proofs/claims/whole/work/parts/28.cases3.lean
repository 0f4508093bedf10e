/-! calls: of, on -/
theorem pw_qr {x : Int32} {q l : Nat} (hq : x / 10 = nI q) (hl : pa_rem x 10 = nI l) : x = nI (10 * q + l) := by
  unfold pa_rem at hl
  rw [hq] at hl
  have e : x = nI l + nI q * 10 := by rw [← hl, Int32.sub_add_cancel]
  rw [e, pw_n10, pk_mul, nI_add, Nat.mul_comm, Nat.add_comm]
theorem pw_nor {x : Int32} {lo hi n : Nat} (h : x < nI lo ∨ nI hi < x) (hx : x = nI n) (h1 : lo ≤ n) (h2 : n ≤ hi) (hh : hi < 2 ^ 30) : False := by
  subst hx
  rcases h with h | h
  · exact nI_nlt h1 (by omega) h
  · exact nI_nlt h2 (by omega) h
theorem pw_lits {x : Int32} {k : Nat} {y : Int32} (hy : y = nI k) {n : Nat} (hx : x = nI n) (hn : n < 2 ^ 31) (hk : k < 2 ^ 31) (h : n ≠ k) : ¬ x = y := by
  subst hy hx
  exact fun z => h ((nI_eq hn hk).mp z)
section OFON
variable {u : pa_S} {w : pw_W} {e : pw_E} {N : Nat}
theorem mp_grace {h l : Nat} {po : Int32 → pa_S → Prop} (hf : wo_WF w) (hc : wo_M u w) (he : en_M u e N) (hb : wo_b w < N) (hh : h < wo_n w) (hl : l < 3)
    (hk : ∀ v, fr_of fp_g u v → po (nS (en_g e (wo_b w) (wo_f w h l))) v) : wp_X7_grace u (nI h) (nI l) po :=
  ((he _ hb) u (fun f _ => ⟨rfl, fun _ _ => ⟨rfl, rfl, rfl, rfl⟩, fun _ _ => rfl⟩) hc.2.2.2.1).2.2 w h l _ hf hc rfl hh hl hk
/-- a question of now: only rows of lines change -/
theorem iv_qv {v x : pa_S} (hw : iv_w u w) (hr : iv_r u e N) (hl : iv_l u (wo_n w)) (hn : iv_n u N) (hv : fr_of (fp_v 0) u v) (hx : fr_of fp_g v x) : iv_I x := by
  have gC : fr_of fp_C0 u v := fr_mono (fun _ _ _ z => fp_vC z) hv
  have gM : fr_of fp_M0 v x := fr_mono (fun _ _ _ z => fp_gM z) hx
  obtain ⟨hf, hd, hc, hm, hz⟩ := hw
  exact iv_q ⟨hf, hd, hc, hm, hz⟩ hr hl (fr_trans (fr_mono (fun _ _ _ z => fp_CX z) gC) (fr_mono (fun _ _ _ z => fp_MX z) gM)) (wo_C_M0 gM (wo_C_frv hv hc)) (wo_M_frg hx (wo_M_C0 gC hm)) (iv_z_M0 gM (iv_z_fr hv (by unfold fp_v; omega) (by unfold fp_v; omega) hz)) (iv_n_M0 gM (iv_n_v hv hn))
end OFON
theorem case_k1 {u : pa_S} {a1 a2 a3 a4 a5 : Int32} (hi : iv_I u) : pa_case iv_I u a1 a2 a3 a4 a5 1 := by
  have hi0 := hi
  obtain ⟨w, e, N, hw, hr, hl, hn⟩ := hi
  have hw0 := hw
  obtain ⟨hf, hd, hc, hm, hz⟩ := hw
  have h5 := hf.1
  have hb := iv_b hr hc
  have hE := hr.1
  have hEC := hE.2.2.2.2.2.1
  have hEM := hE.2.2.2.2.2.2.1
  have hEW := hE.2.2.2.2.2.2.2
  show wp_X6_of u a1 a2 _
  unfold wp_X6_of wb_X6_of_0
  have X : ∀ (v : pa_S) po, wp_X7_of v a1 a2 po = wb_X7_of_0 v a1 a2 po := fun _ _ => rfl
  simp only [X]
  unfold wb_X7_of_0
  rcases rg_h w a1 hf with ⟨h, hh, rfl⟩ | h
  rotate_left
  · rw [has_0 hc h, if_pos rfl]; dsimp only
    rw [ih_0 hf hm h, if_pos rfl]
    exact ⟨rfl, hi0⟩
  rw [sp_has hf hc hh, if_neg (by decide)]
  by_cases h0 : a2 = 0
  · subst h0
    rw [if_pos rfl, sp_kindOf hf hc hh]; dsimp only
    rw [ih_1 hf hm hh, if_neg (by decide), in_0 (A := 10) (B := 12) (lo := 10) (hi := 12) rfl rfl (Or.inl (by decide)), if_pos rfl, in_0 (A := 20) (B := 22) (lo := 20) (hi := 22) rfl rfl (Or.inl (by decide)), if_pos rfl, in_0 (A := 30) (B := 32) (lo := 30) (hi := 32) rfl rfl (Or.inl (by decide)), if_pos rfl, if_pos rfl, pw_and (vp_in_nI (by omega) (by omega)), nI_clamp (by omega), (hm.2.2.2.2.1 h hh).1]
    exact ⟨rfl, hi0⟩
  rw [if_neg h0]
  by_cases h1 : a2 = 1
  · subst h1
    rw [if_pos rfl, sp_vOf hf hc hh]; dsimp only
    rw [ih_1 hf hm hh, if_neg (by decide), in_0 (A := 10) (B := 12) (lo := 10) (hi := 12) rfl rfl (Or.inl (by decide)), if_pos rfl, in_0 (A := 20) (B := 22) (lo := 20) (hi := 22) rfl rfl (Or.inl (by decide)), if_pos rfl, in_0 (A := 30) (B := 32) (lo := 30) (hi := 32) rfl rfl (Or.inl (by decide)), if_pos rfl, if_neg h0, if_pos rfl, pw_and (vp_in_nI (by omega) (by omega)), nI_clamp (by omega), (hm.2.2.2.2.1 h hh).2.1]
    exact ⟨rfl, hi0⟩
  rw [if_neg h1]
  by_cases h2 : a2 = 2
  · subst h2
    rw [if_pos rfl, sp_shookOf hf hc hh]; dsimp only
    rw [ih_1 hf hm hh, if_neg (by decide), in_0 (A := 10) (B := 12) (lo := 10) (hi := 12) rfl rfl (Or.inl (by decide)), if_pos rfl, in_0 (A := 20) (B := 22) (lo := 20) (hi := 22) rfl rfl (Or.inl (by decide)), if_pos rfl, in_0 (A := 30) (B := 32) (lo := 30) (hi := 32) rfl rfl (Or.inl (by decide)), if_pos rfl, if_neg h0, if_neg h1, if_pos rfl, pw_and (vp_in_nI (by omega) (by omega)), nI_clamp (by omega), (hm.2.2.2.2.1 h hh).2.2]
    exact ⟨rfl, hi0⟩
  rw [if_neg h2]
  by_cases h3 : a2 = 3
  · subst h3
    rw [if_pos rfl]
    refine sp_fortuneOf hf hc hEC hEW hb hh (fun v hv => ?_)
    have gC : fr_of fp_C0 u v := fr_mono (fun _ _ _ z => fp_vC z) hv
    have hm1 := wo_M_C0 gC hm
    dsimp only
    rw [ih_1 hf hm1 hh, if_neg (by decide), in_0 (A := 10) (B := 12) (lo := 10) (hi := 12) rfl rfl (Or.inl (by decide)), if_pos rfl, in_0 (A := 20) (B := 22) (lo := 20) (hi := 22) rfl rfl (Or.inl (by decide)), if_pos rfl, in_0 (A := 30) (B := 32) (lo := 30) (hi := 32) rfl rfl (Or.inl (by decide)), if_pos rfl, if_neg h0, if_neg h1, if_neg h2, if_pos rfl]
    exact mp_fortune hf hm1 (en_M_C0 gC hEM) hEW hb hh (fun x hx => ⟨rfl, iv_qv hw0 hr hl hn hv hx⟩)
  rw [if_neg h3]
  by_cases h4 : a2 = 4
  · subst h4
    rw [if_pos rfl, hc.2.2.1, sp_fadesOn hf hc hh (by omega)]; dsimp only
    rw [ih_1 hf hm hh, if_neg (by decide), in_0 (A := 10) (B := 12) (lo := 10) (hi := 12) rfl rfl (Or.inl (by decide)), if_pos rfl, in_0 (A := 20) (B := 22) (lo := 20) (hi := 22) rfl rfl (Or.inl (by decide)), if_pos rfl, in_0 (A := 30) (B := 32) (lo := 30) (hi := 32) rfl rfl (Or.inl (by decide)), if_pos rfl, if_neg h0, if_neg h1, if_neg h2, if_neg h3, if_pos rfl, mp_fades hf hm hh]
    exact ⟨rfl, hi0⟩
  rw [if_neg h4]
  unfold wp_X6_ofLine wb_X6_ofLine_0
  rcases rg_01 a2 10 12 (by omega) (by omega) with ⟨n, n1, n2, rfl⟩ | r1
  · obtain ⟨l, rfl⟩ : ∃ l, n = 10 + l := ⟨n - 10, by omega⟩
    rw [pw_n10, pk_div (by omega) (by omega) (by omega), pw_rem (by omega) (by omega) (by omega), show (10 + l) / 10 = 1 by omega, show (10 + l) % 10 = l by omega, sp_hasLine hf hc hh (by omega), if_neg (by decide), if_pos (by decide), sp_lengthOf hf hc hh (by omega)]
    dsimp only
    rw [ih_1 hf hm hh, if_neg (by decide), in_1 (A := nI 10) (B := 12) (lo := 10) (hi := 12) rfl rfl (by omega) (by omega) (by omega), if_neg (by decide), pw_n3, pk_mul, nI_add, pk_sub (by omega), show 3 * h + (10 + l) - 10 = 3 * h + l by omega, pw_and (vp_in_nI (by omega) (by omega)), nI_clamp (by omega), hm.2.2.2.2.2.1 _ (by omega)]
    exact ⟨rfl, hi0⟩
  rcases rg_01 a2 20 22 (by omega) (by omega) with ⟨n, n1, n2, rfl⟩ | r2
  · obtain ⟨l, rfl⟩ : ∃ l, n = 20 + l := ⟨n - 20, by omega⟩
    rw [pw_n10, pk_div (by omega) (by omega) (by omega), pw_rem (by omega) (by omega) (by omega), show (20 + l) / 10 = 2 by omega, show (20 + l) % 10 = l by omega, sp_hasLine hf hc hh (by omega), if_neg (by decide), if_neg (by decide), if_pos (by decide)]
    refine sp_graceOf hf hc hEC hh (by omega) (fun v hv => ?_)
    have gC : fr_of fp_C0 u v := fr_mono (fun _ _ _ z => fp_vC z) hv
    have hm1 := wo_M_C0 gC hm
    dsimp only
    rw [ih_1 hf hm1 hh, if_neg (by decide), in_0 (A := nI 10) (B := 12) (lo := 10) (hi := 12) rfl rfl r1, if_pos rfl, in_1 (A := 20) (B := 22) (lo := 20) (hi := 22) rfl rfl (by omega) (by omega) (by omega), if_neg (by decide), pw_n20, pk_sub (by omega), show 20 + l - 20 = l by omega]
    exact mp_grace hf hm1 (en_M_C0 gC hEM) hb hh (by omega) (fun x hx => ⟨rfl, iv_qv hw0 hr hl hn hv hx⟩)
  rcases rg_01 a2 30 32 (by omega) (by omega) with ⟨n, n1, n2, rfl⟩ | r3
  · obtain ⟨l, rfl⟩ : ∃ l, n = 30 + l := ⟨n - 30, by omega⟩
    rw [pw_n10, pk_div (by omega) (by omega) (by omega), pw_rem (by omega) (by omega) (by omega), show (30 + l) / 10 = 3 by omega, show (30 + l) % 10 = l by omega, sp_hasLine hf hc hh (by omega), if_neg (by decide), if_neg (by decide), if_neg (by decide), if_pos (by decide)]
    refine sp_worthOf hf hc hEC hEW hb hh (by omega) (fun v hv => ?_)
    have gC : fr_of fp_C0 u v := fr_mono (fun _ _ _ z => fp_vC z) hv
    have hm1 := wo_M_C0 gC hm
    dsimp only
    rw [ih_1 hf hm1 hh, if_neg (by decide), in_0 (A := nI 10) (B := 12) (lo := 10) (hi := 12) rfl rfl r1, if_pos rfl, in_0 (A := 20) (B := 22) (lo := 20) (hi := 22) rfl rfl r2, if_pos rfl, in_1 (A := 30) (B := 32) (lo := 30) (hi := 32) rfl rfl (by omega) (by omega) (by omega), if_neg (by decide), pw_n30, pk_sub (by omega), show 30 + l - 30 = l by omega]
    exact mp_worth hf hm1 (en_M_C0 gC hEM) hEW hb hh (by omega) (fun x hx => ⟨rfl, iv_qv hw0 hr hl hn hv hx⟩)
  have fin : (fun (r : Int32) (u1 : pa_S) => wp_X7_isHand u1 (nI h) (fun (r1 : Int32) => if r1 = 0 then r = -1001 ∧ iv_I u1 else r = -1001 ∧ iv_I u1)) (-1001) u := by
    dsimp only
    rw [ih_1 hf hm hh, if_neg (by decide)]
    exact ⟨rfl, hi0⟩
  have mo : ∀ po : Int32 → pa_S → Prop, po (-1001) u → wb_X7_of_0 u (nI h) a2 po := by
    intro po hp
    unfold wb_X7_of_0
    rw [ih_1 hf hm hh, if_neg (by decide), in_0 (A := 10) (B := 12) (lo := 10) (hi := 12) rfl rfl r1, if_pos rfl, in_0 (A := 20) (B := 22) (lo := 20) (hi := 22) rfl rfl r2, if_pos rfl, in_0 (A := 30) (B := 32) (lo := 30) (hi := 32) rfl rfl r3, if_pos rfl, if_neg h0, if_neg h1, if_neg h2, if_neg h3, if_neg h4]
    exact hp
  rcases rg_01 (pa_rem a2 10) 0 2 (by omega) (by omega) with ⟨l, _, l2, el⟩ | el
  rotate_left
  · rw [hasL_0 hf hc (Or.inr el), if_pos rfl]
    exact mo _ ⟨rfl, hi0⟩
  rw [el, sp_hasLine hf hc hh (by omega), if_neg (by decide)]
  have q1 : ¬ a2 / 10 = 1 := fun z => pw_nor r1 (pw_qr (q := 1) z el) (by omega) (by omega) (by omega)
  have q2 : ¬ a2 / 10 = 2 := fun z => pw_nor r2 (pw_qr (q := 2) z el) (by omega) (by omega) (by omega)
  have q3 : ¬ a2 / 10 = 3 := fun z => pw_nor r3 (pw_qr (q := 3) z el) (by omega) (by omega) (by omega)
  rw [if_neg q1, if_neg q2, if_neg q3]
  exact mo _ ⟨rfl, hi0⟩
