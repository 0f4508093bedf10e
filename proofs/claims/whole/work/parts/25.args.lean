/-! numbers that are asked for; sides of the state -/
theorem rg_01 (x : Int32) (lo hi : Nat) (hl : lo ≤ hi + 1) (hh : hi < 2 ^ 30) : (∃ n, lo ≤ n ∧ n ≤ hi ∧ x = nI n) ∨ (x < nI lo ∨ nI hi < x) := by
  by_cases h1 : x < nI lo
  · exact Or.inr (Or.inl h1)
  · by_cases h2 : nI hi < x
    · exact Or.inr (Or.inr h2)
    · refine Or.inl ⟨x.toInt.toNat, ?_, ?_, ?_⟩
      · rw [Int32.lt_iff_toInt_lt, nI_toInt (by omega)] at h1; omega
      · rw [Int32.lt_iff_toInt_lt, nI_toInt (by omega)] at h1 h2; omega
      · rw [Int32.lt_iff_toInt_lt, nI_toInt (by omega)] at h1 h2
        apply Int32.toInt_inj.mp
        rw [nI_toInt (by omega)]
        omega
section ARGS
variable {u : pa_S} {x A B : Int32} {n lo hi : Nat} {po : Int32 → Prop} {w : pw_W}
theorem wi_1 (hA : A = nI lo) (hB : B = nI hi) (h1 : lo ≤ n) (h2 : n ≤ hi) (hh : hi < 2 ^ 30) : wp_X6_within u (nI n) A B po = po 1 := by
  unfold wp_X6_within wb_X6_within_0
  rw [hA, hB, if_neg (nI_nlt h1 (by omega)), if_neg (nI_nlt h2 (by omega))]
theorem wi_0 (hA : A = nI lo) (hB : B = nI hi) (h : x < nI lo ∨ nI hi < x) : wp_X6_within u x A B po = po 0 := by
  unfold wp_X6_within wb_X6_within_0
  rw [hA, hB]
  rcases h with h | h
  · rw [if_pos h]
  · by_cases z : x < nI lo
    · rw [if_pos z]
    · rw [if_neg z, if_pos h]
theorem in_1 (hA : A = nI lo) (hB : B = nI hi) (h1 : lo ≤ n) (h2 : n ≤ hi) (hh : hi < 2 ^ 30) : wp_X7_in u (nI n) A B po = po 1 := by
  unfold wp_X7_in wb_X7_in_0
  rw [hA, hB, if_neg (nI_nlt h1 (by omega)), if_neg (nI_nlt h2 (by omega))]
theorem in_0 (hA : A = nI lo) (hB : B = nI hi) (h : x < nI lo ∨ nI hi < x) : wp_X7_in u x A B po = po 0 := by
  unfold wp_X7_in wb_X7_in_0
  rw [hA, hB]
  rcases h with h | h
  · rw [if_pos h]
  · by_cases z : x < nI lo
    · rw [if_pos z]
    · rw [if_neg z, if_pos h]
/-- no hand is x -/
def no_h (w : pw_W) (x : Int32) : Prop := x < 0 ∨ nI (wo_n w) ≤ x
theorem rg_h (w : pw_W) (x : Int32) (hf : wo_WF w) : (∃ h, h < wo_n w ∧ x = nI h) ∨ no_h w x := by
  have h5 := hf.1
  rcases pk_ix x (n := wo_n w) (by omega) with h | h | h
  · exact Or.inr (Or.inl h)
  · exact Or.inr (Or.inr h)
  · exact Or.inl h
theorem has_0 {s : Nat} (hc : wo_C u s w) (h : no_h w x) : wp_X3_has u s x po = po 0 := by
  unfold wp_X3_has wb_X3_has_0
  rw [hc.1]
  rcases h with h | h
  · rw [if_pos h]
  · by_cases z : x < 0
    · rw [if_pos z]
    · rw [if_neg z, if_pos h]
theorem hasL_0 {s : Nat} {y : Int32} (hf : wo_WF w) (hc : wo_C u s w) (h : no_h w x ∨ (y < nI 0 ∨ nI 2 < y)) : wp_X3_hasLine u s x y po = po 0 := by
  unfold wp_X3_hasLine wb_X3_hasLine_0
  rcases rg_h w x hf with ⟨k, hk, rfl⟩ | hx
  · rw [sp_has hf hc hk, if_neg (by decide)]
    rcases h with h | h | h
    · exfalso
      have h5 := hf.1
      rcases h with h | h
      · exact nI_pos (by omega) h
      · exact nI_ge hk (by omega) h
    · rw [if_pos (show y < 0 from h)]
    · by_cases z : y < 0
      · rw [if_pos z]
      · rw [if_neg z, if_pos]
        rw [Int32.le_iff_toInt_le]
        rw [Int32.lt_iff_toInt_lt] at h
        have e2 : (nI 2).toInt = 2 := by decide
        have e3 : (3 : Int32).toInt = 3 := by decide
        omega
  · rw [has_0 hc hx, if_pos rfl]
theorem pw_np {n : Nat} (h : n < 2 ^ 30) {x : Int32} : (nI n - 1 < x) = (nI n ≤ x) := by
  have e : (nI n - 1).toInt = (n : Int) - 1 := pk_sub_toInt (b := 1) h (by omega)
  rw [Int32.le_iff_toInt_le, Int32.lt_iff_toInt_lt, e, nI_toInt (by omega)]
  exact propext ⟨fun h => by omega, fun h => by omega⟩
theorem ih_1 {h : Nat} (hf : wo_WF w) (hm : wo_M u w) (hh : h < wo_n w) : wp_X7_isHand u (nI h) po = po 1 := by
  have h5 := hf.1
  unfold wp_X7_isHand wb_X7_isHand_0 wp_X7_in wb_X7_in_0
  rw [hm.1, if_neg (nI_pos (by omega)), if_neg (by rw [pw_np (by omega)]; exact nI_ge hh (by omega))]
  exact pw_and (a := (1 : Int32) &&& 1 = 1) (by decide)
theorem ih_0 (hf : wo_WF w) (hm : wo_M u w) (h : no_h w x) : wp_X7_isHand u x po = po 0 := by
  have h5 := hf.1
  unfold wp_X7_isHand wb_X7_isHand_0 wp_X7_in wb_X7_in_0
  rw [hm.1]
  rcases h with h | h
  · rw [if_pos h]; exact pw_and (a := (0 : Int32) &&& 1 = 0) (by decide)
  · by_cases z : x < 0
    · rw [if_pos z]; exact pw_and (a := (0 : Int32) &&& 1 = 0) (by decide)
    · rw [if_neg z, if_pos (by rw [pw_np (by omega)]; exact h)]; exact pw_and (a := (0 : Int32) &&& 1 = 0) (by decide)
theorem il_1 {l : Nat} (h : l < 3) : wp_X7_isLine u (nI l) po = po 1 := by
  unfold wp_X7_isLine wb_X7_isLine_0
  rw [in_1 (A := 0) (B := 2) (lo := 0) (hi := 2) rfl rfl (by omega) (by omega) (by omega), pw_and (by decide)]
theorem il_0 (h : x < nI 0 ∨ nI 2 < x) : wp_X7_isLine u x po = po 0 := by
  unfold wp_X7_isLine wb_X7_isLine_0
  rw [in_0 (A := 0) (B := 2) (lo := 0) (hi := 2) rfl rfl h, pw_and (by decide)]
theorem ig_1 {l : Nat} (h : l ≤ 60) : wp_X7_isLength u (nI l) po = po 1 := by
  unfold wp_X7_isLength wb_X7_isLength_0
  rw [in_1 (A := 0) (B := 60) (lo := 0) (hi := 60) rfl rfl (by omega) (by omega) (by omega), pw_and (by decide)]
theorem ig_0 (h : x < nI 0 ∨ nI 60 < x) : wp_X7_isLength u x po = po 0 := by
  unfold wp_X7_isLength wb_X7_isLength_0
  rw [in_0 (A := 0) (B := 60) (lo := 0) (hi := 60) rfl rfl h, pw_and (by decide)]
theorem iq_1 {l : Nat} (h : l ≤ 999) : wp_X7_isFortune u (nI l) po = po 1 := by
  unfold wp_X7_isFortune wb_X7_isFortune_0
  rw [in_1 (A := 0) (B := 999) (lo := 0) (hi := 999) rfl rfl (by omega) (by omega) (by omega), pw_and (by decide)]
theorem iq_0 (h : x < nI 0 ∨ nI 999 < x) : wp_X7_isFortune u x po = po 0 := by
  unfold wp_X7_isFortune wb_X7_isFortune_0
  rw [in_0 (A := 0) (B := 999) (lo := 0) (hi := 999) rfl rfl h, pw_and (by decide)]
end ARGS
/-- what the class's calls change, and the reference's -/
def fp_C0 (t i k : Nat) : Prop := (1 ≤ t ∧ t ≤ 7 ∧ i ≠ 1) ∨ t = 7 ∨ t = 23
def fp_M0 (t i k : Nat) : Prop := (t = 24 ∧ (k = 0 ∨ k = 1 ∨ k = 2 ∨ k = 26 ∨ k = 27 ∨ k = 35)) ∨ (25 ≤ t ∧ t ≤ 29) ∨ t = 39 ∨ t = 40 ∨ t = 41 ∨ t = 44 ∨ t = 45
theorem fp_CX {t i k : Nat} (h : fp_C0 t i k) : fp_X t i k := by unfold fp_C0 at h; unfold fp_X; omega
theorem fp_MX {t i k : Nat} (h : fp_M0 t i k) : fp_X t i k := by unfold fp_M0 at h; unfold fp_X; omega
theorem fp_oC {s t i k : Nat} (hs : s ≠ 1) (h : fp_o s t i k) : fp_C0 t i k := by unfold fp_o at h; unfold fp_C0; omega
theorem fp_sC {s t i k : Nat} (hs : s ≠ 1) (h : fp_s s t i k) : fp_C0 t i k := by unfold fp_s at h; unfold fp_C0; omega
theorem fp_vC {s t i k : Nat} (h : fp_v s t i k) : fp_C0 t i k := by unfold fp_v at h; unfold fp_C0; omega
theorem fp_wM {t i k : Nat} (h : fp_w t i k) : fp_M0 t i k := by unfold fp_w at h; unfold fp_M0; omega
theorem fp_gM {t i k : Nat} (h : fp_g t i k) : fp_M0 t i k := by unfold fp_g at h; unfold fp_M0; omega
theorem fp_kM {t i k : Nat} (h : fp_k t i k) : fp_M0 t i k := by unfold fp_k at h; unfold fp_M0; omega
section SIDES
variable {u v : pa_S} {w w' : pw_W} {e : pw_E} {N s : Nat}
theorem wo_M_C0 (h : fr_of fp_C0 u v) (z : wo_M u w) : wo_M v w := wo_M_fr h (by unfold fp_C0; omega) (fun t _ _ => by unfold fp_C0; omega) z
theorem en_M_C0 (h : fr_of fp_C0 u v) (z : en_M u e N) : en_M v e N := en_M_fr (fun t i k _ _ => by unfold fp_C0; omega) h z
theorem en_C_C0 (h : fr_of fp_C0 u v) (z : en_C u e) : en_C v e := en_C_fr (fun t i k _ _ => by unfold fp_C0; omega) (by unfold fp_C0; omega) h z
theorem wo_C_M0 (h : fr_of fp_M0 u v) (z : wo_C u s w) : wo_C v s w := wo_C_fr (fun t k _ _ => by unfold fp_M0; omega) (by unfold fp_M0; omega) h z
theorem en_C_M0 (h : fr_of fp_M0 u v) (z : en_C u e) : en_C v e := en_C_fr (fun t i k _ _ => by unfold fp_M0; omega) (by unfold fp_M0; omega) h z
theorem en_M_M0 (h : fr_of fp_M0 u v) (z : en_M u e N) : en_M v e N := en_M_fr (fun t i k _ _ => by unfold fp_M0; omega) h z
theorem iv_z_M0 (h : fr_of fp_M0 u v) (z : iv_z u s w) : iv_z v s w := iv_z_fr h (by unfold fp_M0; omega) (by unfold fp_M0; omega) z
theorem iv_n_M0 (h : fr_of fp_M0 u v) (z : iv_n u N) : iv_n v N := fun s hs => by rw [h.2.2.2 _ _ (by unfold fp_M0; omega)]; exact z s hs
theorem iv_n_o (h : fr_of (fp_o s) u v) (z : iv_n u N) : iv_n v N := fun s hs => by rw [h.2.2.2 _ _ (by unfold fp_o; omega)]; exact z s hs
theorem iv_n_v (h : fr_of (fp_v s) u v) (z : iv_n u N) : iv_n v N := fun s hs => by rw [h.2.2.2 _ _ (by unfold fp_v; omega)]; exact z s hs
theorem iv_n_s (h : fr_of (fp_s s) u v) (hc : wo_C v s w) (hN : wo_b w < N) (z : iv_n u N) : iv_n v N := fun s' hs => by
  by_cases q : s' = s
  · rw [q, hc.2.2.2.1]; exact hN
  · rw [h.2.2.2 _ _ (by unfold fp_s; omega)]; exact z s' hs
theorem iv_b (hr : iv_r u e N) (hc : wo_C u s w) : wo_b w < N := by rw [← hr.1.1]; exact hc.2.2.2.2.1
/-- the end of a call -/
theorem iv_mk (hr : iv_r u e N) (hl : iv_l u (wo_n w)) (hg : fr_of fp_X u v) (hw : iv_w v w') (hn : wo_n w ≤ wo_n w') (hN : iv_n v N) : iv_I v :=
  ⟨w', e, N, hw, iv_r_X hg hr, iv_l_X hg hn hl, hN⟩
end SIDES
