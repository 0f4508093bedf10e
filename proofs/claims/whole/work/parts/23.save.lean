/-! what the reference saves and puts back -/
def fp_k (t i k : Nat) : Prop := (t = 24 ∧ (k = 26 ∨ k = 27)) ∨ t = 40 ∨ t = 41
theorem fp_kq {t i k : Nat} (h : fp_k t i k) : fp_q t i k := by unfold fp_k at h; unfold fp_q; omega
/-- what is saved is w's -/
def wo_K (u : pa_S) (w : pw_W) : Prop := pa_I u 24 0 26 = nI (wo_d w) ∧ pa_I u 24 0 27 = nI (wo_i w) ∧ (∀ h, h < wo_n w → pa_A u 40 0 h = nI (wo_s w h)) ∧ (∀ j, j < 3 * wo_n w → pa_A u 41 0 j = nI (wo_l w j))
theorem wo_K_frw {u v : pa_S} {w : pw_W} (a : fr_of fp_w u v) (c : wo_K u w) : wo_K v w := by
  obtain ⟨c1, c2, c3, c4⟩ := c
  have n : ∀ t i k, t = 24 ∧ (k = 26 ∨ k = 27) ∨ t = 40 ∨ t = 41 → ¬ fp_w t i k := fun t i k h z => by unfold fp_w at z; omega
  refine ⟨(a.1 _ _ _ (n _ _ _ (by omega))).trans c1, (a.1 _ _ _ (n _ _ _ (by omega))).trans c2, fun h hh => ?_, fun j hj => ?_⟩
  · rw [a.2.1 40 0 (n _ _ _ (by omega))]; exact c3 h hh
  · rw [a.2.1 41 0 (n _ _ _ (by omega))]; exact c4 j hj
section SAVE
variable {w : pw_W}
theorem ml_save43 {po : pa_S → Prop} : ∀ (k f i : Nat) (u : pa_S), i + k = 15 → k < f → (∀ j, j < i → pa_A u 41 0 j = pa_A u 28 0 j) →
    (∀ v, (∀ j, j < 15 → pa_A v 41 0 j = pa_A u 28 0 j) → fr_of (fun t _ _ => t = 41) u v → po v) → wl_X7_save_43 po f u (nI i)
  | 0, f + 1, i, u, e, _, hi, hk => by
    unfold wl_X7_save_43 wb_X7_save_43
    rw [if_pos (show (15 : Int32) ≤ nI i from nI_le (a := 15) (by omega) (by omega))]
    exact hk u (fun j hj => hi j (by omega)) (fr_refl u)
  | k + 1, f + 1, i, u, e, hlt, hi, hk => by
    unfold wl_X7_save_43 wb_X7_save_43
    rw [if_neg (show ¬ (15 : Int32) ≤ nI i from nI_ge (b := 15) (by omega) (by omega)), pw_and (vp_in_nI (by omega) (by omega)), pw_and (vp_in_nI (by omega) (by omega)), nI_clamp (by omega)]
    simp only [forall_eq, pw_n1, nI_add]
    refine ml_save43 k f (i + 1) _ (by omega) (by omega) (fun j hj => ?_) (fun v hv hg => hk v (fun j hj => ?_) (fr_trans (fr_sA rfl (fr_refl u)) hg))
    · rw [pA_sA, pA_sA, if_pos ⟨rfl, rfl⟩, if_neg (by omega), pw_upd]
      by_cases z : j = i
      · rw [if_pos z, z]
      · rw [if_neg z]; exact hi j (by omega)
    · rw [hv j hj, pA_sA, if_neg (by omega)]
theorem ml_save18 {po : pa_S → Prop} : ∀ (k f i : Nat) (u : pa_S), i + k = 5 → k < f → (∀ j, j < i → pa_A u 40 0 j = pa_A u 27 0 j) →
    (∀ v, (∀ j, j < 5 → pa_A v 40 0 j = pa_A u 27 0 j) → (∀ j, j < 15 → pa_A v 41 0 j = pa_A u 28 0 j) → fr_of (fun t _ _ => t = 40 ∨ t = 41) u v → po v) → wl_X7_save_18 po f u (nI i)
  | 0, f + 1, i, u, e, _, hi, hk => by
    unfold wl_X7_save_18 wb_X7_save_18
    rw [if_pos (show (5 : Int32) ≤ nI i from nI_le (a := 5) (by omega) (by omega)), pw_n0]
    refine ml_save43 15 5000 0 u (by omega) (by omega) (fun j hj => absurd hj (Nat.not_lt_zero j)) (fun v hv hg => hk v (fun j hj => ?_) hv (fr_mono (fun _ _ _ z => Or.inr z) hg))
    rw [hg.2.1 40 0 (by omega)]
    exact hi j (by omega)
  | k + 1, f + 1, i, u, e, hlt, hi, hk => by
    unfold wl_X7_save_18 wb_X7_save_18
    rw [if_neg (show ¬ (5 : Int32) ≤ nI i from nI_ge (b := 5) (by omega) (by omega)), pw_and (vp_in_nI (by omega) (by omega)), pw_and (vp_in_nI (by omega) (by omega)), nI_clamp (by omega)]
    simp only [forall_eq, pw_n1, nI_add]
    refine ml_save18 k f (i + 1) _ (by omega) (by omega) (fun j hj => ?_) (fun v hv hv2 hg => hk v (fun j hj => ?_) (fun j hj => ?_) (fr_trans (fr_sA (Or.inl rfl) (fr_refl u)) hg))
    · rw [pA_sA, pA_sA, if_pos ⟨rfl, rfl⟩, if_neg (by omega), pw_upd]
      by_cases z : j = i
      · rw [if_pos z, z]
      · rw [if_neg z]; exact hi j (by omega)
    · rw [hv j hj, pA_sA, if_neg (by omega)]
    · rw [hv2 j hj, pA_sA, if_neg (by omega)]
theorem mp_save {u : pa_S} {po : pa_S → Prop} (hf : wo_WF w) (hc : wo_M u w) (hk : ∀ v, wo_M v w → wo_K v w → fr_of fp_k u v → po v) : wp_X7_save u po := by
  have h5 := hf.1
  unfold wp_X7_save wb_X7_save_0
  simp only [forall_eq]
  rw [pw_n0]
  refine ml_save18 5 5000 0 _ (by omega) (by omega) (fun j hj => absurd hj (Nat.not_lt_zero j)) (fun v hv hv2 hg => ?_)
  have g0 : fr_of fp_k u v := fr_trans (fr_sI (Or.inl ⟨rfl, Or.inr rfl⟩) (fr_sI (Or.inl ⟨rfl, Or.inl rfl⟩) (fr_refl u))) (fr_mono (fun t i k z => Or.inr z) hg)
  obtain ⟨c1, c2, c3, c4, c6, c7, c8⟩ := hc
  have n : ∀ t i k, t ≤ 29 → k ≠ 26 → k ≠ 27 → ¬ fp_k t i k := fun t i k h _ _ z => by unfold fp_k at z; omega
  have m : wo_M v w := by
    refine ⟨(g0.1 _ _ _ (n _ _ _ (by omega) (by omega) (by omega))).trans c1, (g0.1 _ _ _ (n _ _ _ (by omega) (by omega) (by omega))).trans c2, (g0.1 _ _ _ (n _ _ _ (by omega) (by omega) (by omega))).trans c3, (g0.1 _ _ _ (n _ _ _ (by omega) (by omega) (by omega))).trans c4, fun h hh => ?_, fun j hj => ?_, fun j hj => ?_⟩
    · rw [g0.2.1 25 0 (n _ _ _ (by omega) (by omega) (by omega)), g0.2.1 26 0 (n _ _ _ (by omega) (by omega) (by omega)), g0.2.1 27 0 (n _ _ _ (by omega) (by omega) (by omega))]; exact c6 h hh
    · rw [g0.2.1 28 0 (n _ _ _ (by omega) (by omega) (by omega))]; exact c7 j hj
    · rw [g0.2.1 29 0 (n _ _ _ (by omega) (by omega) (by omega))]; exact c8 j hj
  refine hk v m ⟨?_, ?_, fun h hh => ?_, fun j hj => ?_⟩ g0
  · rw [hg.1 24 0 26 (by omega), pI_sI, if_neg (by omega), pI_sI, if_pos ⟨rfl, rfl, rfl⟩]; exact c3
  · rw [hg.1 24 0 27 (by omega), pI_sI, if_pos ⟨rfl, rfl, rfl⟩, pI_sI, if_neg (by omega)]; exact c2
  · rw [hv h (by omega), pA_sI, pA_sI]; exact (c6 h hh).2.2
  · rw [hv2 j (by omega), pA_sI, pA_sI]; exact c7 j hj
theorem ml_back43 {po : pa_S → Prop} : ∀ (k f i : Nat) (u : pa_S), i + k = 15 → k < f → (∀ j, j < i → pa_A u 28 0 j = pa_A u 41 0 j) →
    (∀ v, (∀ j, j < 15 → pa_A v 28 0 j = pa_A u 41 0 j) → fr_of (fun t _ _ => t = 28) u v → po v) → wl_X7_putBack_43 po f u (nI i)
  | 0, f + 1, i, u, e, _, hi, hk => by
    unfold wl_X7_putBack_43 wb_X7_putBack_43
    rw [if_pos (show (15 : Int32) ≤ nI i from nI_le (a := 15) (by omega) (by omega))]
    exact hk u (fun j hj => hi j (by omega)) (fr_refl u)
  | k + 1, f + 1, i, u, e, hlt, hi, hk => by
    unfold wl_X7_putBack_43 wb_X7_putBack_43
    rw [if_neg (show ¬ (15 : Int32) ≤ nI i from nI_ge (b := 15) (by omega) (by omega)), pw_and (vp_in_nI (by omega) (by omega)), pw_and (vp_in_nI (by omega) (by omega)), nI_clamp (by omega)]
    simp only [forall_eq, pw_n1, nI_add]
    refine ml_back43 k f (i + 1) _ (by omega) (by omega) (fun j hj => ?_) (fun v hv hg => hk v (fun j hj => ?_) (fr_trans (fr_sA rfl (fr_refl u)) hg))
    · rw [pA_sA, pA_sA, if_pos ⟨rfl, rfl⟩, if_neg (by omega), pw_upd]
      by_cases z : j = i
      · rw [if_pos z, z]
      · rw [if_neg z]; exact hi j (by omega)
    · rw [hv j hj, pA_sA, if_neg (by omega)]
theorem ml_back18 {po : pa_S → Prop} : ∀ (k f i : Nat) (u : pa_S), i + k = 5 → k < f → (∀ j, j < i → pa_A u 27 0 j = pa_A u 40 0 j) →
    (∀ v, (∀ j, j < 5 → pa_A v 27 0 j = pa_A u 40 0 j) → (∀ j, j < 15 → pa_A v 28 0 j = pa_A u 41 0 j) → fr_of (fun t _ _ => t = 27 ∨ t = 28) u v → po v) → wl_X7_putBack_18 po f u (nI i)
  | 0, f + 1, i, u, e, _, hi, hk => by
    unfold wl_X7_putBack_18 wb_X7_putBack_18
    rw [if_pos (show (5 : Int32) ≤ nI i from nI_le (a := 5) (by omega) (by omega)), pw_n0]
    refine ml_back43 15 5000 0 u (by omega) (by omega) (fun j hj => absurd hj (Nat.not_lt_zero j)) (fun v hv hg => hk v (fun j hj => ?_) hv (fr_mono (fun _ _ _ z => Or.inr z) hg))
    rw [hg.2.1 27 0 (by omega)]
    exact hi j (by omega)
  | k + 1, f + 1, i, u, e, hlt, hi, hk => by
    unfold wl_X7_putBack_18 wb_X7_putBack_18
    rw [if_neg (show ¬ (5 : Int32) ≤ nI i from nI_ge (b := 5) (by omega) (by omega)), pw_and (vp_in_nI (by omega) (by omega)), pw_and (vp_in_nI (by omega) (by omega)), nI_clamp (by omega)]
    simp only [forall_eq, pw_n1, nI_add]
    refine ml_back18 k f (i + 1) _ (by omega) (by omega) (fun j hj => ?_) (fun v hv hv2 hg => hk v (fun j hj => ?_) (fun j hj => ?_) (fr_trans (fr_sA (Or.inl rfl) (fr_refl u)) hg))
    · rw [pA_sA, pA_sA, if_pos ⟨rfl, rfl⟩, if_neg (by omega), pw_upd]
      by_cases z : j = i
      · rw [if_pos z, z]
      · rw [if_neg z]; exact hi j (by omega)
    · rw [hv j hj, pA_sA, if_neg (by omega)]
    · rw [hv2 j hj, pA_sA, if_neg (by omega)]
/-- w' is what w became; but for what is saved it is still w -/
def wo_eq (w w' : pw_W) : Prop := wo_n w' = wo_n w ∧ wo_k w' = wo_k w ∧ wo_v w' = wo_v w ∧ wo_r w' = wo_r w ∧ wo_b w' = wo_b w
theorem wo_eq_set {s l : Nat → Nat} {i d : Nat} : wo_eq w (wo_set w s l i d) := ⟨rfl, rfl, rfl, rfl, rfl⟩
theorem mp_putBack {u : pa_S} {w' : pw_W} {po : pa_S → Prop} (hf : wo_WF w) (hc : wo_M u w') (he : wo_eq w w') (hK : wo_K u w) (hk : ∀ v, wo_M v w → wo_K v w → fr_of fp_w u v → po v) : wp_X7_putBack u po := by
  have h5 := hf.1
  unfold wp_X7_putBack wb_X7_putBack_0
  simp only [forall_eq]
  rw [pw_n0]
  refine ml_back18 5 5000 0 _ (by omega) (by omega) (fun j hj => absurd hj (Nat.not_lt_zero j)) (fun v hv hv2 hg => ?_)
  have g0 : fr_of fp_w u v := fr_trans (fr_sI (Or.inl ⟨rfl, Or.inr rfl⟩) (fr_sI (Or.inl ⟨rfl, Or.inl rfl⟩) (fr_refl u))) (fr_mono (fun t i k z => by unfold fp_w; omega) hg)
  obtain ⟨c1, c2, c3, c4, c6, c7, c8⟩ := hc
  obtain ⟨k1, k2, k3, k4⟩ := hK
  obtain ⟨e1, e2, e3, e4, e5⟩ := he
  rw [e1] at c1 c6 c7 c8
  rw [e5] at c4
  refine hk v ⟨?_, ?_, ?_, ?_, fun h hh => ?_, fun j hj => ?_, fun j hj => ?_⟩ (wo_K_frw g0 ⟨k1, k2, k3, k4⟩) g0
  · rw [g0.1 24 0 0 (by unfold fp_w; omega)]; exact c1
  · rw [hg.1 24 0 2 (by omega), pI_sI, if_pos ⟨rfl, rfl, rfl⟩, pI_sI, if_neg (by omega)]; exact k2
  · rw [hg.1 24 0 1 (by omega), pI_sI, if_neg (by omega), pI_sI, if_pos ⟨rfl, rfl, rfl⟩]; exact k1
  · rw [g0.1 24 0 9 (by unfold fp_w; omega)]; exact c4
  · rw [g0.2.1 25 0 (by unfold fp_w; omega), g0.2.1 26 0 (by unfold fp_w; omega), hv h (by omega), pA_sI, pA_sI, k3 h hh, ← e2, ← e3]
    exact ⟨(c6 h hh).1, (c6 h hh).2.1, rfl⟩
  · rw [hv2 j (by omega), pA_sI, pA_sI]; exact k4 j hj
  · rw [g0.2.1 29 0 (by unfold fp_w; omega), ← e4]; exact c8 j hj
end SAVE
