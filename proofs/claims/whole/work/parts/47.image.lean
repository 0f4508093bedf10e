/-! image, undo: the reference's loops (laid by gen47.py) -/
theorem cp_A {u v : pa_S} {d s j : Nat} (e : v = pa_sA u d 0 (upd (pa_A u d 0) j (pa_A u s 0 j))) : pa_A v d 0 = upd (pa_A u d 0) j (pa_A u s 0 j) ∧ fr_of (fun t _ _ => t = d) u v := by
  subst e
  exact ⟨pa_A_sA_self, fr_sA rfl (fr_refl u)⟩
theorem cp_I {u v : pa_S} {k : Nat} {x : Int32} (e : v = pa_sI u 24 0 k x) : pa_I v 24 0 k = x ∧ fr_of (fun t _ q => t = 24 ∧ q = k) u v := by
  subst e
  exact ⟨by rw [pI_sI, if_pos ⟨rfl, rfl, rfl⟩], fr_sI ⟨rfl, rfl⟩ (fr_refl u)⟩
theorem ml_image_238 {po : Int32 → pa_S → Prop} : ∀ (k f j : Nat) (u : pa_S), j + k = 8 → k < f → (∀ i, i < j → pa_A u 61 0 i = pa_A u 42 0 i ∧ pa_A u 62 0 i = pa_A u 43 0 i) →
    (∀ v, (∀ i, i < 8 → pa_A v 61 0 i = pa_A u 42 0 i ∧ pa_A v 62 0 i = pa_A u 43 0 i) → fr_of (fun t _ _ => t = 61 ∨ t = 62) u v → po (pa_I v 24 0 0) v) → wl_X7_image_238 po f u (nI j) := by
  intro k
  induction k with
  | zero =>
    intro f j u eq hlt hi hk
    obtain ⟨f, rfl⟩ : ∃ g, f = g + 1 := ⟨f - 1, by omega⟩
    unfold wl_X7_image_238 wb_X7_image_238
    rw [if_pos (show (8 : Int32) ≤ nI j from nI_le (a := 8) (by omega) (by omega))]
    exact hk u (fun i h => hi i (by omega)) (fr_refl u)
  | succ k ih =>
    intro f j u eq hlt hi hk
    obtain ⟨f, rfl⟩ : ∃ g, f = g + 1 := ⟨f - 1, by omega⟩
    have hin : vp_in (nI j) 8 := vp_in_nI (by omega) (by omega)
    unfold wl_X7_image_238 wb_X7_image_238
    rw [if_neg (show ¬ (8 : Int32) ≤ nI j from nI_ge (b := 8) (by omega) (by omega)), nI_clamp (by omega)]
    refine ⟨hin, hin, fun v1 e1 => ⟨hin, hin, fun v2 e2 => fun x ex => ?_⟩⟩
    subst ex
    rw [pw_n1, nI_add]
    obtain ⟨h1, g1⟩ := cp_A e1
    obtain ⟨h2, g2⟩ := cp_A e2
    have d1 : pa_A v2 61 0 = upd (pa_A u 61 0) j (pa_A u 42 0 j) := by rw [g2.2.1 61 0 (by omega), h1]
    have s1 : pa_A v2 42 0 = pa_A u 42 0 := by rw [g2.2.1 42 0 (by omega), g1.2.1 42 0 (by omega)]
    have d2 : pa_A v2 62 0 = upd (pa_A u 62 0) j (pa_A u 43 0 j) := by rw [h2, g1.2.1 62 0 (by omega), g1.2.1 43 0 (by omega)]
    have s2 : pa_A v2 43 0 = pa_A u 43 0 := by rw [g2.2.1 43 0 (by omega), g1.2.1 43 0 (by omega)]
    have G : fr_of (fun t _ _ => t = 61 ∨ t = 62) u v2 := fr_trans (fr_mono (fun t _ _ y => by omega) g1) (fr_mono (fun t _ _ y => by omega) g2)
    refine ih f (j + 1) v2 (by omega) (by omega) (fun i h => ?_) (fun v hv g => hk v (fun i h => ?_) (fr_trans G g))
    · rw [d1, d2, s1, s2, pw_upd, pw_upd]
      by_cases q : i = j
      · subst q
        rw [if_pos rfl, if_pos rfl]
        exact ⟨rfl, rfl⟩
      · rw [if_neg q, if_neg q]; exact hi i (by omega)
    · have hh := hv i h
      rw [s1, s2] at hh
      exact hh
theorem ml_image_200 {po : Int32 → pa_S → Prop} : ∀ (k f j : Nat) (u : pa_S), j + k = 10 → k < f → (∀ i, i < j → pa_A u 59 0 i = pa_A u 49 0 i ∧ pa_A u 60 0 i = pa_A u 50 0 i) →
    (∀ v, (∀ i, i < 10 → pa_A v 59 0 i = pa_A u 49 0 i ∧ pa_A v 60 0 i = pa_A u 50 0 i) → fr_of (fun t _ _ => t = 59 ∨ t = 60) u v → wl_X7_image_238 po 5000 v 0) → wl_X7_image_200 po f u (nI j) := by
  intro k
  induction k with
  | zero =>
    intro f j u eq hlt hi hk
    obtain ⟨f, rfl⟩ : ∃ g, f = g + 1 := ⟨f - 1, by omega⟩
    unfold wl_X7_image_200 wb_X7_image_200
    rw [if_pos (show (10 : Int32) ≤ nI j from nI_le (a := 10) (by omega) (by omega))]
    exact hk u (fun i h => hi i (by omega)) (fr_refl u)
  | succ k ih =>
    intro f j u eq hlt hi hk
    obtain ⟨f, rfl⟩ : ∃ g, f = g + 1 := ⟨f - 1, by omega⟩
    have hin : vp_in (nI j) 10 := vp_in_nI (by omega) (by omega)
    unfold wl_X7_image_200 wb_X7_image_200
    rw [if_neg (show ¬ (10 : Int32) ≤ nI j from nI_ge (b := 10) (by omega) (by omega)), nI_clamp (by omega)]
    refine ⟨hin, hin, fun v1 e1 => ⟨hin, hin, fun v2 e2 => fun x ex => ?_⟩⟩
    subst ex
    rw [pw_n1, nI_add]
    obtain ⟨h1, g1⟩ := cp_A e1
    obtain ⟨h2, g2⟩ := cp_A e2
    have d1 : pa_A v2 59 0 = upd (pa_A u 59 0) j (pa_A u 49 0 j) := by rw [g2.2.1 59 0 (by omega), h1]
    have s1 : pa_A v2 49 0 = pa_A u 49 0 := by rw [g2.2.1 49 0 (by omega), g1.2.1 49 0 (by omega)]
    have d2 : pa_A v2 60 0 = upd (pa_A u 60 0) j (pa_A u 50 0 j) := by rw [h2, g1.2.1 60 0 (by omega), g1.2.1 50 0 (by omega)]
    have s2 : pa_A v2 50 0 = pa_A u 50 0 := by rw [g2.2.1 50 0 (by omega), g1.2.1 50 0 (by omega)]
    have G : fr_of (fun t _ _ => t = 59 ∨ t = 60) u v2 := fr_trans (fr_mono (fun t _ _ y => by omega) g1) (fr_mono (fun t _ _ y => by omega) g2)
    refine ih f (j + 1) v2 (by omega) (by omega) (fun i h => ?_) (fun v hv g => hk v (fun i h => ?_) (fr_trans G g))
    · rw [d1, d2, s1, s2, pw_upd, pw_upd]
      by_cases q : i = j
      · subst q
        rw [if_pos rfl, if_pos rfl]
        exact ⟨rfl, rfl⟩
      · rw [if_neg q, if_neg q]; exact hi i (by omega)
    · have hh := hv i h
      rw [s1, s2] at hh
      exact hh
theorem ml_image_174 {po : Int32 → pa_S → Prop} : ∀ (k f j : Nat) (u : pa_S), j + k = 20 → k < f → (∀ i, i < j → pa_A u 55 0 i = pa_A u 29 0 i) →
    (∀ v, (∀ i, i < 20 → pa_A v 55 0 i = pa_A u 29 0 i) → fr_of (fun t _ _ => t = 55) u v → wl_X7_image_200 po 5000 v 0) → wl_X7_image_174 po f u (nI j) := by
  intro k
  induction k with
  | zero =>
    intro f j u eq hlt hi hk
    obtain ⟨f, rfl⟩ : ∃ g, f = g + 1 := ⟨f - 1, by omega⟩
    unfold wl_X7_image_174 wb_X7_image_174
    rw [if_pos (show (20 : Int32) ≤ nI j from nI_le (a := 20) (by omega) (by omega))]
    exact hk u (fun i h => hi i (by omega)) (fr_refl u)
  | succ k ih =>
    intro f j u eq hlt hi hk
    obtain ⟨f, rfl⟩ : ∃ g, f = g + 1 := ⟨f - 1, by omega⟩
    have hin : vp_in (nI j) 20 := vp_in_nI (by omega) (by omega)
    unfold wl_X7_image_174 wb_X7_image_174
    rw [if_neg (show ¬ (20 : Int32) ≤ nI j from nI_ge (b := 20) (by omega) (by omega)), nI_clamp (by omega)]
    refine ⟨hin, hin, fun v1 e1 => fun x ex => ?_⟩
    subst ex
    rw [pw_n1, nI_add]
    obtain ⟨h1, g1⟩ := cp_A e1
    have d1 : pa_A v1 55 0 = upd (pa_A u 55 0) j (pa_A u 29 0 j) := by rw [h1]
    have s1 : pa_A v1 29 0 = pa_A u 29 0 := by rw [g1.2.1 29 0 (by omega)]
    have G : fr_of (fun t _ _ => t = 55) u v1 := fr_mono (fun t _ _ y => by omega) g1
    refine ih f (j + 1) v1 (by omega) (by omega) (fun i h => ?_) (fun v hv g => hk v (fun i h => ?_) (fr_trans G g))
    · rw [d1, s1, pw_upd]
      by_cases q : i = j
      · rw [if_pos q, q]
      · rw [if_neg q]; exact hi i (by omega)
    · have hh := hv i h
      rw [s1] at hh
      exact hh
theorem ml_image_148 {po : Int32 → pa_S → Prop} : ∀ (k f j : Nat) (u : pa_S), j + k = 15 → k < f → (∀ i, i < j → pa_A u 54 0 i = pa_A u 28 0 i) →
    (∀ v, (∀ i, i < 15 → pa_A v 54 0 i = pa_A u 28 0 i) → fr_of (fun t _ _ => t = 54) u v → wl_X7_image_174 po 5000 v 0) → wl_X7_image_148 po f u (nI j) := by
  intro k
  induction k with
  | zero =>
    intro f j u eq hlt hi hk
    obtain ⟨f, rfl⟩ : ∃ g, f = g + 1 := ⟨f - 1, by omega⟩
    unfold wl_X7_image_148 wb_X7_image_148
    rw [if_pos (show (15 : Int32) ≤ nI j from nI_le (a := 15) (by omega) (by omega))]
    exact hk u (fun i h => hi i (by omega)) (fr_refl u)
  | succ k ih =>
    intro f j u eq hlt hi hk
    obtain ⟨f, rfl⟩ : ∃ g, f = g + 1 := ⟨f - 1, by omega⟩
    have hin : vp_in (nI j) 15 := vp_in_nI (by omega) (by omega)
    unfold wl_X7_image_148 wb_X7_image_148
    rw [if_neg (show ¬ (15 : Int32) ≤ nI j from nI_ge (b := 15) (by omega) (by omega)), nI_clamp (by omega)]
    refine ⟨hin, hin, fun v1 e1 => fun x ex => ?_⟩
    subst ex
    rw [pw_n1, nI_add]
    obtain ⟨h1, g1⟩ := cp_A e1
    have d1 : pa_A v1 54 0 = upd (pa_A u 54 0) j (pa_A u 28 0 j) := by rw [h1]
    have s1 : pa_A v1 28 0 = pa_A u 28 0 := by rw [g1.2.1 28 0 (by omega)]
    have G : fr_of (fun t _ _ => t = 54) u v1 := fr_mono (fun t _ _ y => by omega) g1
    refine ih f (j + 1) v1 (by omega) (by omega) (fun i h => ?_) (fun v hv g => hk v (fun i h => ?_) (fr_trans G g))
    · rw [d1, s1, pw_upd]
      by_cases q : i = j
      · rw [if_pos q, q]
      · rw [if_neg q]; exact hi i (by omega)
    · have hh := hv i h
      rw [s1] at hh
      exact hh
theorem ml_image_63 {po : Int32 → pa_S → Prop} : ∀ (k f j : Nat) (u : pa_S), j + k = 5 → k < f → (∀ i, i < j → pa_A u 51 0 i = pa_A u 25 0 i ∧ pa_A u 52 0 i = pa_A u 26 0 i ∧ pa_A u 53 0 i = pa_A u 27 0 i ∧ pa_A u 56 0 i = pa_A u 46 0 i ∧ pa_A u 57 0 i = pa_A u 47 0 i ∧ pa_A u 58 0 i = pa_A u 48 0 i) →
    (∀ v, (∀ i, i < 5 → pa_A v 51 0 i = pa_A u 25 0 i ∧ pa_A v 52 0 i = pa_A u 26 0 i ∧ pa_A v 53 0 i = pa_A u 27 0 i ∧ pa_A v 56 0 i = pa_A u 46 0 i ∧ pa_A v 57 0 i = pa_A u 47 0 i ∧ pa_A v 58 0 i = pa_A u 48 0 i) → fr_of (fun t _ _ => t = 51 ∨ t = 52 ∨ t = 53 ∨ t = 56 ∨ t = 57 ∨ t = 58) u v → wl_X7_image_148 po 5000 v 0) → wl_X7_image_63 po f u (nI j) := by
  intro k
  induction k with
  | zero =>
    intro f j u eq hlt hi hk
    obtain ⟨f, rfl⟩ : ∃ g, f = g + 1 := ⟨f - 1, by omega⟩
    unfold wl_X7_image_63 wb_X7_image_63
    rw [if_pos (show (5 : Int32) ≤ nI j from nI_le (a := 5) (by omega) (by omega))]
    exact hk u (fun i h => hi i (by omega)) (fr_refl u)
  | succ k ih =>
    intro f j u eq hlt hi hk
    obtain ⟨f, rfl⟩ : ∃ g, f = g + 1 := ⟨f - 1, by omega⟩
    have hin : vp_in (nI j) 5 := vp_in_nI (by omega) (by omega)
    unfold wl_X7_image_63 wb_X7_image_63
    rw [if_neg (show ¬ (5 : Int32) ≤ nI j from nI_ge (b := 5) (by omega) (by omega)), nI_clamp (by omega)]
    refine ⟨hin, hin, fun v1 e1 => ⟨hin, hin, fun v2 e2 => ⟨hin, hin, fun v3 e3 => ⟨hin, hin, fun v4 e4 => ⟨hin, hin, fun v5 e5 => ⟨hin, hin, fun v6 e6 => fun x ex => ?_⟩⟩⟩⟩⟩⟩
    subst ex
    rw [pw_n1, nI_add]
    obtain ⟨h1, g1⟩ := cp_A e1
    obtain ⟨h2, g2⟩ := cp_A e2
    obtain ⟨h3, g3⟩ := cp_A e3
    obtain ⟨h4, g4⟩ := cp_A e4
    obtain ⟨h5, g5⟩ := cp_A e5
    obtain ⟨h6, g6⟩ := cp_A e6
    have d1 : pa_A v6 51 0 = upd (pa_A u 51 0) j (pa_A u 25 0 j) := by rw [g6.2.1 51 0 (by omega), g5.2.1 51 0 (by omega), g4.2.1 51 0 (by omega), g3.2.1 51 0 (by omega), g2.2.1 51 0 (by omega), h1]
    have s1 : pa_A v6 25 0 = pa_A u 25 0 := by rw [g6.2.1 25 0 (by omega), g5.2.1 25 0 (by omega), g4.2.1 25 0 (by omega), g3.2.1 25 0 (by omega), g2.2.1 25 0 (by omega), g1.2.1 25 0 (by omega)]
    have d2 : pa_A v6 52 0 = upd (pa_A u 52 0) j (pa_A u 26 0 j) := by rw [g6.2.1 52 0 (by omega), g5.2.1 52 0 (by omega), g4.2.1 52 0 (by omega), g3.2.1 52 0 (by omega), h2, g1.2.1 52 0 (by omega), g1.2.1 26 0 (by omega)]
    have s2 : pa_A v6 26 0 = pa_A u 26 0 := by rw [g6.2.1 26 0 (by omega), g5.2.1 26 0 (by omega), g4.2.1 26 0 (by omega), g3.2.1 26 0 (by omega), g2.2.1 26 0 (by omega), g1.2.1 26 0 (by omega)]
    have d3 : pa_A v6 53 0 = upd (pa_A u 53 0) j (pa_A u 27 0 j) := by rw [g6.2.1 53 0 (by omega), g5.2.1 53 0 (by omega), g4.2.1 53 0 (by omega), h3, g2.2.1 53 0 (by omega), g1.2.1 53 0 (by omega), g2.2.1 27 0 (by omega), g1.2.1 27 0 (by omega)]
    have s3 : pa_A v6 27 0 = pa_A u 27 0 := by rw [g6.2.1 27 0 (by omega), g5.2.1 27 0 (by omega), g4.2.1 27 0 (by omega), g3.2.1 27 0 (by omega), g2.2.1 27 0 (by omega), g1.2.1 27 0 (by omega)]
    have d4 : pa_A v6 56 0 = upd (pa_A u 56 0) j (pa_A u 46 0 j) := by rw [g6.2.1 56 0 (by omega), g5.2.1 56 0 (by omega), h4, g3.2.1 56 0 (by omega), g2.2.1 56 0 (by omega), g1.2.1 56 0 (by omega), g3.2.1 46 0 (by omega), g2.2.1 46 0 (by omega), g1.2.1 46 0 (by omega)]
    have s4 : pa_A v6 46 0 = pa_A u 46 0 := by rw [g6.2.1 46 0 (by omega), g5.2.1 46 0 (by omega), g4.2.1 46 0 (by omega), g3.2.1 46 0 (by omega), g2.2.1 46 0 (by omega), g1.2.1 46 0 (by omega)]
    have d5 : pa_A v6 57 0 = upd (pa_A u 57 0) j (pa_A u 47 0 j) := by rw [g6.2.1 57 0 (by omega), h5, g4.2.1 57 0 (by omega), g3.2.1 57 0 (by omega), g2.2.1 57 0 (by omega), g1.2.1 57 0 (by omega), g4.2.1 47 0 (by omega), g3.2.1 47 0 (by omega), g2.2.1 47 0 (by omega), g1.2.1 47 0 (by omega)]
    have s5 : pa_A v6 47 0 = pa_A u 47 0 := by rw [g6.2.1 47 0 (by omega), g5.2.1 47 0 (by omega), g4.2.1 47 0 (by omega), g3.2.1 47 0 (by omega), g2.2.1 47 0 (by omega), g1.2.1 47 0 (by omega)]
    have d6 : pa_A v6 58 0 = upd (pa_A u 58 0) j (pa_A u 48 0 j) := by rw [h6, g5.2.1 58 0 (by omega), g4.2.1 58 0 (by omega), g3.2.1 58 0 (by omega), g2.2.1 58 0 (by omega), g1.2.1 58 0 (by omega), g5.2.1 48 0 (by omega), g4.2.1 48 0 (by omega), g3.2.1 48 0 (by omega), g2.2.1 48 0 (by omega), g1.2.1 48 0 (by omega)]
    have s6 : pa_A v6 48 0 = pa_A u 48 0 := by rw [g6.2.1 48 0 (by omega), g5.2.1 48 0 (by omega), g4.2.1 48 0 (by omega), g3.2.1 48 0 (by omega), g2.2.1 48 0 (by omega), g1.2.1 48 0 (by omega)]
    have G : fr_of (fun t _ _ => t = 51 ∨ t = 52 ∨ t = 53 ∨ t = 56 ∨ t = 57 ∨ t = 58) u v6 := fr_trans (fr_trans (fr_trans (fr_trans (fr_trans (fr_mono (fun t _ _ y => by omega) g1) (fr_mono (fun t _ _ y => by omega) g2)) (fr_mono (fun t _ _ y => by omega) g3)) (fr_mono (fun t _ _ y => by omega) g4)) (fr_mono (fun t _ _ y => by omega) g5)) (fr_mono (fun t _ _ y => by omega) g6)
    refine ih f (j + 1) v6 (by omega) (by omega) (fun i h => ?_) (fun v hv g => hk v (fun i h => ?_) (fr_trans G g))
    · rw [d1, d2, d3, d4, d5, d6, s1, s2, s3, s4, s5, s6, pw_upd, pw_upd, pw_upd, pw_upd, pw_upd, pw_upd]
      by_cases q : i = j
      · subst q
        rw [if_pos rfl, if_pos rfl, if_pos rfl, if_pos rfl, if_pos rfl, if_pos rfl]
        exact ⟨rfl, rfl, rfl, rfl, rfl, rfl⟩
      · rw [if_neg q, if_neg q, if_neg q, if_neg q, if_neg q, if_neg q]; exact hi i (by omega)
    · have hh := hv i h
      rw [s1, s2, s3, s4, s5, s6] at hh
      exact hh
theorem ml_undo_243 {po : Int32 → pa_S → Prop} : ∀ (k f j : Nat) (u : pa_S), j + k = 8 → k < f → (∀ i, i < j → pa_A u 42 0 i = pa_A u 61 0 i ∧ pa_A u 43 0 i = pa_A u 62 0 i) →
    (∀ v, (∀ i, i < 8 → pa_A v 42 0 i = pa_A u 61 0 i ∧ pa_A v 43 0 i = pa_A u 62 0 i) → fr_of (fun t _ _ => t = 42 ∨ t = 43) u v → po (pa_I v 24 0 0) v) → wl_X7_undo_243 po f u (nI j) := by
  intro k
  induction k with
  | zero =>
    intro f j u eq hlt hi hk
    obtain ⟨f, rfl⟩ : ∃ g, f = g + 1 := ⟨f - 1, by omega⟩
    unfold wl_X7_undo_243 wb_X7_undo_243
    rw [if_pos (show (8 : Int32) ≤ nI j from nI_le (a := 8) (by omega) (by omega))]
    exact hk u (fun i h => hi i (by omega)) (fr_refl u)
  | succ k ih =>
    intro f j u eq hlt hi hk
    obtain ⟨f, rfl⟩ : ∃ g, f = g + 1 := ⟨f - 1, by omega⟩
    have hin : vp_in (nI j) 8 := vp_in_nI (by omega) (by omega)
    unfold wl_X7_undo_243 wb_X7_undo_243
    rw [if_neg (show ¬ (8 : Int32) ≤ nI j from nI_ge (b := 8) (by omega) (by omega)), nI_clamp (by omega)]
    refine ⟨hin, hin, fun v1 e1 => ⟨hin, hin, fun v2 e2 => fun x ex => ?_⟩⟩
    subst ex
    rw [pw_n1, nI_add]
    obtain ⟨h1, g1⟩ := cp_A e1
    obtain ⟨h2, g2⟩ := cp_A e2
    have d1 : pa_A v2 42 0 = upd (pa_A u 42 0) j (pa_A u 61 0 j) := by rw [g2.2.1 42 0 (by omega), h1]
    have s1 : pa_A v2 61 0 = pa_A u 61 0 := by rw [g2.2.1 61 0 (by omega), g1.2.1 61 0 (by omega)]
    have d2 : pa_A v2 43 0 = upd (pa_A u 43 0) j (pa_A u 62 0 j) := by rw [h2, g1.2.1 43 0 (by omega), g1.2.1 62 0 (by omega)]
    have s2 : pa_A v2 62 0 = pa_A u 62 0 := by rw [g2.2.1 62 0 (by omega), g1.2.1 62 0 (by omega)]
    have G : fr_of (fun t _ _ => t = 42 ∨ t = 43) u v2 := fr_trans (fr_mono (fun t _ _ y => by omega) g1) (fr_mono (fun t _ _ y => by omega) g2)
    refine ih f (j + 1) v2 (by omega) (by omega) (fun i h => ?_) (fun v hv g => hk v (fun i h => ?_) (fr_trans G g))
    · rw [d1, d2, s1, s2, pw_upd, pw_upd]
      by_cases q : i = j
      · subst q
        rw [if_pos rfl, if_pos rfl]
        exact ⟨rfl, rfl⟩
      · rw [if_neg q, if_neg q]; exact hi i (by omega)
    · have hh := hv i h
      rw [s1, s2] at hh
      exact hh
theorem ml_undo_205 {po : Int32 → pa_S → Prop} : ∀ (k f j : Nat) (u : pa_S), j + k = 10 → k < f → (∀ i, i < j → pa_A u 49 0 i = pa_A u 59 0 i ∧ pa_A u 50 0 i = pa_A u 60 0 i) →
    (∀ v, (∀ i, i < 10 → pa_A v 49 0 i = pa_A u 59 0 i ∧ pa_A v 50 0 i = pa_A u 60 0 i) → fr_of (fun t _ _ => t = 49 ∨ t = 50) u v → wl_X7_undo_243 po 5000 v 0) → wl_X7_undo_205 po f u (nI j) := by
  intro k
  induction k with
  | zero =>
    intro f j u eq hlt hi hk
    obtain ⟨f, rfl⟩ : ∃ g, f = g + 1 := ⟨f - 1, by omega⟩
    unfold wl_X7_undo_205 wb_X7_undo_205
    rw [if_pos (show (10 : Int32) ≤ nI j from nI_le (a := 10) (by omega) (by omega))]
    exact hk u (fun i h => hi i (by omega)) (fr_refl u)
  | succ k ih =>
    intro f j u eq hlt hi hk
    obtain ⟨f, rfl⟩ : ∃ g, f = g + 1 := ⟨f - 1, by omega⟩
    have hin : vp_in (nI j) 10 := vp_in_nI (by omega) (by omega)
    unfold wl_X7_undo_205 wb_X7_undo_205
    rw [if_neg (show ¬ (10 : Int32) ≤ nI j from nI_ge (b := 10) (by omega) (by omega)), nI_clamp (by omega)]
    refine ⟨hin, hin, fun v1 e1 => ⟨hin, hin, fun v2 e2 => fun x ex => ?_⟩⟩
    subst ex
    rw [pw_n1, nI_add]
    obtain ⟨h1, g1⟩ := cp_A e1
    obtain ⟨h2, g2⟩ := cp_A e2
    have d1 : pa_A v2 49 0 = upd (pa_A u 49 0) j (pa_A u 59 0 j) := by rw [g2.2.1 49 0 (by omega), h1]
    have s1 : pa_A v2 59 0 = pa_A u 59 0 := by rw [g2.2.1 59 0 (by omega), g1.2.1 59 0 (by omega)]
    have d2 : pa_A v2 50 0 = upd (pa_A u 50 0) j (pa_A u 60 0 j) := by rw [h2, g1.2.1 50 0 (by omega), g1.2.1 60 0 (by omega)]
    have s2 : pa_A v2 60 0 = pa_A u 60 0 := by rw [g2.2.1 60 0 (by omega), g1.2.1 60 0 (by omega)]
    have G : fr_of (fun t _ _ => t = 49 ∨ t = 50) u v2 := fr_trans (fr_mono (fun t _ _ y => by omega) g1) (fr_mono (fun t _ _ y => by omega) g2)
    refine ih f (j + 1) v2 (by omega) (by omega) (fun i h => ?_) (fun v hv g => hk v (fun i h => ?_) (fr_trans G g))
    · rw [d1, d2, s1, s2, pw_upd, pw_upd]
      by_cases q : i = j
      · subst q
        rw [if_pos rfl, if_pos rfl]
        exact ⟨rfl, rfl⟩
      · rw [if_neg q, if_neg q]; exact hi i (by omega)
    · have hh := hv i h
      rw [s1, s2] at hh
      exact hh
theorem ml_undo_179 {po : Int32 → pa_S → Prop} : ∀ (k f j : Nat) (u : pa_S), j + k = 20 → k < f → (∀ i, i < j → pa_A u 29 0 i = pa_A u 55 0 i) →
    (∀ v, (∀ i, i < 20 → pa_A v 29 0 i = pa_A u 55 0 i) → fr_of (fun t _ _ => t = 29) u v → wl_X7_undo_205 po 5000 v 0) → wl_X7_undo_179 po f u (nI j) := by
  intro k
  induction k with
  | zero =>
    intro f j u eq hlt hi hk
    obtain ⟨f, rfl⟩ : ∃ g, f = g + 1 := ⟨f - 1, by omega⟩
    unfold wl_X7_undo_179 wb_X7_undo_179
    rw [if_pos (show (20 : Int32) ≤ nI j from nI_le (a := 20) (by omega) (by omega))]
    exact hk u (fun i h => hi i (by omega)) (fr_refl u)
  | succ k ih =>
    intro f j u eq hlt hi hk
    obtain ⟨f, rfl⟩ : ∃ g, f = g + 1 := ⟨f - 1, by omega⟩
    have hin : vp_in (nI j) 20 := vp_in_nI (by omega) (by omega)
    unfold wl_X7_undo_179 wb_X7_undo_179
    rw [if_neg (show ¬ (20 : Int32) ≤ nI j from nI_ge (b := 20) (by omega) (by omega)), nI_clamp (by omega)]
    refine ⟨hin, hin, fun v1 e1 => fun x ex => ?_⟩
    subst ex
    rw [pw_n1, nI_add]
    obtain ⟨h1, g1⟩ := cp_A e1
    have d1 : pa_A v1 29 0 = upd (pa_A u 29 0) j (pa_A u 55 0 j) := by rw [h1]
    have s1 : pa_A v1 55 0 = pa_A u 55 0 := by rw [g1.2.1 55 0 (by omega)]
    have G : fr_of (fun t _ _ => t = 29) u v1 := fr_mono (fun t _ _ y => by omega) g1
    refine ih f (j + 1) v1 (by omega) (by omega) (fun i h => ?_) (fun v hv g => hk v (fun i h => ?_) (fr_trans G g))
    · rw [d1, s1, pw_upd]
      by_cases q : i = j
      · rw [if_pos q, q]
      · rw [if_neg q]; exact hi i (by omega)
    · have hh := hv i h
      rw [s1] at hh
      exact hh
theorem ml_undo_153 {po : Int32 → pa_S → Prop} : ∀ (k f j : Nat) (u : pa_S), j + k = 15 → k < f → (∀ i, i < j → pa_A u 28 0 i = pa_A u 54 0 i) →
    (∀ v, (∀ i, i < 15 → pa_A v 28 0 i = pa_A u 54 0 i) → fr_of (fun t _ _ => t = 28) u v → wl_X7_undo_179 po 5000 v 0) → wl_X7_undo_153 po f u (nI j) := by
  intro k
  induction k with
  | zero =>
    intro f j u eq hlt hi hk
    obtain ⟨f, rfl⟩ : ∃ g, f = g + 1 := ⟨f - 1, by omega⟩
    unfold wl_X7_undo_153 wb_X7_undo_153
    rw [if_pos (show (15 : Int32) ≤ nI j from nI_le (a := 15) (by omega) (by omega))]
    exact hk u (fun i h => hi i (by omega)) (fr_refl u)
  | succ k ih =>
    intro f j u eq hlt hi hk
    obtain ⟨f, rfl⟩ : ∃ g, f = g + 1 := ⟨f - 1, by omega⟩
    have hin : vp_in (nI j) 15 := vp_in_nI (by omega) (by omega)
    unfold wl_X7_undo_153 wb_X7_undo_153
    rw [if_neg (show ¬ (15 : Int32) ≤ nI j from nI_ge (b := 15) (by omega) (by omega)), nI_clamp (by omega)]
    refine ⟨hin, hin, fun v1 e1 => fun x ex => ?_⟩
    subst ex
    rw [pw_n1, nI_add]
    obtain ⟨h1, g1⟩ := cp_A e1
    have d1 : pa_A v1 28 0 = upd (pa_A u 28 0) j (pa_A u 54 0 j) := by rw [h1]
    have s1 : pa_A v1 54 0 = pa_A u 54 0 := by rw [g1.2.1 54 0 (by omega)]
    have G : fr_of (fun t _ _ => t = 28) u v1 := fr_mono (fun t _ _ y => by omega) g1
    refine ih f (j + 1) v1 (by omega) (by omega) (fun i h => ?_) (fun v hv g => hk v (fun i h => ?_) (fr_trans G g))
    · rw [d1, s1, pw_upd]
      by_cases q : i = j
      · rw [if_pos q, q]
      · rw [if_neg q]; exact hi i (by omega)
    · have hh := hv i h
      rw [s1] at hh
      exact hh
theorem ml_undo_68 {po : Int32 → pa_S → Prop} : ∀ (k f j : Nat) (u : pa_S), j + k = 5 → k < f → (∀ i, i < j → pa_A u 25 0 i = pa_A u 51 0 i ∧ pa_A u 26 0 i = pa_A u 52 0 i ∧ pa_A u 27 0 i = pa_A u 53 0 i ∧ pa_A u 46 0 i = pa_A u 56 0 i ∧ pa_A u 47 0 i = pa_A u 57 0 i ∧ pa_A u 48 0 i = pa_A u 58 0 i) →
    (∀ v, (∀ i, i < 5 → pa_A v 25 0 i = pa_A u 51 0 i ∧ pa_A v 26 0 i = pa_A u 52 0 i ∧ pa_A v 27 0 i = pa_A u 53 0 i ∧ pa_A v 46 0 i = pa_A u 56 0 i ∧ pa_A v 47 0 i = pa_A u 57 0 i ∧ pa_A v 48 0 i = pa_A u 58 0 i) → fr_of (fun t _ _ => t = 25 ∨ t = 26 ∨ t = 27 ∨ t = 46 ∨ t = 47 ∨ t = 48) u v → wl_X7_undo_153 po 5000 v 0) → wl_X7_undo_68 po f u (nI j) := by
  intro k
  induction k with
  | zero =>
    intro f j u eq hlt hi hk
    obtain ⟨f, rfl⟩ : ∃ g, f = g + 1 := ⟨f - 1, by omega⟩
    unfold wl_X7_undo_68 wb_X7_undo_68
    rw [if_pos (show (5 : Int32) ≤ nI j from nI_le (a := 5) (by omega) (by omega))]
    exact hk u (fun i h => hi i (by omega)) (fr_refl u)
  | succ k ih =>
    intro f j u eq hlt hi hk
    obtain ⟨f, rfl⟩ : ∃ g, f = g + 1 := ⟨f - 1, by omega⟩
    have hin : vp_in (nI j) 5 := vp_in_nI (by omega) (by omega)
    unfold wl_X7_undo_68 wb_X7_undo_68
    rw [if_neg (show ¬ (5 : Int32) ≤ nI j from nI_ge (b := 5) (by omega) (by omega)), nI_clamp (by omega)]
    refine ⟨hin, hin, fun v1 e1 => ⟨hin, hin, fun v2 e2 => ⟨hin, hin, fun v3 e3 => ⟨hin, hin, fun v4 e4 => ⟨hin, hin, fun v5 e5 => ⟨hin, hin, fun v6 e6 => fun x ex => ?_⟩⟩⟩⟩⟩⟩
    subst ex
    rw [pw_n1, nI_add]
    obtain ⟨h1, g1⟩ := cp_A e1
    obtain ⟨h2, g2⟩ := cp_A e2
    obtain ⟨h3, g3⟩ := cp_A e3
    obtain ⟨h4, g4⟩ := cp_A e4
    obtain ⟨h5, g5⟩ := cp_A e5
    obtain ⟨h6, g6⟩ := cp_A e6
    have d1 : pa_A v6 25 0 = upd (pa_A u 25 0) j (pa_A u 51 0 j) := by rw [g6.2.1 25 0 (by omega), g5.2.1 25 0 (by omega), g4.2.1 25 0 (by omega), g3.2.1 25 0 (by omega), g2.2.1 25 0 (by omega), h1]
    have s1 : pa_A v6 51 0 = pa_A u 51 0 := by rw [g6.2.1 51 0 (by omega), g5.2.1 51 0 (by omega), g4.2.1 51 0 (by omega), g3.2.1 51 0 (by omega), g2.2.1 51 0 (by omega), g1.2.1 51 0 (by omega)]
    have d2 : pa_A v6 26 0 = upd (pa_A u 26 0) j (pa_A u 52 0 j) := by rw [g6.2.1 26 0 (by omega), g5.2.1 26 0 (by omega), g4.2.1 26 0 (by omega), g3.2.1 26 0 (by omega), h2, g1.2.1 26 0 (by omega), g1.2.1 52 0 (by omega)]
    have s2 : pa_A v6 52 0 = pa_A u 52 0 := by rw [g6.2.1 52 0 (by omega), g5.2.1 52 0 (by omega), g4.2.1 52 0 (by omega), g3.2.1 52 0 (by omega), g2.2.1 52 0 (by omega), g1.2.1 52 0 (by omega)]
    have d3 : pa_A v6 27 0 = upd (pa_A u 27 0) j (pa_A u 53 0 j) := by rw [g6.2.1 27 0 (by omega), g5.2.1 27 0 (by omega), g4.2.1 27 0 (by omega), h3, g2.2.1 27 0 (by omega), g1.2.1 27 0 (by omega), g2.2.1 53 0 (by omega), g1.2.1 53 0 (by omega)]
    have s3 : pa_A v6 53 0 = pa_A u 53 0 := by rw [g6.2.1 53 0 (by omega), g5.2.1 53 0 (by omega), g4.2.1 53 0 (by omega), g3.2.1 53 0 (by omega), g2.2.1 53 0 (by omega), g1.2.1 53 0 (by omega)]
    have d4 : pa_A v6 46 0 = upd (pa_A u 46 0) j (pa_A u 56 0 j) := by rw [g6.2.1 46 0 (by omega), g5.2.1 46 0 (by omega), h4, g3.2.1 46 0 (by omega), g2.2.1 46 0 (by omega), g1.2.1 46 0 (by omega), g3.2.1 56 0 (by omega), g2.2.1 56 0 (by omega), g1.2.1 56 0 (by omega)]
    have s4 : pa_A v6 56 0 = pa_A u 56 0 := by rw [g6.2.1 56 0 (by omega), g5.2.1 56 0 (by omega), g4.2.1 56 0 (by omega), g3.2.1 56 0 (by omega), g2.2.1 56 0 (by omega), g1.2.1 56 0 (by omega)]
    have d5 : pa_A v6 47 0 = upd (pa_A u 47 0) j (pa_A u 57 0 j) := by rw [g6.2.1 47 0 (by omega), h5, g4.2.1 47 0 (by omega), g3.2.1 47 0 (by omega), g2.2.1 47 0 (by omega), g1.2.1 47 0 (by omega), g4.2.1 57 0 (by omega), g3.2.1 57 0 (by omega), g2.2.1 57 0 (by omega), g1.2.1 57 0 (by omega)]
    have s5 : pa_A v6 57 0 = pa_A u 57 0 := by rw [g6.2.1 57 0 (by omega), g5.2.1 57 0 (by omega), g4.2.1 57 0 (by omega), g3.2.1 57 0 (by omega), g2.2.1 57 0 (by omega), g1.2.1 57 0 (by omega)]
    have d6 : pa_A v6 48 0 = upd (pa_A u 48 0) j (pa_A u 58 0 j) := by rw [h6, g5.2.1 48 0 (by omega), g4.2.1 48 0 (by omega), g3.2.1 48 0 (by omega), g2.2.1 48 0 (by omega), g1.2.1 48 0 (by omega), g5.2.1 58 0 (by omega), g4.2.1 58 0 (by omega), g3.2.1 58 0 (by omega), g2.2.1 58 0 (by omega), g1.2.1 58 0 (by omega)]
    have s6 : pa_A v6 58 0 = pa_A u 58 0 := by rw [g6.2.1 58 0 (by omega), g5.2.1 58 0 (by omega), g4.2.1 58 0 (by omega), g3.2.1 58 0 (by omega), g2.2.1 58 0 (by omega), g1.2.1 58 0 (by omega)]
    have G : fr_of (fun t _ _ => t = 25 ∨ t = 26 ∨ t = 27 ∨ t = 46 ∨ t = 47 ∨ t = 48) u v6 := fr_trans (fr_trans (fr_trans (fr_trans (fr_trans (fr_mono (fun t _ _ y => by omega) g1) (fr_mono (fun t _ _ y => by omega) g2)) (fr_mono (fun t _ _ y => by omega) g3)) (fr_mono (fun t _ _ y => by omega) g4)) (fr_mono (fun t _ _ y => by omega) g5)) (fr_mono (fun t _ _ y => by omega) g6)
    refine ih f (j + 1) v6 (by omega) (by omega) (fun i h => ?_) (fun v hv g => hk v (fun i h => ?_) (fr_trans G g))
    · rw [d1, d2, d3, d4, d5, d6, s1, s2, s3, s4, s5, s6, pw_upd, pw_upd, pw_upd, pw_upd, pw_upd, pw_upd]
      by_cases q : i = j
      · subst q
        rw [if_pos rfl, if_pos rfl, if_pos rfl, if_pos rfl, if_pos rfl, if_pos rfl]
        exact ⟨rfl, rfl, rfl, rfl, rfl, rfl⟩
      · rw [if_neg q, if_neg q, if_neg q, if_neg q, if_neg q, if_neg q]; exact hi i (by omega)
    · have hh := hv i h
      rw [s1, s2, s3, s4, s5, s6] at hh
      exact hh
theorem mp_image_all {u : pa_S} {po : Int32 → pa_S → Prop} (hk : ∀ v, (∀ i, i < 5 → pa_A v 51 0 i = pa_A u 25 0 i) → (∀ i, i < 5 → pa_A v 52 0 i = pa_A u 26 0 i) → (∀ i, i < 5 → pa_A v 53 0 i = pa_A u 27 0 i) → (∀ i, i < 5 → pa_A v 56 0 i = pa_A u 46 0 i) → (∀ i, i < 5 → pa_A v 57 0 i = pa_A u 47 0 i) → (∀ i, i < 5 → pa_A v 58 0 i = pa_A u 48 0 i) → (∀ i, i < 15 → pa_A v 54 0 i = pa_A u 28 0 i) → (∀ i, i < 20 → pa_A v 55 0 i = pa_A u 29 0 i) → (∀ i, i < 10 → pa_A v 59 0 i = pa_A u 49 0 i) → (∀ i, i < 10 → pa_A v 60 0 i = pa_A u 50 0 i) → (∀ i, i < 8 → pa_A v 61 0 i = pa_A u 42 0 i) → (∀ i, i < 8 → pa_A v 62 0 i = pa_A u 43 0 i) → fr_of (fun t _ _ => t = 51 ∨ t = 52 ∨ t = 53 ∨ t = 56 ∨ t = 57 ∨ t = 58 ∨ t = 54 ∨ t = 55 ∨ t = 59 ∨ t = 60 ∨ t = 61 ∨ t = 62) u v → po (pa_I u 24 0 0) v) : wl_X7_image_63 po 5000 u 0 := by
  refine ml_image_63 5 5000 0 u (by omega) (by omega) (fun i h => absurd h (Nat.not_lt_zero i)) (fun v1 h1 g1 => ?_)
  refine ml_image_148 15 5000 0 v1 (by omega) (by omega) (fun i h => absurd h (Nat.not_lt_zero i)) (fun v2 h2 g2 => ?_)
  refine ml_image_174 20 5000 0 v2 (by omega) (by omega) (fun i h => absurd h (Nat.not_lt_zero i)) (fun v3 h3 g3 => ?_)
  refine ml_image_200 10 5000 0 v3 (by omega) (by omega) (fun i h => absurd h (Nat.not_lt_zero i)) (fun v4 h4 g4 => ?_)
  refine ml_image_238 8 5000 0 v4 (by omega) (by omega) (fun i h => absurd h (Nat.not_lt_zero i)) (fun v5 h5 g5 => ?_)
  have G : fr_of (fun t _ _ => t = 51 ∨ t = 52 ∨ t = 53 ∨ t = 56 ∨ t = 57 ∨ t = 58 ∨ t = 54 ∨ t = 55 ∨ t = 59 ∨ t = 60 ∨ t = 61 ∨ t = 62) u v5 := fr_trans (fr_trans (fr_trans (fr_trans (fr_mono (fun t _ _ y => by omega) g1) (fr_mono (fun t _ _ y => by omega) g2)) (fr_mono (fun t _ _ y => by omega) g3)) (fr_mono (fun t _ _ y => by omega) g4)) (fr_mono (fun t _ _ y => by omega) g5)
  rw [G.1 24 0 0 (by omega)]
  exact hk v5 (fun i h => by rw [g5.2.1 51 0 (by omega), g4.2.1 51 0 (by omega), g3.2.1 51 0 (by omega), g2.2.1 51 0 (by omega), (h1 i h).1]) (fun i h => by rw [g5.2.1 52 0 (by omega), g4.2.1 52 0 (by omega), g3.2.1 52 0 (by omega), g2.2.1 52 0 (by omega), (h1 i h).2.1]) (fun i h => by rw [g5.2.1 53 0 (by omega), g4.2.1 53 0 (by omega), g3.2.1 53 0 (by omega), g2.2.1 53 0 (by omega), (h1 i h).2.2.1]) (fun i h => by rw [g5.2.1 56 0 (by omega), g4.2.1 56 0 (by omega), g3.2.1 56 0 (by omega), g2.2.1 56 0 (by omega), (h1 i h).2.2.2.1]) (fun i h => by rw [g5.2.1 57 0 (by omega), g4.2.1 57 0 (by omega), g3.2.1 57 0 (by omega), g2.2.1 57 0 (by omega), (h1 i h).2.2.2.2.1]) (fun i h => by rw [g5.2.1 58 0 (by omega), g4.2.1 58 0 (by omega), g3.2.1 58 0 (by omega), g2.2.1 58 0 (by omega), (h1 i h).2.2.2.2.2]) (fun i h => by rw [g5.2.1 54 0 (by omega), g4.2.1 54 0 (by omega), g3.2.1 54 0 (by omega), (h2 i h), g1.2.1 28 0 (by omega)]) (fun i h => by rw [g5.2.1 55 0 (by omega), g4.2.1 55 0 (by omega), (h3 i h), g2.2.1 29 0 (by omega), g1.2.1 29 0 (by omega)]) (fun i h => by rw [g5.2.1 59 0 (by omega), (h4 i h).1, g3.2.1 49 0 (by omega), g2.2.1 49 0 (by omega), g1.2.1 49 0 (by omega)]) (fun i h => by rw [g5.2.1 60 0 (by omega), (h4 i h).2, g3.2.1 50 0 (by omega), g2.2.1 50 0 (by omega), g1.2.1 50 0 (by omega)]) (fun i h => by rw [(h5 i h).1, g4.2.1 42 0 (by omega), g3.2.1 42 0 (by omega), g2.2.1 42 0 (by omega), g1.2.1 42 0 (by omega)]) (fun i h => by rw [(h5 i h).2, g4.2.1 43 0 (by omega), g3.2.1 43 0 (by omega), g2.2.1 43 0 (by omega), g1.2.1 43 0 (by omega)]) G
theorem mp_undo_all {u : pa_S} {po : Int32 → pa_S → Prop} (hk : ∀ v, (∀ i, i < 5 → pa_A v 25 0 i = pa_A u 51 0 i) → (∀ i, i < 5 → pa_A v 26 0 i = pa_A u 52 0 i) → (∀ i, i < 5 → pa_A v 27 0 i = pa_A u 53 0 i) → (∀ i, i < 5 → pa_A v 46 0 i = pa_A u 56 0 i) → (∀ i, i < 5 → pa_A v 47 0 i = pa_A u 57 0 i) → (∀ i, i < 5 → pa_A v 48 0 i = pa_A u 58 0 i) → (∀ i, i < 15 → pa_A v 28 0 i = pa_A u 54 0 i) → (∀ i, i < 20 → pa_A v 29 0 i = pa_A u 55 0 i) → (∀ i, i < 10 → pa_A v 49 0 i = pa_A u 59 0 i) → (∀ i, i < 10 → pa_A v 50 0 i = pa_A u 60 0 i) → (∀ i, i < 8 → pa_A v 42 0 i = pa_A u 61 0 i) → (∀ i, i < 8 → pa_A v 43 0 i = pa_A u 62 0 i) → fr_of (fun t _ _ => t = 25 ∨ t = 26 ∨ t = 27 ∨ t = 46 ∨ t = 47 ∨ t = 48 ∨ t = 28 ∨ t = 29 ∨ t = 49 ∨ t = 50 ∨ t = 42 ∨ t = 43) u v → po (pa_I u 24 0 0) v) : wl_X7_undo_68 po 5000 u 0 := by
  refine ml_undo_68 5 5000 0 u (by omega) (by omega) (fun i h => absurd h (Nat.not_lt_zero i)) (fun v1 h1 g1 => ?_)
  refine ml_undo_153 15 5000 0 v1 (by omega) (by omega) (fun i h => absurd h (Nat.not_lt_zero i)) (fun v2 h2 g2 => ?_)
  refine ml_undo_179 20 5000 0 v2 (by omega) (by omega) (fun i h => absurd h (Nat.not_lt_zero i)) (fun v3 h3 g3 => ?_)
  refine ml_undo_205 10 5000 0 v3 (by omega) (by omega) (fun i h => absurd h (Nat.not_lt_zero i)) (fun v4 h4 g4 => ?_)
  refine ml_undo_243 8 5000 0 v4 (by omega) (by omega) (fun i h => absurd h (Nat.not_lt_zero i)) (fun v5 h5 g5 => ?_)
  have G : fr_of (fun t _ _ => t = 25 ∨ t = 26 ∨ t = 27 ∨ t = 46 ∨ t = 47 ∨ t = 48 ∨ t = 28 ∨ t = 29 ∨ t = 49 ∨ t = 50 ∨ t = 42 ∨ t = 43) u v5 := fr_trans (fr_trans (fr_trans (fr_trans (fr_mono (fun t _ _ y => by omega) g1) (fr_mono (fun t _ _ y => by omega) g2)) (fr_mono (fun t _ _ y => by omega) g3)) (fr_mono (fun t _ _ y => by omega) g4)) (fr_mono (fun t _ _ y => by omega) g5)
  rw [G.1 24 0 0 (by omega)]
  exact hk v5 (fun i h => by rw [g5.2.1 25 0 (by omega), g4.2.1 25 0 (by omega), g3.2.1 25 0 (by omega), g2.2.1 25 0 (by omega), (h1 i h).1]) (fun i h => by rw [g5.2.1 26 0 (by omega), g4.2.1 26 0 (by omega), g3.2.1 26 0 (by omega), g2.2.1 26 0 (by omega), (h1 i h).2.1]) (fun i h => by rw [g5.2.1 27 0 (by omega), g4.2.1 27 0 (by omega), g3.2.1 27 0 (by omega), g2.2.1 27 0 (by omega), (h1 i h).2.2.1]) (fun i h => by rw [g5.2.1 46 0 (by omega), g4.2.1 46 0 (by omega), g3.2.1 46 0 (by omega), g2.2.1 46 0 (by omega), (h1 i h).2.2.2.1]) (fun i h => by rw [g5.2.1 47 0 (by omega), g4.2.1 47 0 (by omega), g3.2.1 47 0 (by omega), g2.2.1 47 0 (by omega), (h1 i h).2.2.2.2.1]) (fun i h => by rw [g5.2.1 48 0 (by omega), g4.2.1 48 0 (by omega), g3.2.1 48 0 (by omega), g2.2.1 48 0 (by omega), (h1 i h).2.2.2.2.2]) (fun i h => by rw [g5.2.1 28 0 (by omega), g4.2.1 28 0 (by omega), g3.2.1 28 0 (by omega), (h2 i h), g1.2.1 54 0 (by omega)]) (fun i h => by rw [g5.2.1 29 0 (by omega), g4.2.1 29 0 (by omega), (h3 i h), g2.2.1 55 0 (by omega), g1.2.1 55 0 (by omega)]) (fun i h => by rw [g5.2.1 49 0 (by omega), (h4 i h).1, g3.2.1 59 0 (by omega), g2.2.1 59 0 (by omega), g1.2.1 59 0 (by omega)]) (fun i h => by rw [g5.2.1 50 0 (by omega), (h4 i h).2, g3.2.1 60 0 (by omega), g2.2.1 60 0 (by omega), g1.2.1 60 0 (by omega)]) (fun i h => by rw [(h5 i h).1, g4.2.1 61 0 (by omega), g3.2.1 61 0 (by omega), g2.2.1 61 0 (by omega), g1.2.1 61 0 (by omega)]) (fun i h => by rw [(h5 i h).2, g4.2.1 62 0 (by omega), g3.2.1 62 0 (by omega), g2.2.1 62 0 (by omega), g1.2.1 62 0 (by omega)]) G
theorem mp_image {u : pa_S} {po : Int32 → pa_S → Prop} (hk : ∀ v, pa_I v 24 0 43 = 1 → pa_I v 24 0 44 = pa_I u 24 0 9 → pa_I v 24 0 45 = pa_I u 24 0 0 → pa_I v 24 0 46 = pa_I u 24 0 1 → pa_I v 24 0 47 = pa_I u 24 0 2 → pa_I v 24 0 48 = pa_I u 24 0 36 → pa_I v 24 0 49 = pa_I u 24 0 40 → pa_I v 24 0 50 = pa_I u 24 0 30 → (∀ i, i < 5 → pa_A v 51 0 i = pa_A u 25 0 i) → (∀ i, i < 5 → pa_A v 52 0 i = pa_A u 26 0 i) → (∀ i, i < 5 → pa_A v 53 0 i = pa_A u 27 0 i) → (∀ i, i < 5 → pa_A v 56 0 i = pa_A u 46 0 i) → (∀ i, i < 5 → pa_A v 57 0 i = pa_A u 47 0 i) → (∀ i, i < 5 → pa_A v 58 0 i = pa_A u 48 0 i) → (∀ i, i < 15 → pa_A v 54 0 i = pa_A u 28 0 i) → (∀ i, i < 20 → pa_A v 55 0 i = pa_A u 29 0 i) → (∀ i, i < 10 → pa_A v 59 0 i = pa_A u 49 0 i) → (∀ i, i < 10 → pa_A v 60 0 i = pa_A u 50 0 i) → (∀ i, i < 8 → pa_A v 61 0 i = pa_A u 42 0 i) → (∀ i, i < 8 → pa_A v 62 0 i = pa_A u 43 0 i) → fr_of (fun t _ k => (t = 24 ∧ (k = 43 ∨ k = 44 ∨ k = 45 ∨ k = 46 ∨ k = 47 ∨ k = 48 ∨ k = 49 ∨ k = 50)) ∨ t = 51 ∨ t = 52 ∨ t = 53 ∨ t = 56 ∨ t = 57 ∨ t = 58 ∨ t = 54 ∨ t = 55 ∨ t = 59 ∨ t = 60 ∨ t = 61 ∨ t = 62) u v → po (pa_I u 24 0 0) v) : wp_X7_image u po := by
  unfold wp_X7_image wb_X7_image_0
  intro u1 e1 u2 e2 u3 e3 u4 e4 u5 e5 u6 e6 u7 e7 u8 e8
  obtain ⟨h1, g1⟩ := cp_I e1
  obtain ⟨h2, g2⟩ := cp_I e2
  obtain ⟨h3, g3⟩ := cp_I e3
  obtain ⟨h4, g4⟩ := cp_I e4
  obtain ⟨h5, g5⟩ := cp_I e5
  obtain ⟨h6, g6⟩ := cp_I e6
  obtain ⟨h7, g7⟩ := cp_I e7
  obtain ⟨h8, g8⟩ := cp_I e8
  have G : fr_of (fun t _ k => t = 24 ∧ (k = 43 ∨ k = 44 ∨ k = 45 ∨ k = 46 ∨ k = 47 ∨ k = 48 ∨ k = 49 ∨ k = 50)) u u8 := fr_trans (fr_trans (fr_trans (fr_trans (fr_trans (fr_trans (fr_trans (fr_mono (fun t _ k y => by omega) g1) (fr_mono (fun t _ k y => by omega) g2)) (fr_mono (fun t _ k y => by omega) g3)) (fr_mono (fun t _ k y => by omega) g4)) (fr_mono (fun t _ k y => by omega) g5)) (fr_mono (fun t _ k y => by omega) g6)) (fr_mono (fun t _ k y => by omega) g7)) (fr_mono (fun t _ k y => by omega) g8)
  have c1 : pa_I u8 24 0 43 = 1 := by rw [g8.1 24 0 43 (by omega), g7.1 24 0 43 (by omega), g6.1 24 0 43 (by omega), g5.1 24 0 43 (by omega), g4.1 24 0 43 (by omega), g3.1 24 0 43 (by omega), g2.1 24 0 43 (by omega), h1]
  have c2 : pa_I u8 24 0 44 = pa_I u 24 0 9 := by rw [g8.1 24 0 44 (by omega), g7.1 24 0 44 (by omega), g6.1 24 0 44 (by omega), g5.1 24 0 44 (by omega), g4.1 24 0 44 (by omega), g3.1 24 0 44 (by omega), h2, g1.1 24 0 9 (by omega)]
  have c3 : pa_I u8 24 0 45 = pa_I u 24 0 0 := by rw [g8.1 24 0 45 (by omega), g7.1 24 0 45 (by omega), g6.1 24 0 45 (by omega), g5.1 24 0 45 (by omega), g4.1 24 0 45 (by omega), h3, g2.1 24 0 0 (by omega), g1.1 24 0 0 (by omega)]
  have c4 : pa_I u8 24 0 46 = pa_I u 24 0 1 := by rw [g8.1 24 0 46 (by omega), g7.1 24 0 46 (by omega), g6.1 24 0 46 (by omega), g5.1 24 0 46 (by omega), h4, g3.1 24 0 1 (by omega), g2.1 24 0 1 (by omega), g1.1 24 0 1 (by omega)]
  have c5 : pa_I u8 24 0 47 = pa_I u 24 0 2 := by rw [g8.1 24 0 47 (by omega), g7.1 24 0 47 (by omega), g6.1 24 0 47 (by omega), h5, g4.1 24 0 2 (by omega), g3.1 24 0 2 (by omega), g2.1 24 0 2 (by omega), g1.1 24 0 2 (by omega)]
  have c6 : pa_I u8 24 0 48 = pa_I u 24 0 36 := by rw [g8.1 24 0 48 (by omega), g7.1 24 0 48 (by omega), h6, g5.1 24 0 36 (by omega), g4.1 24 0 36 (by omega), g3.1 24 0 36 (by omega), g2.1 24 0 36 (by omega), g1.1 24 0 36 (by omega)]
  have c7 : pa_I u8 24 0 49 = pa_I u 24 0 40 := by rw [g8.1 24 0 49 (by omega), h7, g6.1 24 0 40 (by omega), g5.1 24 0 40 (by omega), g4.1 24 0 40 (by omega), g3.1 24 0 40 (by omega), g2.1 24 0 40 (by omega), g1.1 24 0 40 (by omega)]
  have c8 : pa_I u8 24 0 50 = pa_I u 24 0 30 := by rw [h8, g7.1 24 0 30 (by omega), g6.1 24 0 30 (by omega), g5.1 24 0 30 (by omega), g4.1 24 0 30 (by omega), g3.1 24 0 30 (by omega), g2.1 24 0 30 (by omega), g1.1 24 0 30 (by omega)]
  refine mp_image_all (fun v a0 a1 a2 a3 a4 a5 a6 a7 a8 a9 a10 a11 g => ?_)
  have GG : fr_of (fun t _ k => (t = 24 ∧ (k = 43 ∨ k = 44 ∨ k = 45 ∨ k = 46 ∨ k = 47 ∨ k = 48 ∨ k = 49 ∨ k = 50)) ∨ t = 51 ∨ t = 52 ∨ t = 53 ∨ t = 56 ∨ t = 57 ∨ t = 58 ∨ t = 54 ∨ t = 55 ∨ t = 59 ∨ t = 60 ∨ t = 61 ∨ t = 62) u v := fr_trans (fr_mono (fun t _ k y => by omega) G) (fr_mono (fun t _ k y => by omega) g)
  rw [G.1 24 0 0 (by omega)]
  refine hk v (by rw [g.1 24 0 43 (by omega)]; exact c1) (by rw [g.1 24 0 44 (by omega)]; exact c2) (by rw [g.1 24 0 45 (by omega)]; exact c3) (by rw [g.1 24 0 46 (by omega)]; exact c4) (by rw [g.1 24 0 47 (by omega)]; exact c5) (by rw [g.1 24 0 48 (by omega)]; exact c6) (by rw [g.1 24 0 49 (by omega)]; exact c7) (by rw [g.1 24 0 50 (by omega)]; exact c8) (fun i h => by rw [a0 i h, G.2.1 25 0 (by omega)]) (fun i h => by rw [a1 i h, G.2.1 26 0 (by omega)]) (fun i h => by rw [a2 i h, G.2.1 27 0 (by omega)]) (fun i h => by rw [a3 i h, G.2.1 46 0 (by omega)]) (fun i h => by rw [a4 i h, G.2.1 47 0 (by omega)]) (fun i h => by rw [a5 i h, G.2.1 48 0 (by omega)]) (fun i h => by rw [a6 i h, G.2.1 28 0 (by omega)]) (fun i h => by rw [a7 i h, G.2.1 29 0 (by omega)]) (fun i h => by rw [a8 i h, G.2.1 49 0 (by omega)]) (fun i h => by rw [a9 i h, G.2.1 50 0 (by omega)]) (fun i h => by rw [a10 i h, G.2.1 42 0 (by omega)]) (fun i h => by rw [a11 i h, G.2.1 43 0 (by omega)]) GG

theorem mp_undo {u : pa_S} {po : Int32 → pa_S → Prop} (h43 : pa_I u 24 0 43 = 1) (hk : ∀ v, pa_I v 24 0 9 = pa_I u 24 0 44 → pa_I v 24 0 0 = pa_I u 24 0 45 → pa_I v 24 0 1 = pa_I u 24 0 46 → pa_I v 24 0 2 = pa_I u 24 0 47 → pa_I v 24 0 36 = pa_I u 24 0 48 → pa_I v 24 0 40 = pa_I u 24 0 49 → pa_I v 24 0 30 = pa_I u 24 0 50 → (∀ i, i < 5 → pa_A v 25 0 i = pa_A u 51 0 i) → (∀ i, i < 5 → pa_A v 26 0 i = pa_A u 52 0 i) → (∀ i, i < 5 → pa_A v 27 0 i = pa_A u 53 0 i) → (∀ i, i < 5 → pa_A v 46 0 i = pa_A u 56 0 i) → (∀ i, i < 5 → pa_A v 47 0 i = pa_A u 57 0 i) → (∀ i, i < 5 → pa_A v 48 0 i = pa_A u 58 0 i) → (∀ i, i < 15 → pa_A v 28 0 i = pa_A u 54 0 i) → (∀ i, i < 20 → pa_A v 29 0 i = pa_A u 55 0 i) → (∀ i, i < 10 → pa_A v 49 0 i = pa_A u 59 0 i) → (∀ i, i < 10 → pa_A v 50 0 i = pa_A u 60 0 i) → (∀ i, i < 8 → pa_A v 42 0 i = pa_A u 61 0 i) → (∀ i, i < 8 → pa_A v 43 0 i = pa_A u 62 0 i) → fr_of (fun t _ k => (t = 24 ∧ (k = 9 ∨ k = 0 ∨ k = 1 ∨ k = 2 ∨ k = 36 ∨ k = 40 ∨ k = 30)) ∨ t = 25 ∨ t = 26 ∨ t = 27 ∨ t = 46 ∨ t = 47 ∨ t = 48 ∨ t = 28 ∨ t = 29 ∨ t = 49 ∨ t = 50 ∨ t = 42 ∨ t = 43) u v → po (pa_I u 24 0 45) v) : wp_X7_undo u po := by
  unfold wp_X7_undo wb_X7_undo_0
  rw [h43, if_neg (by decide)]
  intro u1 e1 u2 e2 u3 e3 u4 e4 u5 e5 u6 e6 u7 e7
  obtain ⟨h1, g1⟩ := cp_I e1
  obtain ⟨h2, g2⟩ := cp_I e2
  obtain ⟨h3, g3⟩ := cp_I e3
  obtain ⟨h4, g4⟩ := cp_I e4
  obtain ⟨h5, g5⟩ := cp_I e5
  obtain ⟨h6, g6⟩ := cp_I e6
  obtain ⟨h7, g7⟩ := cp_I e7
  have G : fr_of (fun t _ k => t = 24 ∧ (k = 9 ∨ k = 0 ∨ k = 1 ∨ k = 2 ∨ k = 36 ∨ k = 40 ∨ k = 30)) u u7 := fr_trans (fr_trans (fr_trans (fr_trans (fr_trans (fr_trans (fr_mono (fun t _ k y => by omega) g1) (fr_mono (fun t _ k y => by omega) g2)) (fr_mono (fun t _ k y => by omega) g3)) (fr_mono (fun t _ k y => by omega) g4)) (fr_mono (fun t _ k y => by omega) g5)) (fr_mono (fun t _ k y => by omega) g6)) (fr_mono (fun t _ k y => by omega) g7)
  have c1 : pa_I u7 24 0 9 = pa_I u 24 0 44 := by rw [g7.1 24 0 9 (by omega), g6.1 24 0 9 (by omega), g5.1 24 0 9 (by omega), g4.1 24 0 9 (by omega), g3.1 24 0 9 (by omega), g2.1 24 0 9 (by omega), h1]
  have c2 : pa_I u7 24 0 0 = pa_I u 24 0 45 := by rw [g7.1 24 0 0 (by omega), g6.1 24 0 0 (by omega), g5.1 24 0 0 (by omega), g4.1 24 0 0 (by omega), g3.1 24 0 0 (by omega), h2, g1.1 24 0 45 (by omega)]
  have c3 : pa_I u7 24 0 1 = pa_I u 24 0 46 := by rw [g7.1 24 0 1 (by omega), g6.1 24 0 1 (by omega), g5.1 24 0 1 (by omega), g4.1 24 0 1 (by omega), h3, g2.1 24 0 46 (by omega), g1.1 24 0 46 (by omega)]
  have c4 : pa_I u7 24 0 2 = pa_I u 24 0 47 := by rw [g7.1 24 0 2 (by omega), g6.1 24 0 2 (by omega), g5.1 24 0 2 (by omega), h4, g3.1 24 0 47 (by omega), g2.1 24 0 47 (by omega), g1.1 24 0 47 (by omega)]
  have c5 : pa_I u7 24 0 36 = pa_I u 24 0 48 := by rw [g7.1 24 0 36 (by omega), g6.1 24 0 36 (by omega), h5, g4.1 24 0 48 (by omega), g3.1 24 0 48 (by omega), g2.1 24 0 48 (by omega), g1.1 24 0 48 (by omega)]
  have c6 : pa_I u7 24 0 40 = pa_I u 24 0 49 := by rw [g7.1 24 0 40 (by omega), h6, g5.1 24 0 49 (by omega), g4.1 24 0 49 (by omega), g3.1 24 0 49 (by omega), g2.1 24 0 49 (by omega), g1.1 24 0 49 (by omega)]
  have c7 : pa_I u7 24 0 30 = pa_I u 24 0 50 := by rw [h7, g6.1 24 0 50 (by omega), g5.1 24 0 50 (by omega), g4.1 24 0 50 (by omega), g3.1 24 0 50 (by omega), g2.1 24 0 50 (by omega), g1.1 24 0 50 (by omega)]
  refine mp_undo_all (fun v a0 a1 a2 a3 a4 a5 a6 a7 a8 a9 a10 a11 g => ?_)
  have GG : fr_of (fun t _ k => (t = 24 ∧ (k = 9 ∨ k = 0 ∨ k = 1 ∨ k = 2 ∨ k = 36 ∨ k = 40 ∨ k = 30)) ∨ t = 25 ∨ t = 26 ∨ t = 27 ∨ t = 46 ∨ t = 47 ∨ t = 48 ∨ t = 28 ∨ t = 29 ∨ t = 49 ∨ t = 50 ∨ t = 42 ∨ t = 43) u v := fr_trans (fr_mono (fun t _ k y => by omega) G) (fr_mono (fun t _ k y => by omega) g)
  rw [c2]
  refine hk v (by rw [g.1 24 0 9 (by omega)]; exact c1) (by rw [g.1 24 0 0 (by omega)]; exact c2) (by rw [g.1 24 0 1 (by omega)]; exact c3) (by rw [g.1 24 0 2 (by omega)]; exact c4) (by rw [g.1 24 0 36 (by omega)]; exact c5) (by rw [g.1 24 0 40 (by omega)]; exact c6) (by rw [g.1 24 0 30 (by omega)]; exact c7) (fun i h => by rw [a0 i h, G.2.1 51 0 (by omega)]) (fun i h => by rw [a1 i h, G.2.1 52 0 (by omega)]) (fun i h => by rw [a2 i h, G.2.1 53 0 (by omega)]) (fun i h => by rw [a3 i h, G.2.1 56 0 (by omega)]) (fun i h => by rw [a4 i h, G.2.1 57 0 (by omega)]) (fun i h => by rw [a5 i h, G.2.1 58 0 (by omega)]) (fun i h => by rw [a6 i h, G.2.1 54 0 (by omega)]) (fun i h => by rw [a7 i h, G.2.1 55 0 (by omega)]) (fun i h => by rw [a8 i h, G.2.1 59 0 (by omega)]) (fun i h => by rw [a9 i h, G.2.1 60 0 (by omega)]) (fun i h => by rw [a10 i h, G.2.1 61 0 (by omega)]) (fun i h => by rw [a11 i h, G.2.1 62 0 (by omega)]) GG

theorem sp_lbecome {u : pa_S} {i j : Nat} {po : pa_S → Prop} (hij : i ≠ j) (hk : ∀ v, pa_I v 8 i 1 = pa_I u 8 j 1 → (∀ r, r < 40 → pa_A v 9 i r = pa_A u 9 j r) → fr_of (fun t q _ => (t = 8 ∨ t = 9) ∧ q = i) u v → po v) : wp_X2_become u i j po := by
  unfold wp_X2_become wb_X2_become_0
  intro u1 e1 u2 e2
  subst e1 e2
  refine hk _ ?_ (fun r hr => ?_) (fr_sI (by omega) (fr_sA (by omega) (fr_refl u)))
  · rw [pI_sI, if_pos ⟨rfl, rfl, rfl⟩, pI_sA]
  · rw [pA_sI, pa_A_sA_self, pk_cpy_in (by omega) (by omega)]
    exact congrArg (pa_A u 9 j) (by omega)
/-- the cells of the image -/
def fp_I (t i k : Nat) : Prop := (t = 0 ∧ k = 3) ∨ (1 ≤ t ∧ t ≤ 7 ∧ i = 1) ∨ ((t = 8 ∨ t = 9) ∧ 3 ≤ i ∧ i ≤ 5) ∨ (t = 24 ∧ 43 ≤ k ∧ k ≤ 50) ∨ (51 ≤ t ∧ t ≤ 62)
/-- what undo changes -/
def fp_U (t i k : Nat) : Prop := (1 ≤ t ∧ t ≤ 7 ∧ i = 0) ∨ ((t = 8 ∨ t = 9) ∧ i ≤ 2) ∨ (t = 24 ∧ (k = 0 ∨ k = 1 ∨ k = 2 ∨ k = 9 ∨ k = 30 ∨ k = 36 ∨ k = 40)) ∨ (25 ≤ t ∧ t ≤ 29) ∨ t = 42 ∨ t = 43 ∨ (46 ≤ t ∧ t ≤ 50)
section IMAGE
variable {u v : pa_S} {w : pw_W} {e : pw_E} {N : Nat}
theorem iv_Im (h : fr_of fp_I u v) (z : iv_at u w e N) (hi : iv_i v) (hnn : iv_n v N) : iv_at v w e N := by
  obtain ⟨⟨hf, hd, hc, hm, hz⟩, ⟨r1, r2, r3, r4, r5, r6⟩, ⟨l1, l2, l3⟩, hn⟩ := z
  refine ⟨⟨hf, hd, wo_C_fr ?_ ?_ h hc, wo_M_fr h ?_ ?_ hm, iv_z_fr h ?_ ?_ hz⟩, ⟨iv_e_fr h ?_ ?_ ?_ ?_ ?_ r1, iv_t_fr h ?_ ?_ ?_ ?_ r2, hi, iv_a_fr h ?_ ?_ ?_ ?_ r4, iv_p_fr h ?_ ?_ ?_ ?_ ?_ r5, ?_⟩, ⟨le_see_fr h ?_ ?_ ?_ ?_ ?_ ?_ (Nat.le_refl _) l1, le_fair_fr h ?_ ?_ ?_ ?_ ?_ (Nat.le_refl _) l2, le_book_fr h ?_ ?_ ?_ ?_ ?_ (Nat.le_refl _) l3⟩, hnn⟩
  all_goals first
    | (unfold fp_I; omega)
    | (intros; unfold fp_I; omega)
    | (unfold iv_c; rw [h.2.1 38 0 (by unfold fp_I; omega)]; exact r6)
theorem iv_r_U (h : fr_of fp_U u v) (z : iv_r u e N) : iv_r v e N := by
  obtain ⟨r1, r2, r3, r4, r5, r6⟩ := z
  refine ⟨iv_e_fr h ?_ ?_ ?_ ?_ ?_ r1, iv_t_fr h ?_ ?_ ?_ ?_ r2, iv_i_fr h ?_ ?_ ?_ ?_ ?_ ?_ r3, iv_a_fr h ?_ ?_ ?_ ?_ r4, iv_p_fr h ?_ ?_ ?_ ?_ ?_ r5, ?_⟩
  all_goals first
    | (unfold fp_U; omega)
    | (intros; unfold fp_U; omega)
    | (unfold iv_c; rw [h.2.1 38 0 (by unfold fp_U; omega)]; exact r6)
/-- rows that came over from another ledger -/
theorem le_see_cp {i j k l a b c a' b' c' n : Nat} (z : le_see u j l a' b' c' n) (h1 : pa_I v 8 i 1 = pa_I u 8 j 1) (h2 : pa_I v 24 0 k = pa_I u 24 0 l) (h3 : ∀ r, r < 40 → pa_A v 9 i r = pa_A u 9 j r) (h4 : ∀ r, r < 5 → pa_A v a 0 r = pa_A u a' 0 r) (h5 : ∀ r, r < 5 → pa_A v b 0 r = pa_A u b' 0 r) (h6 : ∀ r, r < 5 → pa_A v c 0 r = pa_A u c' 0 r) : le_see v i k a b c n := by
  obtain ⟨z, z5, z1, z2, z3⟩ := z
  refine ⟨z, z5, h1.trans z1, h2.trans z2, fun r hr => ?_⟩
  rw [h3 _ (by omega), h3 _ (by omega), h3 _ (by omega), h3 _ (by omega), h4 _ (by omega), h5 _ (by omega), h6 _ (by omega)]
  exact z3 r hr
theorem le_fair_cp {i j k l a b a' b' n : Nat} (z : le_fair u j l a' b' n) (h1 : pa_I v 8 i 1 = pa_I u 8 j 1) (h2 : pa_I v 24 0 k = pa_I u 24 0 l) (h3 : ∀ r, r < 40 → pa_A v 9 i r = pa_A u 9 j r) (h4 : ∀ r, r < 10 → pa_A v a 0 r = pa_A u a' 0 r) (h5 : ∀ r, r < 10 → pa_A v b 0 r = pa_A u b' 0 r) : le_fair v i k a b n := by
  obtain ⟨z, z5, z1, z2, z3⟩ := z
  refine ⟨z, z5, h1.trans z1, h2.trans z2, fun r hr => ?_⟩
  rw [h3 _ (by omega), h3 _ (by omega), h4 _ (by omega), h5 _ (by omega)]
  exact z3 r hr
theorem le_book_cp {i j k l a b a' b' n : Nat} (z : le_book u j l a' b' n) (h1 : pa_I v 8 i 1 = pa_I u 8 j 1) (h2 : pa_I v 24 0 k = pa_I u 24 0 l) (h3 : ∀ r, r < 40 → pa_A v 9 i r = pa_A u 9 j r) (h4 : ∀ r, r < 8 → pa_A v a 0 r = pa_A u a' 0 r) (h5 : ∀ r, r < 8 → pa_A v b 0 r = pa_A u b' 0 r) : le_book v i k a b n := by
  obtain ⟨z, z5, z1, z2, z3⟩ := z
  refine ⟨z, z5, h1.trans z1, h2.trans z2, fun r hr => ?_⟩
  rw [h3 _ (by omega), h3 _ (by omega), h3 _ (by omega), h4 _ (by omega), h5 _ (by omega)]
  exact z3 r hr
end IMAGE
theorem case_k27 {u : pa_S} {a1 a2 a3 a4 a5 : Int32} (hi : iv_I u) : pa_case iv_I u a1 a2 a3 a4 a5 27 := by
  obtain ⟨w, e, N, hw⟩ := hi
  have hf := iv_F hw
  have h5 := hf.1
  have hc := iv_C hw
  have hm := iv_M hw
  obtain ⟨l1, l2, l3⟩ := hw.2.2.1
  show wp_X6_image u _
  unfold wp_X6_image wb_X6_image_0
  refine sp_become (s := 1) hf hc (by omega) (fun v1 c1 g1 s1 p1 n1 => ?_)
  refine sp_lbecome (by omega) (fun v2 i2 r2 g2 => ?_)
  refine sp_lbecome (by omega) (fun v3 i3 r3 g3 => ?_)
  refine sp_lbecome (by omega) (fun v4 i4 r4 g4 => ?_)
  intro v5 e5
  have g5 : fr_of (fun t i k => t = 0 ∧ k = 3) v4 v5 := by rw [e5]; exact fr_sI ⟨rfl, rfl⟩ (fr_refl v4)
  have h53 : pa_I v5 0 0 3 = 1 := by rw [e5, pI_sI, if_pos ⟨rfl, rfl, rfl⟩]
  have G12 : fr_of fp_I v1 v2 := fr_mono (fun t i k y => by unfold fp_I; omega) g2
  have G23 : fr_of fp_I v2 v3 := fr_mono (fun t i k y => by unfold fp_I; omega) g3
  have G34 : fr_of fp_I v3 v4 := fr_mono (fun t i k y => by unfold fp_I; omega) g4
  have G45 : fr_of fp_I v4 v5 := fr_mono (fun t i k y => by unfold fp_I; omega) g5
  have G : fr_of fp_I u v5 := fr_trans (fr_mono (fun t i k y => by unfold fp_s at y; unfold fp_I; omega) g1) (fr_trans G12 (fr_trans G23 (fr_trans G34 G45)))
  have T : fr_of (fun t i k => ((t = 8 ∨ t = 9) ∧ 3 ≤ i) ∨ (t = 0 ∧ k = 3)) v1 v5 := fr_trans (fr_mono (fun t i k y => by omega) g2) (fr_trans (fr_mono (fun t i k y => by omega) g3) (fr_trans (fr_mono (fun t i k y => by omega) g4) (fr_mono (fun t i k y => by omega) g5)))
  rw [G.1 1 0 6 (by unfold fp_I; omega), hc.1]
  -- the reference's cells are still u's
  have U : ∀ t i, 24 ≤ t → t ≤ 50 → pa_A v5 t i = pa_A u t i := fun t i h1 h2 => G.2.1 t i (by unfold fp_I; omega)
  have UI : ∀ k, k < 43 → pa_I v5 24 0 k = pa_I u 24 0 k := fun k h1 => G.1 24 0 k (by unfold fp_I; omega)
  refine mp_image (fun x b43 b44 b45 b46 b47 b48 b49 b50 a51 a52 a53 a56 a57 a58 a54 a55 a59 a60 a61 a62 gx => ?_)
  rw [UI _ (by omega), hm.1]
  refine ⟨rfl, ?_⟩
  have GX : fr_of fp_I v5 x := fr_mono (fun t i k y => by unfold fp_I; omega) gx
  have X : ∀ t i k, ¬ (t = 24 ∨ 51 ≤ t) → pa_I x t i k = pa_I v5 t i k ∧ pa_A x t i = pa_A v5 t i ∧ pa_N x t i = pa_N v5 t i := fun t i k h => ⟨gx.1 t i k (by omega), gx.2.1 t i (by omega), gx.2.2.2 t i (by omega)⟩
  have cX : wo_C x 1 w := wo_C_fr (P := fun t _ k => t = 24 ∨ 51 ≤ t ∧ t ≤ 62) (fun t k _ _ => by omega) (by omega) (fr_mono (fun t i k y => by omega) gx) (wo_C_fr (fun t k _ _ => by omega) (by omega) T c1)
  have L : ∀ i, 3 ≤ i → i ≤ 5 → ∀ (y : pa_S), True := fun _ _ _ _ => trivial
  refine ⟨w, e, N, iv_Im (fr_trans G GX) hw (Or.inr ⟨?_, b43, w, hf, hw.1.2.1, cX, ⟨?_, ?_, ?_, ?_, fun h hh => ?_, fun j hj => ?_, fun j hj => ?_⟩, ⟨fun h hh hh2 => ?_, fun j hj hj2 => ?_⟩, ?_, ?_, ?_⟩) (fun s hs => ?_)⟩
  · rw [(X 0 0 3 (by omega)).1]; exact h53
  · rw [b45, UI _ (by omega)]; exact hm.1
  · rw [b47, UI _ (by omega)]; exact hm.2.1
  · rw [b46, UI _ (by omega)]; exact hm.2.2.1
  · rw [b44, UI _ (by omega)]; exact hm.2.2.2.1
  · rw [a51 h (by omega), a52 h (by omega), a53 h (by omega), U 25 0 (by omega) (by omega), U 26 0 (by omega) (by omega), U 27 0 (by omega) (by omega)]
    exact hm.2.2.2.2.1 h hh
  · rw [a54 j (by omega), U 28 0 (by omega) (by omega)]
    exact hm.2.2.2.2.2.1 j hj
  · rw [a55 j (by omega), U 29 0 (by omega) (by omega)]
    exact hm.2.2.2.2.2.2 j hj
  · rw [(X 4 1 0 (by omega)).2.1, T.2.1 4 1 (by omega), s1 h hh2]
    exact hw.1.2.2.2.2.1 h hh hh2
  · rw [(X 6 1 0 (by omega)).2.1, T.2.1 6 1 (by omega), p1 j hj2]
    exact hw.1.2.2.2.2.2 j hj hj2
  · refine le_see_cp l1 ?_ ?_ (fun r hr => ?_) (fun r hr => ?_) (fun r hr => ?_) (fun r hr => ?_)
    · rw [(X 8 3 1 (by omega)).1, g5.1 8 3 1 (by omega), g4.1 8 3 1 (by omega), g3.1 8 3 1 (by omega), i2, g1.1 8 0 1 (by unfold fp_s; omega)]
    · rw [b48, UI _ (by omega)]
    · rw [(X 9 3 1 (by omega)).2.1, g5.2.1 9 3 (by omega), g4.2.1 9 3 (by omega), g3.2.1 9 3 (by omega), r2 r hr, g1.2.1 9 0 (by unfold fp_s; omega)]
    · rw [a56 r hr, U 46 0 (by omega) (by omega)]
    · rw [a57 r hr, U 47 0 (by omega) (by omega)]
    · rw [a58 r hr, U 48 0 (by omega) (by omega)]
  · refine le_fair_cp l2 ?_ ?_ (fun r hr => ?_) (fun r hr => ?_) (fun r hr => ?_)
    · rw [(X 8 4 1 (by omega)).1, g5.1 8 4 1 (by omega), g4.1 8 4 1 (by omega), i3, g2.1 8 1 1 (by omega), g1.1 8 1 1 (by unfold fp_s; omega)]
    · rw [b49, UI _ (by omega)]
    · rw [(X 9 4 1 (by omega)).2.1, g5.2.1 9 4 (by omega), g4.2.1 9 4 (by omega), r3 r hr, g2.2.1 9 1 (by omega), g1.2.1 9 1 (by unfold fp_s; omega)]
    · rw [a59 r hr, U 49 0 (by omega) (by omega)]
    · rw [a60 r hr, U 50 0 (by omega) (by omega)]
  · refine le_book_cp l3 ?_ ?_ (fun r hr => ?_) (fun r hr => ?_) (fun r hr => ?_)
    · rw [(X 8 5 1 (by omega)).1, g5.1 8 5 1 (by omega), i4, g3.1 8 2 1 (by omega), g2.1 8 2 1 (by omega), g1.1 8 2 1 (by unfold fp_s; omega)]
    · rw [b50, UI _ (by omega)]
    · rw [(X 9 5 1 (by omega)).2.1, g5.2.1 9 5 (by omega), r4 r hr, g3.2.1 9 2 (by omega), g2.2.1 9 2 (by omega), g1.2.1 9 2 (by unfold fp_s; omega)]
    · rw [a61 r hr, U 42 0 (by omega) (by omega)]
    · rw [a62 r hr, U 43 0 (by omega) (by omega)]
  · rw [(X 1 s 0 (by omega)).2.2, T.2.2.2 1 s (by omega)]
    by_cases q : s = 1
    · subst q; rw [n1]; exact hw.2.2.2 0 (by omega)
    · rw [g1.2.2.2 1 s (by unfold fp_s; omega)]; exact hw.2.2.2 s hs
theorem case_k28 {u : pa_S} {a1 a2 a3 a4 a5 : Int32} (hi : iv_I u) : pa_case iv_I u a1 a2 a3 a4 a5 28 := by
  have hi0 := hi
  obtain ⟨w, e, N, hw⟩ := hi
  have hr := hw.2.1
  show wp_X6_undo u _
  unfold wp_X6_undo wb_X6_undo_0
  rcases hr.2.2.1 with ⟨z1, z2⟩ | ⟨z1, z2, w1, hf, hd, hc, hM, hz, l1, l2, l3⟩
  · rw [z1, if_pos rfl]
    unfold wp_X7_undo wb_X7_undo_0
    dsimp only
    rw [z2, if_pos rfl]
    exact ⟨rfl, hi0⟩
  have h5 := hf.1
  have hN : wo_b w1 < N := by rw [← hr.1.1]; exact hc.2.2.2.2.1
  rw [z1, if_neg (by decide)]
  refine sp_become (s := 0) hf hc (by omega) (fun v1 c1 g1 s1 p1 n1 => ?_)
  refine sp_lbecome (by omega) (fun v2 i2 r2 g2 => ?_)
  refine sp_lbecome (by omega) (fun v3 i3 r3 g3 => ?_)
  refine sp_lbecome (by omega) (fun v4 i4 r4 g4 => ?_)
  have T : fr_of (fun t i k => (t = 8 ∨ t = 9) ∧ i ≤ 2) v1 v4 := fr_trans (fr_mono (fun t i k y => by omega) g2) (fr_trans (fr_mono (fun t i k y => by omega) g3) (fr_mono (fun t i k y => by omega) g4))
  have G : fr_of fp_U u v4 := fr_trans (fr_mono (fun t i k y => by unfold fp_s at y; unfold fp_U; omega) g1) (fr_mono (fun t i k y => by unfold fp_U; omega) T)
  have c4 : wo_C v4 0 w1 := wo_C_fr (fun t k _ _ => by omega) (by omega) T c1
  rw [c4.1]
  have U : ∀ t i, 51 ≤ t → pa_A v4 t i = pa_A u t i := fun t i h1 => G.2.1 t i (by unfold fp_U; omega)
  have UI : ∀ k, 43 ≤ k → pa_I v4 24 0 k = pa_I u 24 0 k := fun k h1 => G.1 24 0 k (by unfold fp_U; omega)
  refine mp_undo (by rw [UI _ (by omega)]; exact z2) (fun x b9 b0 b1 b2 b36 b40 b30 a25 a26 a27 a46 a47 a48 a28 a29 a49 a50 a42 a43 gx => ?_)
  rw [UI _ (by omega), hM.1]
  refine ⟨rfl, ?_⟩
  have GX : fr_of fp_U v4 x := fr_mono (fun t i k y => by unfold fp_U; omega) gx
  have X : ∀ t i k, t < 24 → pa_I x t i k = pa_I v4 t i k ∧ pa_A x t i = pa_A v4 t i ∧ pa_N x t i = pa_N v4 t i := fun t i k h => ⟨gx.1 t i k (by omega), gx.2.1 t i (by omega), gx.2.2.2 t i (by omega)⟩
  refine ⟨w1, e, N, ⟨hf, hd, wo_C_fr (fun t k _ _ => by omega) (by omega) gx c4, ⟨?_, ?_, ?_, ?_, fun h hh => ?_, fun j hj => ?_, fun j hj => ?_⟩, ⟨fun h hh hh2 => ?_, fun j hj hj2 => ?_⟩⟩, iv_r_U (fr_trans G GX) hr, ⟨?_, ?_, ?_⟩, fun s hs => ?_⟩
  · rw [b0, UI _ (by omega)]; exact hM.1
  · rw [b2, UI _ (by omega)]; exact hM.2.1
  · rw [b1, UI _ (by omega)]; exact hM.2.2.1
  · rw [b9, UI _ (by omega)]; exact hM.2.2.2.1
  · rw [a25 h (by omega), a26 h (by omega), a27 h (by omega), U 51 0 (by omega), U 52 0 (by omega), U 53 0 (by omega)]
    exact hM.2.2.2.2.1 h hh
  · rw [a28 j (by omega), U 54 0 (by omega)]
    exact hM.2.2.2.2.2.1 j hj
  · rw [a29 j (by omega), U 55 0 (by omega)]
    exact hM.2.2.2.2.2.2 j hj
  · rw [(X 4 0 0 (by omega)).2.1, T.2.1 4 0 (by omega), s1 h hh2]
    exact hz.1 h hh hh2
  · rw [(X 6 0 0 (by omega)).2.1, T.2.1 6 0 (by omega), p1 j hj2]
    exact hz.2 j hj hj2
  · refine le_see_cp l1 ?_ ?_ (fun r hr => ?_) (fun r hr => ?_) (fun r hr => ?_) (fun r hr => ?_)
    · rw [(X 8 0 1 (by omega)).1, g4.1 8 0 1 (by omega), g3.1 8 0 1 (by omega), i2, g1.1 8 3 1 (by unfold fp_s; omega)]
    · rw [b36, UI _ (by omega)]
    · rw [(X 9 0 1 (by omega)).2.1, g4.2.1 9 0 (by omega), g3.2.1 9 0 (by omega), r2 r hr, g1.2.1 9 3 (by unfold fp_s; omega)]
    · rw [a46 r hr, U 56 0 (by omega)]
    · rw [a47 r hr, U 57 0 (by omega)]
    · rw [a48 r hr, U 58 0 (by omega)]
  · refine le_fair_cp l2 ?_ ?_ (fun r hr => ?_) (fun r hr => ?_) (fun r hr => ?_)
    · rw [(X 8 1 1 (by omega)).1, g4.1 8 1 1 (by omega), i3, g2.1 8 4 1 (by omega), g1.1 8 4 1 (by unfold fp_s; omega)]
    · rw [b40, UI _ (by omega)]
    · rw [(X 9 1 1 (by omega)).2.1, g4.2.1 9 1 (by omega), r3 r hr, g2.2.1 9 4 (by omega), g1.2.1 9 4 (by unfold fp_s; omega)]
    · rw [a49 r hr, U 59 0 (by omega)]
    · rw [a50 r hr, U 60 0 (by omega)]
  · refine le_book_cp l3 ?_ ?_ (fun r hr => ?_) (fun r hr => ?_) (fun r hr => ?_)
    · rw [(X 8 2 1 (by omega)).1, i4, g3.1 8 5 1 (by omega), g2.1 8 5 1 (by omega), g1.1 8 5 1 (by unfold fp_s; omega)]
    · rw [b30, UI _ (by omega)]
    · rw [(X 9 2 1 (by omega)).2.1, r4 r hr, g3.2.1 9 5 (by omega), g2.2.1 9 5 (by omega), g1.2.1 9 5 (by unfold fp_s; omega)]
    · rw [a42 r hr, U 61 0 (by omega)]
    · rw [a43 r hr, U 62 0 (by omega)]
  · rw [(X 1 s 0 (by omega)).2.2, T.2.2.2 1 s (by omega)]
    by_cases q : s = 0
    · subst q; rw [n1, hc.2.2.2.1]; exact hN
    · rw [g1.2.2.2 1 s (by unfold fp_s; omega)]; exact hw.2.2.2 s hs

