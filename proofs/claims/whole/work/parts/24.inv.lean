/-! what holds between the class and the reference from call to call -/
def fp_c (t i k : Nat) : Prop := (1 ≤ t ∧ t ≤ 7 ∧ i = 2) ∨ t = 7 ∨ t = 23
/-- all of now and of what is tried out, on both sides -/
def fp_X (t i k : Nat) : Prop := (1 ≤ t ∧ t ≤ 7 ∧ i ≠ 1) ∨ t = 7 ∨ t = 23 ∨ (t = 24 ∧ (k = 0 ∨ k = 1 ∨ k = 2 ∨ k = 26 ∨ k = 27 ∨ k = 35)) ∨ (25 ≤ t ∧ t ≤ 29) ∨ t = 39 ∨ t = 40 ∨ t = 41 ∨ t = 44 ∨ t = 45
def iv_z (u : pa_S) (s : Nat) (w : pw_W) : Prop := (∀ h, wo_n w ≤ h → h < 5 → pa_A u 4 s h = 0) ∧ (∀ j, 4 * wo_n w ≤ j → j < 20 → pa_A u 6 s j = 0)
def le_see (u : pa_S) (i k a b c n : Nat) : Prop := ∃ z, z ≤ 5 ∧ pa_I u 8 i 1 = nI z ∧ pa_I u 24 0 k = nI z ∧ ∀ r, r < z → ∃ h l x t, h < n ∧ l < 3 ∧ x ≤ 60 ∧ t ≤ 20 ∧
  pa_A u 9 i (4 * r) = nI h ∧ pa_A u 9 i (4 * r + 1) = nI l ∧ pa_A u 9 i (4 * r + 2) = nI x ∧ pa_A u 9 i (4 * r + 3) = nI t ∧ pa_A u a 0 r = nI (3 * h + l) ∧ pa_A u b 0 r = nI x ∧ pa_A u c 0 r = nI t
def le_fair (u : pa_S) (i k a b n : Nat) : Prop := ∃ z, z ≤ 10 ∧ pa_I u 8 i 1 = nI z ∧ pa_I u 24 0 k = nI z ∧ ∀ r, r < z →
  (pa_A u 9 i (4 * r) = nI 5 ∧ pa_A u a 0 r = nI 5) ∨ ∃ h l, h < n ∧ l < n ∧ h ≠ l ∧ pa_A u 9 i (4 * r) = nI h ∧ pa_A u 9 i (4 * r + 1) = nI l ∧ pa_A u a 0 r = nI h ∧ pa_A u b 0 r = nI l
def le_book (u : pa_S) (i k a b n : Nat) : Prop := ∃ z, z ≤ 8 ∧ pa_I u 8 i 1 = nI z ∧ pa_I u 24 0 k = nI z ∧ ∀ r, r < z → ∃ h l x, h < n ∧ l < 3 ∧ x ≤ 60 ∧
  pa_A u 9 i (4 * r) = nI h ∧ pa_A u 9 i (4 * r + 1) = nI l ∧ pa_A u 9 i (4 * r + 2) = nI x ∧ pa_A u a 0 r = nI (3 * h + l) ∧ pa_A u b 0 r = nI x
def wo_MI (u : pa_S) (w : pw_W) : Prop :=
  pa_I u 24 0 45 = nI (wo_n w) ∧ pa_I u 24 0 47 = nI (wo_i w) ∧ pa_I u 24 0 46 = nI (wo_d w) ∧ pa_I u 24 0 44 = nI (wo_b w) - 1 ∧
  (∀ h, h < wo_n w → pa_A u 51 0 h = nI (wo_k w h) ∧ pa_A u 52 0 h = nI (wo_v w h) ∧ pa_A u 53 0 h = nI (wo_s w h)) ∧
  (∀ j, j < 3 * wo_n w → pa_A u 54 0 j = nI (wo_l w j)) ∧ (∀ j, j < 4 * wo_n w → pa_A u 55 0 j = nI (wo_r w j))
def iv_e (u : pa_S) (e : pw_E) (N : Nat) : Prop := pa_N u 70 0 = N ∧ 1 ≤ N ∧ N ≤ 7 ∧ pa_I u 0 0 12 = nI (N - 1) ∧ pa_I u 24 0 8 = nI (N - 1) ∧ en_C u e ∧ en_M u e N ∧ en_WF e N
def iv_t (u : pa_S) : Prop := ∃ z, z ≤ 100 ∧ pa_I u 10 0 3 = nI z ∧ pa_I u 24 0 10 = nI z ∧ ∀ j, j < z → ∃ c, c ≤ 127 ∧ pa_A u 11 0 j = nI c ∧ pa_A u 30 0 j = nI c
def iv_i (u : pa_S) : Prop := (pa_I u 0 0 3 = 0 ∧ pa_I u 24 0 43 = 0) ∨ (pa_I u 0 0 3 = 1 ∧ pa_I u 24 0 43 = 1 ∧ ∃ w, wo_WF w ∧ wo_d w ≤ 9999 ∧ wo_C u 1 w ∧ wo_MI u w ∧ iv_z u 1 w ∧
  le_see u 3 48 56 57 58 (wo_n w) ∧ le_fair u 4 49 59 60 (wo_n w) ∧ le_book u 5 50 61 62 (wo_n w))
def iv_a (u : pa_S) : Prop := ∃ z, z ≤ 1000 ∧ pa_I u 17 0 1 = nI z ∧ pa_I u 24 0 63 = nI z ∧ ∀ j, j < z → j < 20 → pa_A u 18 0 j = pa_A u 63 0 j
def iv_p (u : pa_S) : Prop := ∀ t, t < 6 → ∃ z, z ≤ 60 ∧ pa_I u 19 t 2 = nI z ∧ pa_A u 65 0 t = nI z ∧ pa_I u 19 t 1 = pa_A u 64 0 t ∧ ((pa_A u 64 0 t = -1 ∧ z = 0) ∨ ∃ s, s ≤ 4 ∧ pa_A u 64 0 t = nI s) ∧
  ∀ j, j < 60 → pa_L u 20 t j = pa_L u 66 0 (60 * t + j)
def iv_c (u : pa_S) : Prop := pa_A u 38 0 = pa_A pa_s0 38 0
def iv_n (u : pa_S) (N : Nat) : Prop := ∀ s, s < 6 → pa_N u 1 s < N
def iv_l (u : pa_S) (n : Nat) : Prop := le_see u 0 36 46 47 48 n ∧ le_fair u 1 40 49 50 n ∧ le_book u 2 30 42 43 n
def iv_r (u : pa_S) (e : pw_E) (N : Nat) : Prop := iv_e u e N ∧ iv_t u ∧ iv_i u ∧ iv_a u ∧ iv_p u ∧ iv_c u
def iv_w (u : pa_S) (w : pw_W) : Prop := wo_WF w ∧ wo_d w ≤ 9999 ∧ wo_C u 0 w ∧ wo_M u w ∧ iv_z u 0 w
def iv_at (u : pa_S) (w : pw_W) (e : pw_E) (N : Nat) : Prop := iv_w u w ∧ iv_r u e N ∧ iv_l u (wo_n w) ∧ iv_n u N
def iv_I (u : pa_S) : Prop := ∃ w e N, iv_at u w e N
/-! frames of the parts -/
section IVFR
variable {P : Nat → Nat → Nat → Prop} {u v : pa_S}
theorem le_see_fr {i k a b c n m : Nat} (h : fr_of P u v) (h1 : ¬ P 8 i 1) (h2 : ¬ P 24 0 k) (h3 : ¬ P 9 i 100) (h4 : ¬ P a 0 100) (h5 : ¬ P b 0 100) (h6 : ¬ P c 0 100) (hn : n ≤ m) (z : le_see u i k a b c n) : le_see v i k a b c m := by
  obtain ⟨z, z5, z1, z2, z3⟩ := z
  refine ⟨z, z5, (h.1 _ _ _ h1).trans z1, (h.1 _ _ _ h2).trans z2, fun r hr => ?_⟩
  rw [h.2.1 _ _ h3, h.2.1 _ _ h4, h.2.1 _ _ h5, h.2.1 _ _ h6]
  obtain ⟨hh, l, x, t, y, q⟩ := z3 r hr
  exact ⟨hh, l, x, t, by omega, q⟩
theorem le_fair_fr {i k a b n m : Nat} (h : fr_of P u v) (h1 : ¬ P 8 i 1) (h2 : ¬ P 24 0 k) (h3 : ¬ P 9 i 100) (h4 : ¬ P a 0 100) (h5 : ¬ P b 0 100) (hn : n ≤ m) (z : le_fair u i k a b n) : le_fair v i k a b m := by
  obtain ⟨z, z5, z1, z2, z3⟩ := z
  refine ⟨z, z5, (h.1 _ _ _ h1).trans z1, (h.1 _ _ _ h2).trans z2, fun r hr => ?_⟩
  rw [h.2.1 _ _ h3, h.2.1 _ _ h4, h.2.1 _ _ h5]
  rcases z3 r hr with q | ⟨hh, l, y, y2, q⟩
  · exact Or.inl q
  · exact Or.inr ⟨hh, l, by omega, by omega, q⟩
theorem le_book_fr {i k a b n m : Nat} (h : fr_of P u v) (h1 : ¬ P 8 i 1) (h2 : ¬ P 24 0 k) (h3 : ¬ P 9 i 100) (h4 : ¬ P a 0 100) (h5 : ¬ P b 0 100) (hn : n ≤ m) (z : le_book u i k a b n) : le_book v i k a b m := by
  obtain ⟨z, z5, z1, z2, z3⟩ := z
  refine ⟨z, z5, (h.1 _ _ _ h1).trans z1, (h.1 _ _ _ h2).trans z2, fun r hr => ?_⟩
  rw [h.2.1 _ _ h3, h.2.1 _ _ h4, h.2.1 _ _ h5]
  obtain ⟨hh, l, x, y, q⟩ := z3 r hr
  exact ⟨hh, l, x, by omega, q⟩
theorem iv_z_fr {s : Nat} {w : pw_W} (h : fr_of P u v) (h1 : ¬ P 4 s 100) (h2 : ¬ P 6 s 100) (z : iv_z u s w) : iv_z v s w := by
  unfold iv_z
  rw [h.2.1 _ _ h1, h.2.1 _ _ h2]
  exact z
theorem wo_MI_fr {w : pw_W} (h : fr_of P u v) (h1 : ∀ k, 44 ≤ k → k ≤ 47 → ¬ P 24 0 k) (h2 : ∀ t, 51 ≤ t → t ≤ 55 → ¬ P t 0 100) (z : wo_MI u w) : wo_MI v w := by
  unfold wo_MI
  rw [h.1 _ _ _ (h1 44 (by omega) (by omega)), h.1 _ _ _ (h1 45 (by omega) (by omega)), h.1 _ _ _ (h1 46 (by omega) (by omega)), h.1 _ _ _ (h1 47 (by omega) (by omega)),
    h.2.1 _ _ (h2 51 (by omega) (by omega)), h.2.1 _ _ (h2 52 (by omega) (by omega)), h.2.1 _ _ (h2 53 (by omega) (by omega)), h.2.1 _ _ (h2 54 (by omega) (by omega)), h.2.1 _ _ (h2 55 (by omega) (by omega))]
  exact z
theorem wo_M_fr {w : pw_W} (h : fr_of P u v) (h1 : ¬ P 24 0 0 ∧ ¬ P 24 0 1 ∧ ¬ P 24 0 2 ∧ ¬ P 24 0 9) (h2 : ∀ t, 25 ≤ t → t ≤ 29 → ¬ P t 0 100) (z : wo_M u w) : wo_M v w := by
  unfold wo_M
  rw [h.1 _ _ _ h1.1, h.1 _ _ _ h1.2.1, h.1 _ _ _ h1.2.2.1, h.1 _ _ _ h1.2.2.2,
    h.2.1 _ _ (h2 25 (by omega) (by omega)), h.2.1 _ _ (h2 26 (by omega) (by omega)), h.2.1 _ _ (h2 27 (by omega) (by omega)), h.2.1 _ _ (h2 28 (by omega) (by omega)), h.2.1 _ _ (h2 29 (by omega) (by omega))]
  exact z
theorem iv_t_fr (h : fr_of P u v) (h1 : ¬ P 10 0 3) (h2 : ¬ P 24 0 10) (h3 : ¬ P 11 0 100) (h4 : ¬ P 30 0 100) (z : iv_t u) : iv_t v := by
  unfold iv_t
  rw [h.1 _ _ _ h1, h.1 _ _ _ h2, h.2.1 _ _ h3, h.2.1 _ _ h4]
  exact z
theorem iv_a_fr (h : fr_of P u v) (h1 : ¬ P 17 0 1) (h2 : ¬ P 24 0 63) (h3 : ¬ P 18 0 100) (h4 : ¬ P 63 0 100) (z : iv_a u) : iv_a v := by
  unfold iv_a
  rw [h.1 _ _ _ h1, h.1 _ _ _ h2, h.2.1 _ _ h3, h.2.1 _ _ h4]
  exact z
theorem iv_p_fr (h : fr_of P u v) (h1 : ∀ t k, t < 6 → ¬ P 19 t k) (h3 : ∀ t, t < 6 → ¬ P 20 t 101) (h4 : ¬ P 64 0 100) (h5 : ¬ P 65 0 100) (h6 : ¬ P 66 0 101) (z : iv_p u) : iv_p v := by
  intro t ht
  rw [h.1 _ _ _ (h1 t 2 ht), h.1 _ _ _ (h1 t 1 ht), h.2.1 _ _ h4, h.2.1 _ _ h5, h.2.2.1 _ _ h6, h.2.2.1 _ _ (h3 t ht)]
  exact z t ht
theorem iv_e_fr {e : pw_E} {N : Nat} (h : fr_of P u v) (h1 : ¬ P 70 0 102) (h2 : ¬ P 0 0 12) (h3 : ¬ P 24 0 8) (h4 : ∀ t i k, 14 ≤ t → t ≤ 16 → ¬ P t i k) (h5 : ∀ t i k, 31 ≤ t → t ≤ 36 → ¬ P t i k) (z : iv_e u e N) : iv_e v e N := by
  obtain ⟨z1, z2, z3, z4, z5, z6, z7, z8⟩ := z
  exact ⟨(h.2.2.2 _ _ h1).trans z1, z2, z3, (h.1 _ _ _ h2).trans z4, (h.1 _ _ _ h3).trans z5, en_C_fr h4 h1 h z6, en_M_fr h5 h z7, z8⟩
theorem iv_i_fr (h : fr_of P u v) (h1 : ¬ P 0 0 3) (h2 : ∀ k, 43 ≤ k → k ≤ 50 → ¬ P 24 0 k) (h3 : ∀ t, 51 ≤ t → t ≤ 62 → ¬ P t 0 100) (h4 : ∀ t k, 1 ≤ t → t ≤ 6 → ¬ P t 1 k) (h5 : ∀ t i k, t = 8 ∨ t = 9 → 3 ≤ i → i ≤ 5 → ¬ P t i k) (h7 : ¬ P 70 0 102) (z : iv_i u) : iv_i v := by
  unfold iv_i
  rw [h.1 _ _ _ h1, h.1 _ _ _ (h2 43 (by omega) (by omega))]
  refine z.imp id (fun ⟨a, b, w, c, d, f, g, i, l1, l2, l3⟩ => ⟨a, b, w, c, d, wo_C_fr h4 h7 h f, wo_MI_fr h (fun k k1 k2 => h2 k (by omega) (by omega)) (fun t t1 t2 => h3 t (by omega) (by omega)) g, iv_z_fr h (h4 _ _ (by omega) (by omega)) (h4 _ _ (by omega) (by omega)) i, ?_, ?_, ?_⟩)
  · exact le_see_fr h (h5 _ _ _ (by omega) (by omega) (by omega)) (h2 _ (by omega) (by omega)) (h5 _ _ _ (by omega) (by omega) (by omega)) (h3 _ (by omega) (by omega)) (h3 _ (by omega) (by omega)) (h3 _ (by omega) (by omega)) (Nat.le_refl _) l1
  · exact le_fair_fr h (h5 _ _ _ (by omega) (by omega) (by omega)) (h2 _ (by omega) (by omega)) (h5 _ _ _ (by omega) (by omega) (by omega)) (h3 _ (by omega) (by omega)) (h3 _ (by omega) (by omega)) (Nat.le_refl _) l2
  · exact le_book_fr h (h5 _ _ _ (by omega) (by omega) (by omega)) (h2 _ (by omega) (by omega)) (h5 _ _ _ (by omega) (by omega) (by omega)) (h3 _ (by omega) (by omega)) (h3 _ (by omega) (by omega)) (Nat.le_refl _) l3
end IVFR
theorem iv_r_X {u v : pa_S} {e : pw_E} {N : Nat} (h : fr_of fp_X u v) (z : iv_r u e N) : iv_r v e N := by
  obtain ⟨z1, z2, z3, z4, z5, z6⟩ := z
  refine ⟨iv_e_fr h ?_ ?_ ?_ ?_ ?_ z1, iv_t_fr h ?_ ?_ ?_ ?_ z2, iv_i_fr h ?_ ?_ ?_ ?_ ?_ ?_ z3, iv_a_fr h ?_ ?_ ?_ ?_ z4, iv_p_fr h ?_ ?_ ?_ ?_ ?_ z5, ?_⟩
  all_goals first
    | (unfold fp_X; omega)
    | (intros; unfold fp_X; omega)
    | (unfold iv_c; rw [h.2.1 38 0 (by unfold fp_X; omega)]; exact z6)
theorem iv_l_X {u v : pa_S} {n m : Nat} (h : fr_of fp_X u v) (hn : n ≤ m) (z : iv_l u n) : iv_l v m := by
  refine ⟨le_see_fr h ?_ ?_ ?_ ?_ ?_ ?_ hn z.1, le_fair_fr h ?_ ?_ ?_ ?_ ?_ hn z.2.1, le_book_fr h ?_ ?_ ?_ ?_ ?_ hn z.2.2⟩
  all_goals (unfold fp_X; omega)
