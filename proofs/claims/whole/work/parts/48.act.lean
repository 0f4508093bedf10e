/-! acts (laid by gen48.py) -/
def bf_t : List Int32 := [10, 11, 12, 10, 20, 12, 30, 11, 12, 10, 11, 40, 50, 51, 12, 30, 11, 60, 71, 70, 40]
def fp_a (t i k : Nat) : Prop := t = 17 ∨ t = 18
def fp_b (t i k : Nat) : Prop := (t = 24 ∧ k = 63) ∨ t = 63
section ACT
variable {u : pa_S}
theorem bf_step {po : Int32 → Prop} {k x c f : Nat} (hk : k ≤ 6) (hx : x ≤ 2) (hc : c < 7) : wl_X0_bodyFrom_4 po u (f + 1) (nI x) (nI k) (nI c) = if pa_bod.getD (k * 3 + x) 0 = 0 then wl_X0_bodyFrom_4 po u f (nI x) (pa_kab.getD k 0) (nI (c + 1)) else po (pa_bod.getD (k * 3 + x) 0) := by
  show wb_X0_bodyFrom_4 _ u (nI x) (nI k) (nI c) po = _
  unfold wb_X0_bodyFrom_4
  rw [if_neg (show ¬ (7 : Int32) ≤ nI c from nI_ge (b := 7) (by omega) (by omega)), if_neg (nI_pos (by omega)), if_neg (show ¬ (7 : Int32) ≤ nI k from nI_ge (b := 7) (by omega) (by omega)), if_neg (nI_pos (by omega)), if_neg (show ¬ (3 : Int32) ≤ nI x from nI_ge (b := 3) (by omega) (by omega)), pw_n3, pk_mul, nI_add, pw_and (vp_in_nI (by omega) (by omega)), nI_clamp (by omega)]
  simp only [forall_eq]
  rw [pw_and (vp_in_nI (by omega) (by omega)), nI_clamp (by omega), pw_n1, nI_add]
theorem bf_l {po : Int32 → Prop} : ∀ {k x : Nat}, k ≤ 6 → x ≤ 2 → wp_X0_bodyFrom u (nI k) (nI x) po = po (bf_t.getD (k * 3 + x) 0) := by
  intro k x hk hx
  show wl_X0_bodyFrom_4 po u (4997 + 1 + 1 + 1) (nI x) (nI k) (nI 0) = _
  rcases (show k = 0 ∨ k = 1 ∨ k = 2 ∨ k = 3 ∨ k = 4 ∨ k = 5 ∨ k = 6 by omega) with rfl | rfl | rfl | rfl | rfl | rfl | rfl
  all_goals rcases (show x = 0 ∨ x = 1 ∨ x = 2 by omega) with rfl | rfl | rfl
  · rw [bf_step (by omega) (by omega) (by omega), if_neg (by decide)]
    rfl
  · rw [bf_step (by omega) (by omega) (by omega), if_neg (by decide)]
    rfl
  · rw [bf_step (by omega) (by omega) (by omega), if_neg (by decide)]
    rfl
  · rw [bf_step (by omega) (by omega) (by omega), if_pos (by decide), show pa_kab.getD 1 0 = nI 0 from rfl]
    rw [bf_step (by omega) (by omega) (by omega), if_neg (by decide)]
    rfl
  · rw [bf_step (by omega) (by omega) (by omega), if_neg (by decide)]
    rfl
  · rw [bf_step (by omega) (by omega) (by omega), if_pos (by decide), show pa_kab.getD 1 0 = nI 0 from rfl]
    rw [bf_step (by omega) (by omega) (by omega), if_neg (by decide)]
    rfl
  · rw [bf_step (by omega) (by omega) (by omega), if_neg (by decide)]
    rfl
  · rw [bf_step (by omega) (by omega) (by omega), if_pos (by decide), show pa_kab.getD 2 0 = nI 0 from rfl]
    rw [bf_step (by omega) (by omega) (by omega), if_neg (by decide)]
    rfl
  · rw [bf_step (by omega) (by omega) (by omega), if_pos (by decide), show pa_kab.getD 2 0 = nI 0 from rfl]
    rw [bf_step (by omega) (by omega) (by omega), if_neg (by decide)]
    rfl
  · rw [bf_step (by omega) (by omega) (by omega), if_pos (by decide), show pa_kab.getD 3 0 = nI 0 from rfl]
    rw [bf_step (by omega) (by omega) (by omega), if_neg (by decide)]
    rfl
  · rw [bf_step (by omega) (by omega) (by omega), if_pos (by decide), show pa_kab.getD 3 0 = nI 0 from rfl]
    rw [bf_step (by omega) (by omega) (by omega), if_neg (by decide)]
    rfl
  · rw [bf_step (by omega) (by omega) (by omega), if_neg (by decide)]
    rfl
  · rw [bf_step (by omega) (by omega) (by omega), if_neg (by decide)]
    rfl
  · rw [bf_step (by omega) (by omega) (by omega), if_neg (by decide)]
    rfl
  · rw [bf_step (by omega) (by omega) (by omega), if_pos (by decide), show pa_kab.getD 4 0 = nI 1 from rfl]
    rw [bf_step (by omega) (by omega) (by omega), if_pos (by decide), show pa_kab.getD 1 0 = nI 0 from rfl]
    rw [bf_step (by omega) (by omega) (by omega), if_neg (by decide)]
    rfl
  · rw [bf_step (by omega) (by omega) (by omega), if_pos (by decide), show pa_kab.getD 5 0 = nI 2 from rfl]
    rw [bf_step (by omega) (by omega) (by omega), if_neg (by decide)]
    rfl
  · rw [bf_step (by omega) (by omega) (by omega), if_pos (by decide), show pa_kab.getD 5 0 = nI 2 from rfl]
    rw [bf_step (by omega) (by omega) (by omega), if_pos (by decide), show pa_kab.getD 2 0 = nI 0 from rfl]
    rw [bf_step (by omega) (by omega) (by omega), if_neg (by decide)]
    rfl
  · rw [bf_step (by omega) (by omega) (by omega), if_neg (by decide)]
    rfl
  · rw [bf_step (by omega) (by omega) (by omega), if_neg (by decide)]
    rfl
  · rw [bf_step (by omega) (by omega) (by omega), if_neg (by decide)]
    rfl
  · rw [bf_step (by omega) (by omega) (by omega), if_pos (by decide), show pa_kab.getD 6 0 = nI 3 from rfl]
    rw [bf_step (by omega) (by omega) (by omega), if_neg (by decide)]
    rfl
def ac_C (u : pa_S) (L : List Int32) (i v : Int32) (k : Nat) : Prop := pa_I u 17 0 1 = nI L.length ∧ (∀ j b, L[j]? = some b → pa_A u 18 0 j = b) ∧ pa_I u 17 0 2 = i ∧ pa_I u 17 0 3 = nI k ∧ pa_I u 17 0 4 = v
def mm_C (u : pa_S) (L : List Int32) (h : Nat) (v : Int32) (k : Nat) : Prop := pa_I u 24 0 63 = nI L.length ∧ (∀ j b, L[j]? = some b → pa_A u 63 0 j = b) ∧ pa_A u 25 0 h = nI k ∧ pa_A u 26 0 h = v
theorem ac_app {f : Nat → Int32} {L : List Int32} {b : Int32} (h : ∀ j b, L[j]? = some b → f j = b) : ∀ j c, (L ++ [b])[j]? = some c → upd f L.length b j = c := by
  intro j c hj
  rw [pw_upd]
  by_cases q : j = L.length
  · subst q
    rw [List.getElem?_append_right (Nat.le_refl _), Nat.sub_self] at hj
    rw [if_pos rfl]
    exact Option.some.inj hj
  · rw [if_neg q]
    by_cases q2 : j < L.length
    · rw [List.getElem?_append_left q2] at hj
      exact h j c hj
    · rw [List.getElem?_eq_none (by rw [List.length_append, List.length_singleton]; omega)] at hj
      exact absurd hj (by simp)
theorem sp_begun {L : List Int32} {i v b : Int32} {k : Nat} {po : pa_S → Prop} (hC : ac_C u L i v k) (hL : L.length < 20) (hk : ∀ y, ac_C y (L ++ [b]) i v k → fr_of fp_a u y → po y) : wp_X0_begun u b po := by
  obtain ⟨c1, c2, c3, c4, c5⟩ := hC
  unfold wp_X0_begun wb_X0_begun_0
  rw [c1, if_neg (nI_pos (by omega)), if_neg (show ¬ (20 : Int32) ≤ nI L.length from nI_ge (b := 20) (by omega) (by omega)), pw_and (vp_in_nI (by omega) (by omega)), nI_clamp (by omega)]
  intro u5 e5
  unfold wb_X0_begun_26
  intro u2 e2
  have g5 : fr_of (fun t _ _ => t = 18) u u5 := by rw [e5]; exact fr_sA rfl (fr_refl u)
  have g2 : fr_of (fun t _ k => t = 17 ∧ k = 1) u5 u2 := by rw [e2]; exact fr_sI ⟨rfl, rfl⟩ (fr_refl u5)
  refine hk u2 ⟨?_, ?_, ?_, ?_, ?_⟩ (fr_trans (fr_mono (fun t _ _ y => Or.inr y) g5) (fr_mono (fun t _ _ y => Or.inl y.1) g2))
  · rw [e2, pI_sI, if_pos ⟨rfl, rfl, rfl⟩, g5.1 17 0 1 (by omega), c1, pw_n1, nI_add, List.length_append, List.length_singleton]
  · rw [g2.2.1 18 0 (by omega), e5, pa_A_sA_self]
    exact ac_app c2
  · rw [g2.1 17 0 2 (by omega), g5.1 17 0 2 (by omega)]; exact c3
  · rw [g2.1 17 0 3 (by omega), g5.1 17 0 3 (by omega)]; exact c4
  · rw [g2.1 17 0 4 (by omega), g5.1 17 0 4 (by omega)]; exact c5
theorem mp_body {L : List Int32} {h k : Nat} {v b : Int32} {po : pa_S → Prop} (hC : mm_C u L h v k) (hL : L.length < 20) (hk : ∀ y, mm_C y (L ++ [b]) h v k → fr_of fp_b u y → po y) : wp_X7_body u b po := by
  obtain ⟨c1, c2, c3, c4⟩ := hC
  unfold wp_X7_body wb_X7_body_0
  rw [c1, if_neg (show ¬ (20 : Int32) ≤ nI L.length from nI_ge (b := 20) (by omega) (by omega)), pw_and (vp_in_nI (by omega) (by omega)), nI_clamp (by omega)]
  intro u5 e5
  unfold wb_X7_body_19
  intro u2 e2
  have g5 : fr_of (fun t _ _ => t = 63) u u5 := by rw [e5]; exact fr_sA rfl (fr_refl u)
  have g2 : fr_of (fun t _ k => t = 24 ∧ k = 63) u5 u2 := by rw [e2]; exact fr_sI ⟨rfl, rfl⟩ (fr_refl u5)
  refine hk u2 ⟨?_, ?_, ?_, ?_⟩ (fr_trans (fr_mono (fun t _ _ y => Or.inr y) g5) (fr_mono (fun t _ _ y => Or.inl y) g2))
  · rw [e2, pI_sI, if_pos ⟨rfl, rfl, rfl⟩, g5.1 24 0 63 (by omega), c1, pw_n1, nI_add, List.length_append, List.length_singleton]
  · rw [g2.2.1 63 0 (by omega), e5, pa_A_sA_self]
    exact ac_app c2
  · rw [g2.2.1 25 0 (by omega), g5.2.1 25 0 (by omega)]; exact c3
  · rw [g2.2.1 26 0 (by omega), g5.2.1 26 0 (by omega)]; exact c4
theorem ow_l {r0 r2 : pa_S → Int32 → Int32 → Int32 → (Int32 → pa_S → Prop) → Prop} {r1 : pa_S → Int32 → Int32 → Int32 → Int32 → (Int32 → pa_S → Prop) → Prop} {k x : Nat} {y z : Int32} {po : Int32 → pa_S → Prop} (h : pa_I u 17 0 3 = nI k) (hk : k ≤ 6) (hx : x ≤ 2) :
    wb_X0_own_0 r0 r1 r2 u (nI x) y z po = r2 u (bf_t.getD (k * 3 + x) 0) y (z + 1) po := by
  unfold wb_X0_own_0
  rw [h, bf_l hk hx]
theorem ab_l {r0 r2 : pa_S → Int32 → Int32 → Int32 → (Int32 → pa_S → Prop) → Prop} {r1 : pa_S → Int32 → Int32 → Int32 → Int32 → (Int32 → pa_S → Prop) → Prop} {c k x : Nat} {B y z : Int32} {po : Int32 → pa_S → Prop} (hB : B / 10 - 1 = nI c) (hc : c ≤ 6) (hk : pa_kab.getD c 0 = nI k) (hk6 : k ≤ 6) (hx : x ≤ 2) :
    wb_X0_above_0 r0 r1 r2 u B (nI x) y z po = r2 u (bf_t.getD (k * 3 + x) 0) y (z + 1) po := by
  unfold wb_X0_above_0
  simp only [forall_eq]
  rw [hB, if_neg (nI_pos (by omega)), if_neg (show ¬ (7 : Int32) ≤ nI c from nI_ge (b := 7) (by omega) (by omega)), pw_and (vp_in_nI (by omega) (by omega)), nI_clamp (by omega), hk, bf_l hk6 hx]
  rfl
theorem rn_10 {L : List Int32} {i v x : Int32} {k d D : Nat} {po : Int32 → pa_S → Prop} (hC : ac_C u L i v k) (hL : L.length < 20) (hD : D ≤ 30) (hk : ∀ u3, ac_C u3 (L ++ [10]) i v k → fr_of fp_a u u3 → po (x + i) u3) : wg_1 (d + 1) 2 u 10 x (nI D) 0 po := by
  rw [wge_1_2]
  unfold wb_X0_run_0
  rw [if_pos (show nI D ≤ 30 from nI_le (b := 30) hD (by omega))]
  refine sp_begun hC hL (fun u3 h3 g3 => ?_)
  rw [if_pos rfl, h3.2.2.1]
  exact hk u3 h3 g3
theorem rn_11 {L : List Int32} {i v x : Int32} {k d D : Nat} {po : Int32 → pa_S → Prop} (hC : ac_C u L i v k) (hL : L.length < 20) (hD : D ≤ 30) (hk : ∀ u3, ac_C u3 (L ++ [11]) i v k → fr_of fp_a u u3 → wg_1 d 0 u3 0 x (nI D) 0 (fun r y => po (r - (pa_I y 17 0 4)) y)) : wg_1 (d + 1) 2 u 11 x (nI D) 0 po := by
  rw [wge_1_2]
  unfold wb_X0_run_0
  rw [if_pos (show nI D ≤ 30 from nI_le (b := 30) hD (by omega))]
  refine sp_begun hC hL (fun u3 h3 g3 => ?_)
  rw [if_neg (by decide), if_pos rfl]
  exact hk u3 h3 g3
theorem rn_12 {L : List Int32} {i v x : Int32} {k d D : Nat} {po : Int32 → pa_S → Prop} (hC : ac_C u L i v k) (hL : L.length < 20) (hD : D ≤ 30) (hk : ∀ u3, ac_C u3 (L ++ [12]) i v k → fr_of fp_a u u3 → wg_1 d 0 u3 1 x (nI D) 0 (fun r y => po (r * 2) y)) : wg_1 (d + 1) 2 u 12 x (nI D) 0 po := by
  rw [wge_1_2]
  unfold wb_X0_run_0
  rw [if_pos (show nI D ≤ 30 from nI_le (b := 30) hD (by omega))]
  refine sp_begun hC hL (fun u3 h3 g3 => ?_)
  rw [if_neg (by decide), if_neg (by decide), if_pos rfl]
  exact hk u3 h3 g3
theorem rn_20 {L : List Int32} {i v x : Int32} {k d D : Nat} {po : Int32 → pa_S → Prop} (hC : ac_C u L i v k) (hL : L.length < 20) (hD : D ≤ 30) (hk : ∀ u3, ac_C u3 (L ++ [20]) i v k → fr_of fp_a u u3 → wg_1 d 1 u3 20 1 x (nI D) (fun r y => po (r ^^^ 6) y)) : wg_1 (d + 1) 2 u 20 x (nI D) 0 po := by
  rw [wge_1_2]
  unfold wb_X0_run_0
  rw [if_pos (show nI D ≤ 30 from nI_le (b := 30) hD (by omega))]
  refine sp_begun hC hL (fun u3 h3 g3 => ?_)
  rw [if_neg (by decide), if_neg (by decide), if_neg (by decide), if_pos rfl]
  exact hk u3 h3 g3
theorem rn_30 {L : List Int32} {i v x : Int32} {k d D : Nat} {po : Int32 → pa_S → Prop} (hC : ac_C u L i v k) (hL : L.length < 20) (hD : D ≤ 30) (hk : ∀ u3, ac_C u3 (L ++ [30]) i v k → fr_of fp_a u u3 → wg_1 d 1 u3 30 0 (x * 3) (nI D) (fun r y => po r y)) : wg_1 (d + 1) 2 u 30 x (nI D) 0 po := by
  rw [wge_1_2]
  unfold wb_X0_run_0
  rw [if_pos (show nI D ≤ 30 from nI_le (b := 30) hD (by omega))]
  refine sp_begun hC hL (fun u3 h3 g3 => ?_)
  rw [if_neg (by decide), if_neg (by decide), if_neg (by decide), if_neg (by decide), if_pos rfl]
  exact hk u3 h3 g3
theorem rn_40 {L : List Int32} {i v x : Int32} {k d D : Nat} {po : Int32 → pa_S → Prop} (hC : ac_C u L i v k) (hL : L.length < 20) (hD : D ≤ 30) (hk : ∀ u3, ac_C u3 (L ++ [40]) i v k → fr_of fp_a u u3 → wg_1 d 1 u3 40 2 x (nI D) (fun r y => wg_1 d 0 y 1 1 (nI D) 0 (fun r2 y2 => po (r + r2) y2))) : wg_1 (d + 1) 2 u 40 x (nI D) 0 po := by
  rw [wge_1_2]
  unfold wb_X0_run_0
  rw [if_pos (show nI D ≤ 30 from nI_le (b := 30) hD (by omega))]
  refine sp_begun hC hL (fun u3 h3 g3 => ?_)
  rw [if_neg (by decide), if_neg (by decide), if_neg (by decide), if_neg (by decide), if_neg (by decide), if_pos rfl]
  exact hk u3 h3 g3
theorem rn_50 {L : List Int32} {i v x : Int32} {k d D : Nat} {po : Int32 → pa_S → Prop} (hC : ac_C u L i v k) (hL : L.length < 20) (hD : D ≤ 30) (hk : ∀ u3, ac_C u3 (L ++ [50]) i v k → fr_of fp_a u u3 → wg_1 d 1 u3 50 0 x (nI D) (fun r y => po (-r) y)) : wg_1 (d + 1) 2 u 50 x (nI D) 0 po := by
  rw [wge_1_2]
  unfold wb_X0_run_0
  rw [if_pos (show nI D ≤ 30 from nI_le (b := 30) hD (by omega))]
  refine sp_begun hC hL (fun u3 h3 g3 => ?_)
  rw [if_neg (by decide), if_neg (by decide), if_neg (by decide), if_neg (by decide), if_neg (by decide), if_neg (by decide), if_pos rfl]
  exact hk u3 h3 g3
theorem rn_51 {L : List Int32} {i v x : Int32} {k d D : Nat} {po : Int32 → pa_S → Prop} (hC : ac_C u L i v k) (hL : L.length < 20) (hD : D ≤ 30) (hk : ∀ u3, ac_C u3 (L ++ [51]) i v k → fr_of fp_a u u3 → wg_1 d 1 u3 51 1 (x + 1) (nI D) (fun r y => po r y)) : wg_1 (d + 1) 2 u 51 x (nI D) 0 po := by
  rw [wge_1_2]
  unfold wb_X0_run_0
  rw [if_pos (show nI D ≤ 30 from nI_le (b := 30) hD (by omega))]
  refine sp_begun hC hL (fun u3 h3 g3 => ?_)
  rw [if_neg (by decide), if_neg (by decide), if_neg (by decide), if_neg (by decide), if_neg (by decide), if_neg (by decide), if_neg (by decide), if_pos rfl]
  exact hk u3 h3 g3
theorem rn_60 {L : List Int32} {i v x : Int32} {k d D : Nat} {po : Int32 → pa_S → Prop} (hC : ac_C u L i v k) (hL : L.length < 20) (hD : D ≤ 30) (hk : ∀ u3, ac_C u3 (L ++ [60]) i v k → fr_of fp_a u u3 → wg_1 d 1 u3 60 2 (x - i) (nI D) (fun r y => po r y)) : wg_1 (d + 1) 2 u 60 x (nI D) 0 po := by
  rw [wge_1_2]
  unfold wb_X0_run_0
  rw [if_pos (show nI D ≤ 30 from nI_le (b := 30) hD (by omega))]
  refine sp_begun hC hL (fun u3 h3 g3 => ?_)
  rw [if_neg (by decide), if_neg (by decide), if_neg (by decide), if_neg (by decide), if_neg (by decide), if_neg (by decide), if_neg (by decide), if_neg (by decide), if_pos rfl, h3.2.2.1]
  exact hk u3 h3 g3
theorem rn_70 {L : List Int32} {i v x : Int32} {k d D : Nat} {po : Int32 → pa_S → Prop} (hC : ac_C u L i v k) (hL : L.length < 20) (hD : D ≤ 30) (hk : ∀ u3, ac_C u3 (L ++ [70]) i v k → fr_of fp_a u u3 → wg_1 d 1 u3 70 1 x (nI D) (fun r y => wg_1 d 1 y 70 0 2 (nI D) (fun r2 y2 => po (r + r2) y2))) : wg_1 (d + 1) 2 u 70 x (nI D) 0 po := by
  rw [wge_1_2]
  unfold wb_X0_run_0
  rw [if_pos (show nI D ≤ 30 from nI_le (b := 30) hD (by omega))]
  refine sp_begun hC hL (fun u3 h3 g3 => ?_)
  rw [if_neg (by decide), if_neg (by decide), if_neg (by decide), if_neg (by decide), if_neg (by decide), if_neg (by decide), if_neg (by decide), if_neg (by decide), if_neg (by decide), if_pos rfl]
  exact hk u3 h3 g3
theorem rn_71 {L : List Int32} {i v x : Int32} {k d D : Nat} {po : Int32 → pa_S → Prop} (hC : ac_C u L i v k) (hL : L.length < 20) (hD : D ≤ 30) (hk : ∀ u3, ac_C u3 (L ++ [71]) i v k → fr_of fp_a u u3 → wg_1 d 1 u3 71 0 x (nI D) (fun r y => po (r ^^^ (pa_I y 17 0 4)) y)) : wg_1 (d + 1) 2 u 71 x (nI D) 0 po := by
  rw [wge_1_2]
  unfold wb_X0_run_0
  rw [if_pos (show nI D ≤ 30 from nI_le (b := 30) hD (by omega))]
  refine sp_begun hC hL (fun u3 h3 g3 => ?_)
  rw [if_neg (by decide), if_neg (by decide), if_neg (by decide), if_neg (by decide), if_neg (by decide), if_neg (by decide), if_neg (by decide), if_neg (by decide), if_neg (by decide), if_neg (by decide), if_pos rfl]
  exact hk u3 h3 g3
/-- what the acts answer and which bodies run -/
def lie_v (i v : Int32) (k : Nat) (x : Int32) : Int32 := if k = 2 ∨ k = 5 then x * 3 + i else if k = 4 then -(x + i) else if k = 6 then (x + i) ^^^ v else x + i
def lie_b (k : Nat) : List Int32 := if k = 2 ∨ k = 5 then [30, 10] else if k = 4 then [50, 10] else if k = 6 then [71, 10] else [10]
def hre_v (i v : Int32) (k : Nat) (x : Int32) : Int32 := lie_v i v k x - v
def hre_b (k : Nat) : List Int32 := [11] ++ lie_b k
def rea_v (i v : Int32) (k : Nat) (x : Int32) : Int32 := if k = 1 then hre_v i v k x ^^^ 6 else if k = 4 then hre_v i v k (x + 1) ^^^ 6 else if k = 6 then hre_v i v k x + (2 + i) else hre_v i v k x
def rea_b (k : Nat) : List Int32 := if k = 1 then [20] ++ hre_b k else if k = 4 then [51] ++ ([20] ++ hre_b k) else if k = 6 then [70] ++ (hre_b k ++ [10]) else hre_b k
def hte_v (i v : Int32) (k : Nat) (x : Int32) : Int32 := rea_v i v k x * 2
def hte_b (k : Nat) : List Int32 := [12] ++ rea_b k
def tel_v (i v : Int32) (k : Nat) (x : Int32) : Int32 := if k = 3 ∨ k = 6 then hte_v i v k x + rea_v i v k 1 else if k = 5 then hte_v i v k (x - i) else hte_v i v k x
def tel_b (k : Nat) : List Int32 := if k = 3 ∨ k = 6 then [40] ++ (hte_b k ++ rea_b k) else if k = 5 then [60] ++ hte_b k else hte_b k
theorem lie_len : ∀ k, (lie_b k).length ≤ 2 := by
  intro k
  unfold lie_b
  repeat' split
  all_goals decide
theorem hre_len (k : Nat) : (hre_b k).length ≤ 3 := by
  have := lie_len k
  unfold hre_b
  rw [List.length_append, List.length_singleton]
  omega
theorem rea_len (k : Nat) : (rea_b k).length ≤ 5 := by
  have := hre_len k
  unfold rea_b
  repeat' split
  all_goals first | omega | (simp only [List.length_append, List.length_singleton]; omega)
theorem hte_len (k : Nat) : (hte_b k).length ≤ 6 := by
  have := rea_len k
  unfold hte_b
  rw [List.length_append, List.length_singleton]
  omega
theorem tel_len (k : Nat) : (tel_b k).length ≤ 12 := by
  have := hte_len k
  have := rea_len k
  unfold tel_b
  repeat' split
  all_goals first | omega | (simp only [List.length_append, List.length_singleton]; omega)
def ac_R (u : pa_S) (L B : List Int32) (i v : Int32) (k : Nat) (r : Int32) (po : Int32 → pa_S → Prop) : Prop := ∀ y, ac_C y (L ++ B) i v k → fr_of fp_a u y → po r y
/-- one body first -/
theorem ac_R1 {u3 : pa_S} {L B : List Int32} {i v b r : Int32} {k : Nat} {po : Int32 → pa_S → Prop} (g : fr_of fp_a u u3) (h : ac_R u L ([b] ++ B) i v k r po) : ac_R u3 (L ++ [b]) B i v k r po :=
  fun y hy gy => h y (by rw [List.append_assoc] at hy; exact hy) (fr_trans g gy)
theorem l_one {L : List Int32} {b : Int32} {n : Nat} (h : L.length + 1 ≤ n) : (L ++ [b]).length ≤ n := by rw [List.length_append, List.length_singleton]; exact h
theorem cl_lies {L : List Int32} {i v x : Int32} {k d D : Nat} {po : Int32 → pa_S → Prop} (hC : ac_C u L i v k) (hk : k ≤ 6) (hL : L.length + 2 ≤ 20) (hD : D + 2 ≤ 30) (hR : ac_R u L (lie_b k) i v k (lie_v i v k x) po) : wg_1 (d + 4) 0 u 0 x (nI D) 0 po := by
  have ten : ∀ (u : pa_S) (L : List Int32) (x : Int32) (d D : Nat) (po : Int32 → pa_S → Prop), ac_C u L i v k → L.length + 1 ≤ 20 → D ≤ 30 → ac_R u L [10] i v k (x + i) po → wg_1 (d + 1) 2 u 10 x (nI D) 0 po := fun u L x d D po a b c h => rn_10 a (by omega) c (fun u3 h3 g3 => h u3 h3 g3)
  rw [wge_1_0]
  show wb_X0_own_0 _ _ _ u (nI 0) x (nI D) po
  rw [ow_l hC.2.2.2.1 hk (by omega), pw_n1, nI_add]
  rcases (show k = 0 ∨ k = 1 ∨ k = 2 ∨ k = 3 ∨ k = 4 ∨ k = 5 ∨ k = 6 by omega) with rfl | rfl | rfl | rfl | rfl | rfl | rfl
  · exact ten u L x (d + 2) (D + 1) po hC (by omega) (by omega) hR
  · exact ten u L x (d + 2) (D + 1) po hC (by omega) (by omega) hR
  · refine rn_30 (d := d + 2) (D := D + 1) hC (by omega) (by omega) (fun u3 h3 g3 => ?_)
    rw [wge_1_1]
    show wb_X0_above_0 _ _ _ u3 30 (nI 0) (x * 3) (nI (D + 1)) _
    rw [ab_l (c := 2) (k := 0) (x := 0) (by decide) (by omega) rfl (by omega) (by omega), pw_n1, nI_add]
    refine ten u3 (L ++ [30]) (x * 3) d (D + 1 + 1) _ h3 (by rw [List.length_append, List.length_singleton]; omega) (by omega) (fun y hy gy => ?_)
    exact ac_R1 g3 hR y hy gy
  · exact ten u L x (d + 2) (D + 1) po hC (by omega) (by omega) hR
  · refine rn_50 (d := d + 2) (D := D + 1) hC (by omega) (by omega) (fun u3 h3 g3 => ?_)
    rw [wge_1_1]
    show wb_X0_above_0 _ _ _ u3 50 (nI 0) x (nI (D + 1)) _
    rw [ab_l (c := 4) (k := 1) (x := 0) (by decide) (by omega) rfl (by omega) (by omega), pw_n1, nI_add]
    refine ten u3 (L ++ [50]) x d (D + 1 + 1) _ h3 (by rw [List.length_append, List.length_singleton]; omega) (by omega) (fun y hy gy => ?_)
    exact ac_R1 g3 hR y hy gy
  · refine rn_30 (d := d + 2) (D := D + 1) hC (by omega) (by omega) (fun u3 h3 g3 => ?_)
    rw [wge_1_1]
    show wb_X0_above_0 _ _ _ u3 30 (nI 0) (x * 3) (nI (D + 1)) _
    rw [ab_l (c := 2) (k := 0) (x := 0) (by decide) (by omega) rfl (by omega) (by omega), pw_n1, nI_add]
    refine ten u3 (L ++ [30]) (x * 3) d (D + 1 + 1) _ h3 (by rw [List.length_append, List.length_singleton]; omega) (by omega) (fun y hy gy => ?_)
    exact ac_R1 g3 hR y hy gy
  · refine rn_71 (d := d + 2) (D := D + 1) hC (by omega) (by omega) (fun u3 h3 g3 => ?_)
    rw [wge_1_1]
    show wb_X0_above_0 _ _ _ u3 71 (nI 0) x (nI (D + 1)) _
    rw [ab_l (c := 6) (k := 3) (x := 0) (by decide) (by omega) rfl (by omega) (by omega), pw_n1, nI_add]
    refine ten u3 (L ++ [71]) x d (D + 1 + 1) _ h3 (by rw [List.length_append, List.length_singleton]; omega) (by omega) (fun y hy gy => ?_)
    rw [hy.2.2.2.2]
    exact ac_R1 g3 hR y hy gy
theorem cl_hre {L : List Int32} {i v x : Int32} {k d D : Nat} {po : Int32 → pa_S → Prop} (hC : ac_C u L i v k) (hk : k ≤ 6) (hL : L.length + 3 ≤ 20) (hD : D + 2 ≤ 30) (hR : ac_R u L (hre_b k) i v k (hre_v i v k x) po) : wg_1 (d + 5) 2 u 11 x (nI D) 0 po := by
  refine rn_11 (d := d + 4) hC (by omega) (by omega) (fun u3 h3 g3 => ?_)
  refine cl_lies h3 hk (by rw [List.length_append, List.length_singleton]; omega) hD (fun y hy gy => ?_)

  rw [hy.2.2.2.2]
  exact ac_R1 g3 hR y hy gy
theorem cl_rea {L : List Int32} {i v x : Int32} {k d D : Nat} {po : Int32 → pa_S → Prop} (hC : ac_C u L i v k) (hk : k ≤ 6) (hL : L.length + 5 ≤ 20) (hD : D + 6 ≤ 30) (hR : ac_R u L (rea_b k) i v k (rea_v i v k x) po) : wg_1 (d + 10) 0 u 1 x (nI D) 0 po := by
  rw [wge_1_0]
  show wb_X0_own_0 _ _ _ u (nI 1) x (nI D) po
  rw [ow_l hC.2.2.2.1 hk (by omega), pw_n1, nI_add]
  rcases (show k = 0 ∨ k = 1 ∨ k = 2 ∨ k = 3 ∨ k = 4 ∨ k = 5 ∨ k = 6 by omega) with rfl | rfl | rfl | rfl | rfl | rfl | rfl
  · exact cl_hre (d := d + 4) (D := D + 1) hC (by omega) (by omega) (by omega) hR
  · refine rn_20 (d := d + 8) (D := D + 1) hC (by omega) (by omega) (fun u3 h3 g3 => ?_)
    rw [wge_1_1]
    show wb_X0_above_0 _ _ _ u3 20 (nI 1) x (nI (D + 1)) _
    rw [ab_l (c := 1) (k := 0) (x := 1) (by decide) (by omega) rfl (by omega) (by omega), pw_n1, nI_add]
    exact cl_hre (d := d + 2) (D := D + 1 + 1) h3 (by omega) (by rw [List.length_append, List.length_singleton]; omega) (by omega) (fun y hy gy => ac_R1 g3 hR y hy gy)
  · exact cl_hre (d := d + 4) (D := D + 1) hC (by omega) (by omega) (by omega) hR
  · exact cl_hre (d := d + 4) (D := D + 1) hC (by omega) (by omega) (by omega) hR
  · refine rn_51 (d := d + 8) (D := D + 1) hC (by omega) (by omega) (fun u3 h3 g3 => ?_)
    rw [wge_1_1]
    show wb_X0_above_0 _ _ _ u3 51 (nI 1) (x + nI 1) (nI (D + 1)) _
    rw [ab_l (c := 4) (k := 1) (x := 1) (by decide) (by omega) rfl (by omega) (by omega), pw_n1, nI_add]
    refine rn_20 (d := d + 6) (D := D + 1 + 1) h3 (by rw [List.length_append, List.length_singleton]; omega) (by omega) (fun u4 h4 g4 => ?_)
    rw [wge_1_1]
    show wb_X0_above_0 _ _ _ u4 20 (nI 1) (x + nI 1) (nI (D + 1 + 1)) _
    rw [ab_l (c := 1) (k := 0) (x := 1) (by decide) (by omega) rfl (by omega) (by omega), pw_n1, nI_add]
    exact cl_hre (d := d) (D := D + 1 + 1 + 1) h4 (by omega) (by rw [List.length_append, List.length_append, List.length_singleton, List.length_singleton]; omega) (by omega) (fun y hy gy => ac_R1 g4 (ac_R1 g3 hR) y hy gy)
  · exact cl_hre (d := d + 4) (D := D + 1) hC (by omega) (by omega) (by omega) hR
  · refine rn_70 (d := d + 8) (D := D + 1) hC (by omega) (by omega) (fun u3 h3 g3 => ?_)
    rw [wge_1_1]
    show wb_X0_above_0 _ _ _ u3 70 (nI 1) x (nI (D + 1)) _
    rw [ab_l (c := 6) (k := 3) (x := 1) (by decide) (by omega) rfl (by omega) (by omega), pw_n1, nI_add]
    refine cl_hre (d := d + 2) (D := D + 1 + 1) h3 (by omega) (by rw [List.length_append, List.length_singleton]; omega) (by omega) (fun y hy gy => ?_)

    rw [wge_1_1]
    show wb_X0_above_0 _ _ _ y 70 (nI 0) 2 (nI (D + 1)) _
    rw [ab_l (c := 6) (k := 3) (x := 0) (by decide) (by omega) rfl (by omega) (by omega), pw_n1, nI_add]
    have hl := hre_len 6
    refine rn_10 (d := d + 6) (D := D + 1 + 1) hy (by rw [List.length_append, List.length_append, List.length_singleton]; omega) (by omega) (fun y2 h2 g2 => ?_)
    refine ac_R1 g3 hR y2 ?_ (fr_trans gy g2)
    rw [List.append_assoc] at h2
    exact h2
theorem cl_hte {L : List Int32} {i v x : Int32} {k d D : Nat} {po : Int32 → pa_S → Prop} (hC : ac_C u L i v k) (hk : k ≤ 6) (hL : L.length + 6 ≤ 20) (hD : D + 6 ≤ 30) (hR : ac_R u L (hte_b k) i v k (hte_v i v k x) po) : wg_1 (d + 11) 2 u 12 x (nI D) 0 po := by
  refine rn_12 (d := d + 10) hC (by omega) (by omega) (fun u3 h3 g3 => ?_)
  exact cl_rea h3 hk (by rw [List.length_append, List.length_singleton]; omega) hD (fun y hy gy => ac_R1 g3 hR y hy gy)
theorem cl_tel {L : List Int32} {i v x : Int32} {k d D : Nat} {po : Int32 → pa_S → Prop} (hC : ac_C u L i v k) (hk : k ≤ 6) (hL : L.length + 12 ≤ 20) (hD : D + 10 ≤ 30) (hR : ac_R u L (tel_b k) i v k (tel_v i v k x) po) : wg_1 (d + 14) 0 u 2 x (nI D) 0 po := by
  rw [wge_1_0]
  show wb_X0_own_0 _ _ _ u (nI 2) x (nI D) po
  rw [ow_l hC.2.2.2.1 hk (by omega), pw_n1, nI_add]
  rcases (show k = 0 ∨ k = 1 ∨ k = 2 ∨ k = 3 ∨ k = 4 ∨ k = 5 ∨ k = 6 by omega) with rfl | rfl | rfl | rfl | rfl | rfl | rfl
  · exact cl_hte (d := d + 2) (D := D + 1) hC (by omega) (by omega) (by omega) hR
  · exact cl_hte (d := d + 2) (D := D + 1) hC (by omega) (by omega) (by omega) hR
  · exact cl_hte (d := d + 2) (D := D + 1) hC (by omega) (by omega) (by omega) hR
  · refine rn_40 (d := d + 12) (D := D + 1) hC (by omega) (by omega) (fun u3 h3 g3 => ?_)
    rw [wge_1_1]
    show wb_X0_above_0 _ _ _ u3 40 (nI 2) x (nI (D + 1)) _
    rw [ab_l (c := 3) (k := 0) (x := 2) (by decide) (by omega) rfl (by omega) (by omega), pw_n1, nI_add]
    refine cl_hte (d := d) (D := D + 1 + 1) h3 (by omega) (by rw [List.length_append, List.length_singleton]; omega) (by omega) (fun y hy gy => ?_)
    have hl := hte_len 3
    refine cl_rea (d := d + 2) (D := D + 1) hy (by omega) (by rw [List.length_append, List.length_append, List.length_singleton]; omega) (by omega) (fun y2 h2 g2 => ?_)
    refine ac_R1 g3 hR y2 ?_ (fr_trans gy g2)
    rw [List.append_assoc] at h2
    exact h2
  · exact cl_hte (d := d + 2) (D := D + 1) hC (by omega) (by omega) (by omega) hR
  · refine rn_60 (d := d + 12) (D := D + 1) hC (by omega) (by omega) (fun u3 h3 g3 => ?_)
    rw [wge_1_1]
    show wb_X0_above_0 _ _ _ u3 60 (nI 2) (x - i) (nI (D + 1)) _
    rw [ab_l (c := 5) (k := 2) (x := 2) (by decide) (by omega) rfl (by omega) (by omega), pw_n1, nI_add]
    exact cl_hte (d := d) (D := D + 1 + 1) h3 (by omega) (by rw [List.length_append, List.length_singleton]; omega) (by omega) (fun y hy gy => ac_R1 g3 hR y hy gy)
  · refine rn_40 (d := d + 12) (D := D + 1) hC (by omega) (by omega) (fun u3 h3 g3 => ?_)
    rw [wge_1_1]
    show wb_X0_above_0 _ _ _ u3 40 (nI 2) x (nI (D + 1)) _
    rw [ab_l (c := 3) (k := 0) (x := 2) (by decide) (by omega) rfl (by omega) (by omega), pw_n1, nI_add]
    refine cl_hte (d := d) (D := D + 1 + 1) h3 (by omega) (by rw [List.length_append, List.length_singleton]; omega) (by omega) (fun y hy gy => ?_)
    have hl := hte_len 6
    refine cl_rea (d := d + 2) (D := D + 1) hy (by omega) (by rw [List.length_append, List.length_append, List.length_singleton]; omega) (by omega) (fun y2 h2 g2 => ?_)
    refine ac_R1 g3 hR y2 ?_ (fr_trans gy g2)
    rw [List.append_assoc] at h2
    exact h2
def mm_R (u : pa_S) (L B : List Int32) (h : Nat) (v : Int32) (k : Nat) (r : Int32) (po : Int32 → pa_S → Prop) : Prop := ∀ y, mm_C y (L ++ B) h v k → fr_of fp_b u y → po r y
theorem mm_R1 {u3 : pa_S} {L B : List Int32} {h k : Nat} {v b r : Int32} {po : Int32 → pa_S → Prop} (g : fr_of fp_b u u3) (hR : mm_R u L ([b] ++ B) h v k r po) : mm_R u3 (L ++ [b]) B h v k r po :=
  fun y hy gy => hR y (by rw [List.append_assoc] at hy; exact hy) (fr_trans g gy)
theorem ml_hl {L : List Int32} {h k : Nat} {v x : Int32} {po : Int32 → pa_S → Prop} (hC : mm_C u L h v k) (hL : L.length + 1 ≤ 20) (hR : mm_R u L [10] h v k (x + nI h) po) : wp_X7_handLies u (nI h) x po := by
  unfold wp_X7_handLies wb_X7_handLies_0
  exact mp_body hC (by omega) (fun y hy gy => hR y hy gy)
theorem ml_lies {L : List Int32} {h k : Nat} {v x : Int32} {po : Int32 → pa_S → Prop} (hC : mm_C u L h v k) (hh : h < 5) (hk : k ≤ 6) (hL : L.length + 2 ≤ 20) (hR : mm_R u L (lie_b k) h v k (lie_v (nI h) v k x) po) : wp_X7_liesAct u (nI h) x po := by
  unfold wp_X7_liesAct wb_X7_liesAct_0
  rw [pw_and (vp_in_nI hh (by omega)), nI_clamp (by omega), hC.2.2.1]
  rcases (show k = 0 ∨ k = 1 ∨ k = 2 ∨ k = 3 ∨ k = 4 ∨ k = 5 ∨ k = 6 by omega) with rfl | rfl | rfl | rfl | rfl | rfl | rfl
  · rw [if_neg (by decide), if_neg (by decide), if_neg (by decide), if_neg (by decide), if_neg (by decide)]
    exact ml_hl hC (by omega) hR
  · rw [if_neg (by decide), if_neg (by decide), if_neg (by decide), if_neg (by decide), if_neg (by decide)]
    exact ml_hl hC (by omega) hR
  · rw [if_pos (by decide)]
    refine mp_body hC (by omega) (fun u3 h3 g3 => ?_)
    exact ml_hl h3 (by rw [List.length_append, List.length_singleton]; omega) (fun y hy gy => mm_R1 g3 hR y hy gy)
  · rw [if_neg (by decide), if_pos (by decide)]
    exact ml_hl hC (by omega) hR
  · rw [if_neg (by decide), if_neg (by decide), if_pos (by decide)]
    refine mp_body hC (by omega) (fun u3 h3 g3 => ?_)
    exact ml_hl h3 (by rw [List.length_append, List.length_singleton]; omega) (fun y hy gy => mm_R1 g3 hR y hy gy)
  · rw [if_neg (by decide), if_neg (by decide), if_neg (by decide), if_pos (by decide)]
    refine mp_body hC (by omega) (fun u3 h3 g3 => ?_)
    exact ml_hl h3 (by rw [List.length_append, List.length_singleton]; omega) (fun y hy gy => mm_R1 g3 hR y hy gy)
  · rw [if_neg (by decide), if_neg (by decide), if_neg (by decide), if_neg (by decide), if_pos (by decide)]
    refine mp_body hC (by omega) (fun u3 h3 g3 => ?_)
    refine ml_hl h3 (by rw [List.length_append, List.length_singleton]; omega) (fun y hy gy => ⟨vp_in_nI hh (by omega), ?_⟩)
    rw [hy.2.2.2]
    exact mm_R1 g3 hR y hy gy
theorem ml_hre {L : List Int32} {h k : Nat} {v x : Int32} {po : Int32 → pa_S → Prop} (hC : mm_C u L h v k) (hh : h < 5) (hk : k ≤ 6) (hL : L.length + 3 ≤ 20) (hR : mm_R u L (hre_b k) h v k (hre_v (nI h) v k x) po) : wp_X7_handReads u (nI h) x po := by
  unfold wp_X7_handReads wb_X7_handReads_0
  refine mp_body hC (by omega) (fun u3 h3 g3 => ?_)
  refine ml_lies h3 hh hk (by rw [List.length_append, List.length_singleton]; omega) (fun y hy gy => ⟨vp_in_nI hh (by omega), ?_⟩)
  rw [nI_clamp (by omega), hy.2.2.2]
  exact mm_R1 g3 hR y hy gy
theorem ml_sre {L : List Int32} {h k : Nat} {v x : Int32} {po : Int32 → pa_S → Prop} (hC : mm_C u L h v k) (hh : h < 5) (hk : k ≤ 6) (hL : L.length + 4 ≤ 20) (hR : mm_R u L ([20] ++ hre_b k) h v k (hre_v (nI h) v k x ^^^ 6) po) : wp_X7_softReads u (nI h) x po := by
  unfold wp_X7_softReads wb_X7_softReads_0
  refine mp_body hC (by omega) (fun u3 h3 g3 => ?_)
  exact ml_hre h3 hh hk (by rw [List.length_append, List.length_singleton]; omega) (fun y hy gy => mm_R1 g3 hR y hy gy)
theorem ml_rea {L : List Int32} {h k : Nat} {v x : Int32} {po : Int32 → pa_S → Prop} (hC : mm_C u L h v k) (hh : h < 5) (hk : k ≤ 6) (hL : L.length + 5 ≤ 20) (hR : mm_R u L (rea_b k) h v k (rea_v (nI h) v k x) po) : wp_X7_readsAct u (nI h) x po := by
  unfold wp_X7_readsAct wb_X7_readsAct_0
  rw [pw_and (vp_in_nI hh (by omega)), nI_clamp (by omega), hC.2.2.1]
  rcases (show k = 0 ∨ k = 1 ∨ k = 2 ∨ k = 3 ∨ k = 4 ∨ k = 5 ∨ k = 6 by omega) with rfl | rfl | rfl | rfl | rfl | rfl | rfl
  · rw [if_neg (by decide), if_neg (by decide), if_neg (by decide)]
    exact ml_hre hC hh (by omega) (by omega) hR
  · rw [if_pos (by decide)]
    exact ml_sre hC hh (by omega) (by omega) hR
  · rw [if_neg (by decide), if_neg (by decide), if_neg (by decide)]
    exact ml_hre hC hh (by omega) (by omega) hR
  · rw [if_neg (by decide), if_neg (by decide), if_neg (by decide)]
    exact ml_hre hC hh (by omega) (by omega) hR
  · rw [if_neg (by decide), if_pos (by decide)]
    refine mp_body hC (by omega) (fun u3 h3 g3 => ?_)
    exact ml_sre h3 hh (by omega) (by rw [List.length_append, List.length_singleton]; omega) (fun y hy gy => mm_R1 g3 hR y hy gy)
  · rw [if_neg (by decide), if_neg (by decide), if_neg (by decide)]
    exact ml_hre hC hh (by omega) (by omega) hR
  · rw [if_neg (by decide), if_neg (by decide), if_pos (by decide)]
    refine mp_body hC (by omega) (fun u3 h3 g3 => ?_)
    refine ml_hre h3 hh (by omega) (by rw [List.length_append, List.length_singleton]; omega) (fun y hy gy => ?_)
    have hl := hre_len 6
    refine ml_hl hy (by rw [List.length_append, List.length_append, List.length_singleton]; omega) (fun y2 h2 g2 => ?_)
    refine mm_R1 g3 hR y2 ?_ (fr_trans gy g2)
    rw [List.append_assoc] at h2
    exact h2
theorem ml_hte {L : List Int32} {h k : Nat} {v x : Int32} {po : Int32 → pa_S → Prop} (hC : mm_C u L h v k) (hh : h < 5) (hk : k ≤ 6) (hL : L.length + 6 ≤ 20) (hR : mm_R u L (hte_b k) h v k (hte_v (nI h) v k x) po) : wp_X7_handTells u (nI h) x po := by
  unfold wp_X7_handTells wb_X7_handTells_0
  refine mp_body hC (by omega) (fun u3 h3 g3 => ?_)
  exact ml_rea h3 hh hk (by rw [List.length_append, List.length_singleton]; omega) (fun y hy gy => mm_R1 g3 hR y hy gy)
theorem ml_tel {L : List Int32} {h k : Nat} {v x : Int32} {po : Int32 → pa_S → Prop} (hC : mm_C u L h v k) (hh : h < 5) (hk : k ≤ 6) (hL : L.length + 12 ≤ 20) (hR : mm_R u L (tel_b k) h v k (tel_v (nI h) v k x) po) : wp_X7_tellsAct u (nI h) x po := by
  unfold wp_X7_tellsAct wb_X7_tellsAct_0
  rw [pw_and (vp_in_nI hh (by omega)), nI_clamp (by omega), hC.2.2.1]
  rcases (show k = 0 ∨ k = 1 ∨ k = 2 ∨ k = 3 ∨ k = 4 ∨ k = 5 ∨ k = 6 by omega) with rfl | rfl | rfl | rfl | rfl | rfl | rfl
  · rw [if_neg (by decide), if_neg (by decide), if_neg (by decide), if_neg (by decide)]
    exact ml_hte hC hh (by omega) (by omega) hR
  · rw [if_neg (by decide), if_neg (by decide), if_neg (by decide), if_neg (by decide)]
    exact ml_hte hC hh (by omega) (by omega) hR
  · rw [if_neg (by decide), if_neg (by decide), if_neg (by decide), if_neg (by decide)]
    exact ml_hte hC hh (by omega) (by omega) hR
  · rw [if_pos (by decide)]
    refine mp_body hC (by omega) (fun u3 h3 g3 => ?_)
    refine ml_hte h3 hh (by omega) (by rw [List.length_append, List.length_singleton]; omega) (fun y hy gy => ?_)
    have hl := hte_len 3
    refine ml_rea hy hh (by omega) (by rw [List.length_append, List.length_append, List.length_singleton]; omega) (fun y2 h2 g2 => ?_)
    refine mm_R1 g3 hR y2 ?_ (fr_trans gy g2)
    rw [List.append_assoc] at h2
    exact h2
  · rw [if_neg (by decide), if_pos (by decide)]
    exact ml_hte hC hh (by omega) (by omega) hR
  · rw [if_neg (by decide), if_neg (by decide), if_pos (by decide)]
    refine mp_body hC (by omega) (fun u3 h3 g3 => ?_)
    exact ml_hte h3 hh (by omega) (by rw [List.length_append, List.length_singleton]; omega) (fun y hy gy => mm_R1 g3 hR y hy gy)
  · rw [if_neg (by decide), if_neg (by decide), if_neg (by decide), if_pos (by decide)]
    refine mp_body hC (by omega) (fun u3 h3 g3 => ?_)
    refine ml_hte h3 hh (by omega) (by rw [List.length_append, List.length_singleton]; omega) (fun y hy gy => ?_)
    have hl := hte_len 6
    refine ml_rea hy hh (by omega) (by rw [List.length_append, List.length_append, List.length_singleton]; omega) (fun y2 h2 g2 => ?_)
    refine mm_R1 g3 hR y2 ?_ (fr_trans gy g2)
    rw [List.append_assoc] at h2
    exact h2
end ACT
theorem case_k29 {u : pa_S} {a1 a2 a3 a4 a5 : Int32} (hi : iv_I u) : pa_case iv_I u a1 a2 a3 a4 a5 29 := by
  obtain ⟨w, e, N, hw⟩ := hi
  have hf := iv_F hw
  have h5 := hf.1
  show wp_X6_act u a1 a2 a3 _
  unfold wp_X6_act wb_X6_act_0 wp_X0_forget wb_X0_forget_0
  intro u0 e0
  have g0 : fr_of fp_a u u0 := by rw [e0]; exact fr_sI (Or.inl rfl) (fr_refl u)
  have r0 : pa_I u0 17 0 1 = nI 0 := by rw [e0, pI_sI, if_pos ⟨rfl, rfl, rfl⟩]; rfl
  have gY0 : fr_of fp_Y u u0 := fr_mono (fun t i k y => by unfold fp_a at y; unfold fp_Y; omega) g0
  have c0 : wo_C u0 0 w := wo_C_fr (fun t k _ _ => by unfold fp_a; omega) (by unfold fp_a; omega) g0 (iv_C hw)
  have fin : ∀ (L : List Int32) (i v : Int32) (h k : Nat) (x y : pa_S), fr_of fp_Y u x → fr_of fp_b x y → L.length ≤ 20 → pa_I x 17 0 1 = nI L.length → (∀ j b, L[j]? = some b → pa_A x 18 0 j = b) → pa_I y 24 0 63 = nI L.length → (∀ j b, L[j]? = some b → pa_A y 63 0 j = b) → fr_of fp_a u x → iv_I y := by
    intro L i v h k x y gx gy hL x1 x2 y1 y2 gax
    have gA : fr_of (fun t i k => fp_a t i k ∨ fp_b t i k) u y := fr_trans (fr_mono (fun _ _ _ q => Or.inl q) gax) (fr_mono (fun _ _ _ q => Or.inr q) gy)
    refine ⟨w, e, N, iv_Y (fr_mono (fun t i k q => by unfold fp_a fp_b at q; unfold fp_Y; omega) gA) hw (iv_t_Y gA (fun t i k q => by unfold fp_a fp_b at q; omega) hw.2.1.2.1) ⟨L.length, by omega, ?_, y1, fun j hj _ => ?_⟩ (iv_p_Y gA (fun t i k q => by unfold fp_a fp_b at q; omega) hw.2.1.2.2.2.2.1)⟩
    · rw [gy.1 17 0 1 (by unfold fp_b; omega)]; exact x1
    · rw [gy.2.1 18 0 (by unfold fp_b; omega), x2 j _ (List.getElem?_eq_getElem hj), y2 j _ (List.getElem?_eq_getElem hj)]
  have none0 : (no_h w a1 ∨ (a2 < nI 0 ∨ nI 2 < a2)) → wp_X7_act u0 a1 a2 a3 (fun r' u2 => (0 : Int32) = r' ∧ iv_I u2) := by
    intro hb
    unfold wp_X7_act wb_X7_act_0
    intro x ex
    have gx : fr_of fp_b u0 x := by rw [ex]; exact fr_sI (Or.inl ⟨rfl, rfl⟩) (fr_refl u0)
    have x0 : pa_I x 24 0 63 = nI 0 := by rw [ex, pI_sI, if_pos ⟨rfl, rfl, rfl⟩]; rfl
    have hm : wo_M x w := wo_M_fr gx (by unfold fp_b; omega) (fun t _ _ => by unfold fp_b; omega) (wo_M_fr g0 (by unfold fp_a; omega) (fun t _ _ => by unfold fp_a; omega) (iv_M hw))
    have hz : iv_I x := fin [] 0 0 0 0 u0 x gY0 gx (by decide) r0 (fun j b h => absurd h (by simp)) x0 (fun j b h => absurd h (by simp)) g0
    rcases rg_h w a1 hf with ⟨h, hh, rfl⟩ | h
    · rw [ih_1 hf hm hh, if_neg (by decide)]
      rcases hb with hb | hb
      · exfalso
        rcases hb with hb | hb
        · exact nI_pos (by omega) hb
        · exact nI_ge hh (by omega) hb
      · rw [in_0 (A := 0) (B := 2) (lo := 0) (hi := 2) rfl rfl hb, if_pos rfl]
        exact ⟨rfl, hz⟩
    · rw [ih_0 hf hm h, if_pos rfl]
      exact ⟨rfl, hz⟩
  rcases rg_h w a1 hf with ⟨h, hh, rfl⟩ | h
  rotate_left
  · rw [has_0 c0 h, if_pos rfl]
    exact none0 (Or.inl h)
  rw [sp_has hf c0 hh, if_neg (by decide)]
  rcases rg_01 a2 0 2 (by omega) (by omega) with ⟨q, _, hq, rfl⟩ | hq
  rotate_left
  · rw [wi_0 (A := 0) (B := 2) (lo := 0) (hi := 2) rfl rfl hq, if_pos rfl]
    exact none0 (Or.inr hq)
  rw [wi_1 (A := 0) (B := 2) (lo := 0) (hi := 2) rfl rfl (by omega) hq (by omega), if_neg (by decide), sp_kindOf hf c0 hh, sp_vOf hf c0 hh]
  unfold wp_X0_begin wb_X0_begin_0
  intro u1 e1 u2 e2 u3 e3
  have g3 : fr_of fp_a u0 u3 := by rw [e3, e2, e1]; exact fr_sI (Or.inl rfl) (fr_sI (Or.inl rfl) (fr_sI (Or.inl rfl) (fr_refl u0)))
  have hC : ac_C u3 [] (nI h) (nI (wo_v w h)) (wo_k w h) := by
    refine ⟨?_, fun j b hb => absurd hb (by simp), ?_, ?_, ?_⟩
    · rw [e3, pI_sI, if_neg (by omega), e2, pI_sI, if_neg (by omega), e1, pI_sI, if_neg (by omega)]; exact r0
    · rw [e3, pI_sI, if_neg (by omega), e2, pI_sI, if_neg (by omega), e1, pI_sI, if_pos ⟨rfl, rfl, rfl⟩]
    · rw [e3, pI_sI, if_neg (by omega), e2, pI_sI, if_pos ⟨rfl, rfl, rfl⟩]
    · rw [e3, pI_sI, if_pos ⟨rfl, rfl, rfl⟩]
  have k6 := (hf.2.1 h hh).1
  -- the reference, begun
  have go : ∀ (r : Int32) (B : List Int32) (y : pa_S), B.length ≤ 12 → ac_C y ([] ++ B) (nI h) (nI (wo_v w h)) (wo_k w h) → fr_of fp_a u3 y →
      (∀ (x : pa_S) (po : Int32 → pa_S → Prop), mm_C x [] h (nI (wo_v w h)) (wo_k w h) → mm_R x [] B h (nI (wo_v w h)) (wo_k w h) r po → (if nI q = 0 then (wp_X7_liesAct x (nI h) a3 po) else (if nI q = 1 then (wp_X7_readsAct x (nI h) a3 po) else (wp_X7_tellsAct x (nI h) a3 po)))) →
      wp_X7_act y (nI h) (nI q) a3 (fun r' u2 => r = r' ∧ iv_I u2) := by
    intro r B y hB hy gy hgo
    unfold wp_X7_act wb_X7_act_0
    intro x ex
    have gx : fr_of fp_b y x := by rw [ex]; exact fr_sI (Or.inl ⟨rfl, rfl⟩) (fr_refl y)
    have guy : fr_of fp_a u y := fr_trans g0 (fr_trans g3 gy)
    have x0 : pa_I x 24 0 63 = nI 0 := by rw [ex, pI_sI, if_pos ⟨rfl, rfl, rfl⟩]; rfl
    have hm : wo_M x w := wo_M_fr gx (by unfold fp_b; omega) (fun t _ _ => by unfold fp_b; omega) (wo_M_fr guy (by unfold fp_a; omega) (fun t _ _ => by unfold fp_a; omega) (iv_M hw))
    rw [ih_1 hf hm hh, if_neg (by decide), in_1 (A := 0) (B := 2) (lo := 0) (hi := 2) rfl rfl (by omega) hq (by omega), if_neg (by decide)]
    refine hgo x _ ⟨x0, fun j b hb => absurd hb (by simp), (hm.2.2.2.2.1 h hh).1, (hm.2.2.2.2.1 h hh).2.1⟩ (fun z hz gz => ⟨rfl, ?_⟩)
    exact fin B 0 0 0 0 y z (fr_mono (fun t i k y => by unfold fp_a at y; unfold fp_Y; omega) guy) (fr_trans gx gz) (by omega) hy.1 hy.2.1 hz.1 hz.2.1 guy
  unfold wp_X0_own
  rcases (show q = 0 ∨ q = 1 ∨ q = 2 by omega) with rfl | rfl | rfl
  · refine cl_lies (d := 36) (D := 0) hC k6 (by decide) (by omega) (fun y hy gy => go _ (lie_b (wo_k w h)) y (by have := lie_len (wo_k w h); omega) hy gy (fun x po hx hR => ?_))
    rw [if_pos (by decide)]
    exact ml_lies hx (by omega) k6 (by decide) hR
  · refine cl_rea (d := 30) (D := 0) hC k6 (by decide) (by omega) (fun y hy gy => go _ (rea_b (wo_k w h)) y (by have := rea_len (wo_k w h); omega) hy gy (fun x po hx hR => ?_))
    rw [if_neg (by decide), if_pos (by decide)]
    exact ml_rea hx (by omega) k6 (by decide) hR
  · refine cl_tel (d := 26) (D := 0) hC k6 (by decide) (by omega) (fun y hy gy => go _ (tel_b (wo_k w h)) y (by have := tel_len (wo_k w h); omega) hy gy (fun x po hx hR => ?_))
    rw [if_neg (by decide), if_neg (by decide)]
    exact ml_tel hx (by omega) k6 (by decide) hR
