/-! cells of the text, of acts and tapes; feed, hand, judge -/
def fp_Y (t i k : Nat) : Prop := (10 ≤ t ∧ t ≤ 13) ∨ (17 ≤ t ∧ t ≤ 20) ∨ (t = 24 ∧ ((10 ≤ k ∧ k ≤ 12) ∨ (21 ≤ k ∧ k ≤ 23) ∨ k = 63)) ∨ t = 30 ∨ t = 37 ∨ (63 ≤ t ∧ t ≤ 67)
section FPY
variable {u v : pa_S} {w : pw_W} {e : pw_E} {N : Nat}
theorem iv_Y (h : fr_of fp_Y u v) (z : iv_at u w e N) (ht : iv_t v) (ha : iv_a v) (hp : iv_p v) : iv_at v w e N := by
  obtain ⟨⟨hf, hd, hc, hm, hz⟩, ⟨r1, r2, r3, r4, r5, r6⟩, ⟨l1, l2, l3⟩, hn⟩ := z
  refine ⟨⟨hf, hd, wo_C_fr ?_ ?_ h hc, wo_M_fr h ?_ ?_ hm, iv_z_fr h ?_ ?_ hz⟩, ⟨iv_e_fr h ?_ ?_ ?_ ?_ ?_ r1, ht, iv_i_fr h ?_ ?_ ?_ ?_ ?_ ?_ r3, ha, hp, ?_⟩, ⟨le_see_fr h ?_ ?_ ?_ ?_ ?_ ?_ (Nat.le_refl _) l1, le_fair_fr h ?_ ?_ ?_ ?_ ?_ (Nat.le_refl _) l2, le_book_fr h ?_ ?_ ?_ ?_ ?_ (Nat.le_refl _) l3⟩, fun s hs => ?_⟩
  all_goals first
    | (unfold fp_Y; omega)
    | (intros; unfold fp_Y; omega)
    | (unfold iv_c; rw [h.2.1 38 0 (by unfold fp_Y; omega)]; exact r6)
    | (rw [h.2.2.2 1 s (by unfold fp_Y; omega)]; exact hn s hs)
theorem iv_t_Y {P : Nat → Nat → Nat → Prop} (h : fr_of P u v) (h1 : ∀ t i k, P t i k → (17 ≤ t ∧ t ≤ 20) ∨ (t = 24 ∧ k = 63) ∨ (63 ≤ t ∧ t ≤ 67)) (z : iv_t u) : iv_t v :=
  iv_t_fr h (fun q => by have := h1 _ _ _ q; omega) (fun q => by have := h1 _ _ _ q; omega) (fun q => by have := h1 _ _ _ q; omega) (fun q => by have := h1 _ _ _ q; omega) z
theorem iv_a_Y {P : Nat → Nat → Nat → Prop} (h : fr_of P u v) (h1 : ∀ t i k, P t i k → ¬ (17 ≤ t ∧ t ≤ 18) ∧ ¬ (t = 24 ∧ k = 63) ∧ t ≠ 63) (z : iv_a u) : iv_a v :=
  iv_a_fr h (fun q => by have := h1 _ _ _ q; omega) (fun q => by have := h1 _ _ _ q; omega) (fun q => by have := h1 _ _ _ q; omega) (fun q => by have := h1 _ _ _ q; omega) z
theorem iv_p_Y {P : Nat → Nat → Nat → Prop} (h : fr_of P u v) (h1 : ∀ t i k, P t i k → ¬ (19 ≤ t ∧ t ≤ 20) ∧ ¬ (64 ≤ t ∧ t ≤ 66)) (z : iv_p u) : iv_p v :=
  iv_p_fr h (fun t k ht q => by have := h1 _ _ _ q; omega) (fun t ht q => by have := h1 _ _ _ q; omega) (fun q => by have := h1 _ _ _ q; omega) (fun q => by have := h1 _ _ _ q; omega) (fun q => by have := h1 _ _ _ q; omega) z
end FPY
theorem pw_byte {c : Nat} (h : c ≤ 127) : vp_nar .byte ((nI c).toInt8.toInt32) = nI c := by
  rw [pk_vb]
  have := (by decide : ∀ c : Fin 128, (nI c.val).toInt8.toInt32 = nI c.val) ⟨c, by omega⟩
  exact this
theorem case_k7 {u : pa_S} {a1 a2 a3 a4 a5 : Int32} (hi : iv_I u) : pa_case iv_I u a1 a2 a3 a4 a5 7 := by
  have hi0 := hi
  obtain ⟨w, e, N, hw⟩ := hi
  obtain ⟨z, hz, z1, z2, zb⟩ := hw.2.1.2.1
  show wp_X6_feed u a1 _
  have X : ∀ (v : pa_S) po, wp_X7_feed v a1 po = wb_X7_feed_0 v a1 po := fun _ _ => rfl
  simp only [X]
  unfold wp_X6_feed wb_X6_feed_0 wb_X7_feed_0
  rcases rg_01 a1 0 127 (by omega) (by omega) with ⟨c, _, hc, rfl⟩ | hc
  rotate_left
  · rw [wi_0 (A := 0) (B := 127) (lo := 0) (hi := 127) rfl rfl hc, if_pos rfl]; dsimp only
    rw [in_0 (A := 0) (B := 127) (lo := 0) (hi := 127) rfl rfl hc, if_pos rfl]
    exact ⟨rfl, hi0⟩
  rw [wi_1 (A := 0) (B := 127) (lo := 0) (hi := 127) rfl rfl (by omega) hc (by omega), if_neg (by decide)]
  have fl : ∀ po : Int32 → Prop, wp_X5_isFull u po = if nI z < 100 then po 0 else po 1 := fun po => by
    unfold wp_X5_isFull wb_X5_isFull_0
    rw [z1]
  rw [fl]
  by_cases q : z = 100
  · subst q
    rw [if_neg (by decide), if_neg (by decide)]; dsimp only
    rw [in_1 (A := 0) (B := 127) (lo := 0) (hi := 127) rfl rfl (by omega) hc (by omega), if_neg (by decide), z2, if_pos (by decide)]
    exact ⟨rfl, hi0⟩
  rw [if_pos (show nI z < 100 from nI_lt (b := 100) (by omega) (by omega)), if_pos rfl]
  have ad : ∀ po : Int32 → pa_S → Prop, wp_X5_add u (nI c) po = po (nI (z + 1)) (pa_sI (pa_sA u 11 0 (upd (pa_A u 11 0) z (nI c))) 10 0 3 (nI (z + 1))) := fun po => by
    unfold wp_X5_add wb_X5_add_0
    rw [z1, if_neg (show ¬ (100 : Int32) ≤ nI z from nI_ge (b := 100) (by omega) (by omega)), pw_and (vp_in_nI (by omega) (by omega)), nI_clamp (by omega), pw_byte hc]
    simp only [forall_eq, pI_sA, z1, pI_sI, and_self, if_true, pw_n1, nI_add]
  rw [ad]
  generalize hs1 : pa_sI (pa_sA u 11 0 (upd (pa_A u 11 0) z (nI c))) 10 0 3 (nI (z + 1)) = s1
  have z2' : pa_I s1 24 0 10 = nI z := by rw [← hs1, pI_sI, if_neg (by omega), pI_sA]; exact z2
  dsimp only
  rw [in_1 (A := 0) (B := 127) (lo := 0) (hi := 127) rfl rfl (by omega) hc (by omega), if_neg (by decide), z2', if_neg (show ¬ nI z = 100 from fun y => q ((nI_eq (b := 100) (by omega) (by omega)).mp y)), pw_and (vp_in_nI (by omega) (by omega)), nI_clamp (by omega)]
  simp only [forall_eq, pI_sA, pI_sI, and_self, if_true, z2', pw_n1, nI_add]
  refine ⟨trivial, ?_⟩
  generalize hv : pa_sI (pa_sA s1 30 0 (upd (pa_A s1 30 0) z (nI c))) 24 0 10 (nI (z + 1)) = v
  subst hs1
  have g : fr_of (fun t i k => t = 11 ∨ (t = 10 ∧ k = 3) ∨ t = 30 ∨ (t = 24 ∧ k = 10)) u v := by
    rw [← hv]
    exact fr_sI (by omega) (fr_sA (by omega) (fr_sI (by omega) (fr_sA (by omega) (fr_refl u))))
  refine ⟨w, e, N, iv_Y (fr_mono (fun t i k y => by unfold fp_Y; omega) g) hw ⟨z + 1, by omega, ?_, ?_, fun j hj => ?_⟩ (iv_a_Y g (fun t i k y => by omega) hw.2.1.2.2.2.1) (iv_p_Y g (fun t i k y => by omega) hw.2.1.2.2.2.2.1)⟩
  · rw [← hv, pI_sI, if_neg (by omega), pI_sA, pI_sI, if_pos ⟨rfl, rfl, rfl⟩]
  · rw [← hv, pI_sI, if_pos ⟨rfl, rfl, rfl⟩]
  · have e11 : pa_A v 11 0 = upd (pa_A u 11 0) z (nI c) := by rw [← hv, pA_sI, pA_sA, if_neg (by omega), pA_sI, pA_sA, if_pos ⟨rfl, rfl⟩]
    have e30 : pa_A v 30 0 = upd (pa_A u 30 0) z (nI c) := by rw [← hv, pA_sI, pA_sA, if_pos ⟨rfl, rfl⟩, pA_sI, pA_sA, if_neg (by omega)]
    rw [e11, e30, pw_upd, pw_upd]
    by_cases y : j = z
    · rw [if_pos y, if_pos y]; exact ⟨c, hc, rfl, rfl⟩
    · rw [if_neg y, if_neg y]; exact zb j (by omega)
/-! hand -/
section HAND
variable {w : pw_W} {e : pw_E} {N : Nat}
def wo_ha (w : pw_W) (k v l : Nat) : pw_W := (wo_n w + 1, (fun j => if j = wo_n w then k else wo_k w j), (fun j => if j = wo_n w then v else wo_v w j), (fun j => if j = wo_n w then 0 else wo_s w j), (fun j => if 3 * wo_n w ≤ j then l else wo_l w j), (fun j => if 4 * wo_n w ≤ j then 0 else wo_r w j), wo_i w, wo_d w, wo_b w)
theorem put_n {u : pa_S} {s n h l : Nat} {x : Int32} {po : pa_S → Prop} (hn : pa_I u 1 s 6 = nI n) (h5 : n ≤ 5) (hh : h < n) (hl : l < 3) : wp_X3_putLength u s (nI h) (nI l) x po = po (pa_sA u 5 s (upd (pa_A u 5 s) (3 * h + l) x)) := by
  have e1 : ∀ po : Int32 → Prop, wp_X3_has u s (nI h) po = po 1 := fun po => by
    unfold wp_X3_has wb_X3_has_0
    rw [hn, if_neg (nI_pos (by omega)), if_neg (nI_ge hh (by omega)), if_neg (show ¬ (5 : Int32) ≤ nI h from nI_ge (b := 5) (by omega) (by omega))]
  have e2 : ∀ po : Int32 → Prop, wp_X3_hasLine u s (nI h) (nI l) po = po 1 := fun po => by
    unfold wp_X3_hasLine wb_X3_hasLine_0
    rw [e1, if_neg (by decide), if_neg (nI_pos (by omega)), if_neg (show ¬ (3 : Int32) ≤ nI l from nI_ge (b := 3) (by omega) (by omega))]
  unfold wp_X3_putLength wb_X3_putLength_0
  rw [e2, if_neg (by decide), pw_ix3, pw_and (vp_in_nI (by omega) (by omega)), nI_clamp (by omega), forall_eq]
theorem sl_admit {n : Nat} {x : Int32} {po : Int32 → pa_S → Prop} (h5 : n < 5) :
    ∀ (k f c : Nat) (u : pa_S), c + k = 3 → k < f → pa_I u 1 0 6 = nI (n + 1) →
      (∀ v, (∀ j, pa_A v 5 0 j = if 3 * n + c ≤ j ∧ j < 3 * n + 3 then x else pa_A u 5 0 j) → fr_of (fun t i _ => t = 5 ∧ i = 0) u v → po (nI n) v) → wl_X3_admit_46 0 po f u x (nI n) (nI c) := by
  intro k
  induction k with
  | zero =>
    intro f c u eq hlt h6 hk
    obtain ⟨f, rfl⟩ : ∃ g, f = g + 1 := ⟨f - 1, by omega⟩
    obtain rfl : c = 3 := by omega
    unfold wl_X3_admit_46 wb_X3_admit_46
    rw [if_pos (by decide)]
    exact hk u (fun j => (if_neg (by omega)).symm) (fr_refl u)
  | succ k ih =>
    intro f c u eq hlt h6 hk
    obtain ⟨f, rfl⟩ : ∃ g, f = g + 1 := ⟨f - 1, by omega⟩
    unfold wl_X3_admit_46 wb_X3_admit_46
    rw [if_neg (show ¬ (3 : Int32) ≤ nI c from nI_ge (b := 3) (by omega) (by omega)), put_n h6 (by omega) (by omega) (by omega)]
    simp only [forall_eq, pw_n1, nI_add]
    refine ih f (c + 1) _ (by omega) (by omega) (by rw [pI_sA]; exact h6) (fun v hv g => hk v (fun j => ?_) (fr_trans (fr_sA ⟨rfl, rfl⟩ (fr_refl u)) g))
    rw [hv j, pa_A_sA_self, pw_upd]
    by_cases q : 3 * n + (c + 1) ≤ j ∧ j < 3 * n + 3
    · rw [if_pos q, if_pos (by omega)]
    · rw [if_neg q]
      by_cases q2 : j = 3 * n + c
      · rw [if_pos q2, if_pos (by omega)]
      · rw [if_neg q2, if_neg (by omega)]
theorem sp_admit {u : pa_S} {k v l : Nat} {po : Int32 → pa_S → Prop} (hc : wo_C u 0 w) (hq : wo_n w < 5)
    (hk : ∀ y x, fr_of (fun t i k => (t = 1 ∧ k = 6 ∧ i = 0) ∨ (t = 2 ∧ i = 0) ∨ (t = 3 ∧ i = 0)) u x → pa_I x 1 0 6 = nI (wo_n w + 1) → pa_A x 2 0 = upd (pa_A u 2 0) (wo_n w) (nI k) → pa_A x 3 0 = upd (pa_A u 3 0) (wo_n w) (nI v) →
      (∀ j, pa_A y 5 0 j = if 3 * wo_n w + 0 ≤ j ∧ j < 3 * wo_n w + 3 then nI l else pa_A x 5 0 j) → fr_of (fun t i _ => t = 5 ∧ i = 0) x y → po (nI (wo_n w)) y) : wp_X3_admit u 0 (nI k) (nI v) (nI l) po := by
  unfold wp_X3_admit wb_X3_admit_0
  rw [hc.1, if_pos (show nI (wo_n w) < 5 from nI_lt (b := 5) hq (by omega))]
  simp only [forall_eq, pw_n1, nI_add]
  rw [pw_and (vp_in_nI (by omega) (by omega)), pw_and (vp_in_nI (by omega) (by omega)), nI_clamp (by omega)]
  generalize hx : pa_sA (pa_sA (pa_sI u 1 0 6 (nI (wo_n w + 1))) 2 0 (upd (pa_A (pa_sI u 1 0 6 (nI (wo_n w + 1))) 2 0) (wo_n w) (nI k))) 3 0 (upd (pa_A (pa_sA (pa_sI u 1 0 6 (nI (wo_n w + 1))) 2 0 (upd (pa_A (pa_sI u 1 0 6 (nI (wo_n w + 1))) 2 0) (wo_n w) (nI k))) 3 0) (wo_n w) (nI v)) = x
  have gx : fr_of (fun t i k => (t = 1 ∧ k = 6 ∧ i = 0) ∨ (t = 2 ∧ i = 0) ∨ (t = 3 ∧ i = 0)) u x := by
    rw [← hx]; exact fr_sA (by omega) (fr_sA (by omega) (fr_sI (by omega) (fr_refl u)))
  have x6 : pa_I x 1 0 6 = nI (wo_n w + 1) := by rw [← hx, pI_sA, pI_sA, pI_sI, if_pos ⟨rfl, rfl, rfl⟩]
  have x2 : pa_A x 2 0 = upd (pa_A u 2 0) (wo_n w) (nI k) := by rw [← hx, pA_sA, if_neg (by omega), pA_sA, if_pos ⟨rfl, rfl⟩, pA_sI]
  have x3 : pa_A x 3 0 = upd (pa_A u 3 0) (wo_n w) (nI v) := by rw [← hx, pA_sA, if_pos ⟨rfl, rfl⟩, pA_sA, if_neg (by omega), pA_sI]
  exact sl_admit hq 3 5000 0 x (by omega) (by omega) x6 (fun y hy gy => hk y x gx x6 x2 x3 hy gy)
theorem ml_hand109 {n : Nat} {po : Int32 → pa_S → Prop} (h5 : n < 5) :
    ∀ (k f c : Nat) (u : pa_S), c + k = 4 → k < f → pa_I u 24 0 0 = nI n →
      (∀ v, pa_I v 24 0 0 = nI (n + 1) → (∀ j, pa_A v 29 0 j = if 4 * n + c ≤ j ∧ j < 4 * n + 4 then 0 else pa_A u 29 0 j) → fr_of (fun t _ k => t = 29 ∨ (t = 24 ∧ k = 0)) u v → po (nI n) v) → wl_X7_hand_109 po f u (nI c) := by
  intro k
  induction k with
  | zero =>
    intro f c u eq hlt h6 hk
    obtain ⟨f, rfl⟩ : ∃ g, f = g + 1 := ⟨f - 1, by omega⟩
    obtain rfl : c = 4 := by omega
    unfold wl_X7_hand_109 wb_X7_hand_109
    rw [if_pos (by decide), h6]
    simp only [forall_eq, pI_sI, and_self, if_true, pw_n1, nI_add]
    rw [pk_sub (by omega)]
    exact hk _ (by rw [pI_sI, if_pos ⟨rfl, rfl, rfl⟩]) (fun j => by rw [pA_sI, if_neg (by omega)]) (fr_sI (by omega) (fr_refl u))
  | succ k ih =>
    intro f c u eq hlt h6 hk
    obtain ⟨f, rfl⟩ : ∃ g, f = g + 1 := ⟨f - 1, by omega⟩
    unfold wl_X7_hand_109 wb_X7_hand_109
    rw [if_neg (show ¬ (4 : Int32) ≤ nI c from nI_ge (b := 4) (by omega) (by omega)), h6, pw_n4, pk_mul, nI_add, pw_and (vp_in_nI (by omega) (by omega)), nI_clamp (by omega)]
    simp only [forall_eq, pw_n1, nI_add]
    refine ih f (c + 1) _ (by omega) (by omega) (by rw [pI_sA]; exact h6) (fun v hv0 hv g => hk v hv0 (fun j => ?_) (fr_trans (fr_sA (Or.inl rfl) (fr_refl u)) g))
    rw [hv j, pa_A_sA_self, pw_upd]
    by_cases q : 4 * n + (c + 1) ≤ j ∧ j < 4 * n + 4
    · rw [if_pos q, if_pos (by omega)]
    · rw [if_neg q]
      by_cases q2 : j = 4 * n + c
      · rw [if_pos q2, if_pos (by omega)]
      · rw [if_neg q2, if_neg (by omega)]
theorem ml_hand79 {n : Nat} {x : Int32} {po : Int32 → pa_S → Prop} (h5 : n < 5) :
    ∀ (k f c : Nat) (u : pa_S), c + k = 3 → k < f → pa_I u 24 0 0 = nI n →
      (∀ v, pa_I v 24 0 0 = nI (n + 1) → (∀ j, pa_A v 28 0 j = if 3 * n + c ≤ j ∧ j < 3 * n + 3 then x else pa_A u 28 0 j) → (∀ j, pa_A v 29 0 j = if 4 * n + 0 ≤ j ∧ j < 4 * n + 4 then 0 else pa_A u 29 0 j) → fr_of (fun t _ k => t = 28 ∨ t = 29 ∨ (t = 24 ∧ k = 0)) u v → po (nI n) v) → wl_X7_hand_79 po f u x (nI c) := by
  intro k
  induction k with
  | zero =>
    intro f c u eq hlt h6 hk
    obtain ⟨f, rfl⟩ : ∃ g, f = g + 1 := ⟨f - 1, by omega⟩
    obtain rfl : c = 3 := by omega
    unfold wl_X7_hand_79 wb_X7_hand_79
    rw [if_pos (by decide), pw_n0]
    exact ml_hand109 h5 4 5000 0 u (by omega) (by omega) h6 (fun v hv0 hv g => hk v hv0 (fun j => by rw [g.2.1 28 0 (by omega), if_neg (by omega)]) hv (fr_mono (fun _ _ _ y => by omega) g))
  | succ k ih =>
    intro f c u eq hlt h6 hk
    obtain ⟨f, rfl⟩ : ∃ g, f = g + 1 := ⟨f - 1, by omega⟩
    unfold wl_X7_hand_79 wb_X7_hand_79
    rw [if_neg (show ¬ (3 : Int32) ≤ nI c from nI_ge (b := 3) (by omega) (by omega)), h6, pw_n3, pk_mul, nI_add, pw_and (vp_in_nI (by omega) (by omega)), nI_clamp (by omega)]
    simp only [forall_eq, pw_n1, nI_add]
    refine ih f (c + 1) _ (by omega) (by omega) (by rw [pI_sA]; exact h6) (fun v hv0 hv hv2 g => hk v hv0 (fun j => ?_) (fun j => ?_) (fr_trans (fr_sA (Or.inl rfl) (fr_refl u)) g))
    · rw [hv j, pa_A_sA_self, pw_upd]
      by_cases q : 3 * n + (c + 1) ≤ j ∧ j < 3 * n + 3
      · rw [if_pos q, if_pos (by omega)]
      · rw [if_neg q]
        by_cases q2 : j = 3 * n + c
        · rw [if_pos q2, if_pos (by omega)]
        · rw [if_neg q2, if_neg (by omega)]
    · rw [hv2 j, pa_A_sA_ne (by omega)]
end HAND
theorem case_k0 {u : pa_S} {a1 a2 a3 a4 a5 : Int32} (hi : iv_I u) : pa_case iv_I u a1 a2 a3 a4 a5 0 := by
  have hi0 := hi
  obtain ⟨w, e, N, hw⟩ := hi
  have hf := iv_F hw
  have h5 := hf.1
  show wp_X6_hand u a1 a2 a3 _
  have X : ∀ (v : pa_S) po, wp_X7_hand v a1 a2 a3 po = wb_X7_hand_0 v a1 a2 a3 po := fun _ _ => rfl
  simp only [X]
  unfold wp_X6_hand wb_X6_hand_0 wb_X7_hand_0
  rcases rg_01 a1 0 6 (by omega) (by omega) with ⟨k, _, hk, rfl⟩ | hk
  rotate_left
  · rw [wi_0 (A := 0) (B := 6) (lo := 0) (hi := 6) rfl rfl hk, if_pos rfl]; dsimp only
    rw [in_0 (A := 0) (B := 6) (lo := 0) (hi := 6) rfl rfl hk, if_pos rfl]
    exact ⟨rfl, hi0⟩
  rw [wi_1 (A := 0) (B := 6) (lo := 0) (hi := 6) rfl rfl (by omega) hk (by omega), if_neg (by decide)]
  rcases rg_01 a2 0 9 (by omega) (by omega) with ⟨v, _, hv, rfl⟩ | hv
  rotate_left
  · rw [wi_0 (A := 0) (B := 9) (lo := 0) (hi := 9) rfl rfl hv, if_pos rfl]; dsimp only
    rw [in_1 (A := 0) (B := 6) (lo := 0) (hi := 6) rfl rfl (by omega) hk (by omega), if_neg (by decide), in_0 (A := 0) (B := 9) (lo := 0) (hi := 9) rfl rfl hv, if_pos rfl]
    exact ⟨rfl, hi0⟩
  rw [wi_1 (A := 0) (B := 9) (lo := 0) (hi := 9) rfl rfl (by omega) hv (by omega), if_neg (by decide)]
  rcases rg_01 a3 0 60 (by omega) (by omega) with ⟨l, _, hl, rfl⟩ | hl
  rotate_left
  · rw [wi_0 (A := 0) (B := 60) (lo := 0) (hi := 60) rfl rfl hl, if_pos rfl]; dsimp only
    rw [in_1 (A := 0) (B := 6) (lo := 0) (hi := 6) rfl rfl (by omega) hk (by omega), if_neg (by decide), in_1 (A := 0) (B := 9) (lo := 0) (hi := 9) rfl rfl (by omega) hv (by omega), if_neg (by decide), ig_0 hl, if_pos rfl]
    exact ⟨rfl, hi0⟩
  rw [wi_1 (A := 0) (B := 60) (lo := 0) (hi := 60) rfl rfl (by omega) hl (by omega), if_neg (by decide), (iv_C hw).1]
  by_cases q : wo_n w = 5
  · rw [if_neg (show ¬ nI (wo_n w) < 5 by rw [q]; decide)]; dsimp only
    rw [in_1 (A := 0) (B := 6) (lo := 0) (hi := 6) rfl rfl (by omega) hk (by omega), if_neg (by decide), in_1 (A := 0) (B := 9) (lo := 0) (hi := 9) rfl rfl (by omega) hv (by omega), if_neg (by decide), ig_1 hl, if_neg (by decide), (iv_M hw).1, if_pos (show nI (wo_n w) = 5 by rw [q]; rfl)]
    exact ⟨rfl, hi0⟩
  have hq : wo_n w < 5 := by omega
  rw [if_pos (show nI (wo_n w) < 5 from nI_lt (b := 5) hq (by omega))]
  refine sp_admit (iv_C hw) hq (fun y x gx x6 x2 x3 hy gy => ?_)
  have guy : fr_of (fun t i k => (t = 1 ∧ k = 6 ∧ i = 0) ∨ (t = 2 ∧ i = 0) ∨ (t = 3 ∧ i = 0) ∨ (t = 5 ∧ i = 0)) u y := fr_trans (fr_mono (fun t i k y => by omega) gx) (fr_mono (fun t i k y => by omega) gy)
  have gC : fr_of fp_C0 u y := fr_mono (fun t i k z => by unfold fp_C0; omega) guy
  have hm1 := wo_M_C0 gC (iv_M hw)
  dsimp only
  rw [in_1 (A := 0) (B := 6) (lo := 0) (hi := 6) rfl rfl (by omega) hk (by omega), if_neg (by decide), in_1 (A := 0) (B := 9) (lo := 0) (hi := 9) rfl rfl (by omega) hv (by omega), if_neg (by decide), ig_1 hl, if_neg (by decide), hm1.1, if_neg (show ¬ nI (wo_n w) = 5 from fun z => q ((nI_eq (b := 5) (by omega) (by omega)).mp z)), pw_and (vp_in_nI (by omega) (by omega)), nI_clamp (by omega)]
  simp only [forall_eq, pI_sA, hm1.1]
  rw [pw_and (vp_in_nI (by omega) (by omega)), pw_and (vp_in_nI (by omega) (by omega)), nI_clamp (by omega)]
  generalize hX : pa_sA (pa_sA (pa_sA y 25 0 (upd (pa_A y 25 0) (wo_n w) (nI k))) 26 0 (upd (pa_A (pa_sA y 25 0 (upd (pa_A y 25 0) (wo_n w) (nI k))) 26 0) (wo_n w) (nI v))) 27 0 (upd (pa_A (pa_sA (pa_sA y 25 0 (upd (pa_A y 25 0) (wo_n w) (nI k))) 26 0 (upd (pa_A (pa_sA y 25 0 (upd (pa_A y 25 0) (wo_n w) (nI k))) 26 0) (wo_n w) (nI v))) 27 0) (wo_n w) 0) = x'
  have gx' : fr_of (fun t i k => t = 25 ∨ t = 26 ∨ t = 27) y x' := by
    rw [← hX]; exact fr_sA (by omega) (fr_sA (by omega) (fr_sA (by omega) (fr_refl y)))
  have y25 : pa_A x' 25 0 = upd (pa_A y 25 0) (wo_n w) (nI k) := by rw [← hX, pA_sA, if_neg (by omega), pA_sA, if_neg (by omega), pA_sA, if_pos ⟨rfl, rfl⟩]
  have y26 : pa_A x' 26 0 = upd (pa_A y 26 0) (wo_n w) (nI v) := by rw [← hX, pA_sA, if_neg (by omega), pA_sA, if_pos ⟨rfl, rfl⟩, pA_sA, if_neg (by omega)]
  have y27 : pa_A x' 27 0 = upd (pa_A y 27 0) (wo_n w) 0 := by rw [← hX, pA_sA, if_pos ⟨rfl, rfl⟩, pA_sA, if_neg (by omega), pA_sA, if_neg (by omega)]
  refine ml_hand79 hq 3 5000 0 x' (by omega) (by omega) (by rw [gx'.1 24 0 0 (by omega)]; exact hm1.1) (fun z hz0 hz1 hz2 gz => ⟨rfl, ?_⟩)
  have gyz : fr_of (fun t i k => (25 ≤ t ∧ t ≤ 29) ∨ (t = 24 ∧ k = 0)) y z := fr_trans (fr_mono (fun t i k q => by omega) gx') (fr_mono (fun t i k q => by omega) gz)
  have gM : fr_of fp_M0 y z := fr_mono (fun t i k q => by unfold fp_M0; omega) gyz
  have hc := iv_C hw
  obtain ⟨⟨_, hd, _, _, hz⟩, hr, hll, hnn⟩ := hw
  refine iv_mk (w' := wo_ha w k v l) hr hll (fr_trans (fr_mono (fun _ _ _ z => fp_CX z) gC) (fr_mono (fun _ _ _ z => fp_MX z) gM)) ⟨⟨?_, fun h hh => ?_, fun j hj => ?_, fun j hj => ?_, hf.2.2.2.2.1, hf.2.2.2.2.2⟩, hd, ?_, ?_, ?_, ?_⟩ (show wo_n w ≤ wo_n w + 1 by omega) (fun s hs => ?_)
  · show wo_n w + 1 ≤ 5
    omega
  · show (if h = wo_n w then k else wo_k w h) ≤ 6 ∧ (if h = wo_n w then v else wo_v w h) ≤ 9 ∧ (if h = wo_n w then 0 else wo_s w h) ≤ 9999
    have hh : h < wo_n w + 1 := hh
    by_cases y : h = wo_n w
    · rw [if_pos y, if_pos y, if_pos y]; omega
    · rw [if_neg y, if_neg y, if_neg y]; exact hf.2.1 h (by omega)
  · show (if 3 * wo_n w ≤ j then l else wo_l w j) ≤ 60
    by_cases y : 3 * wo_n w ≤ j
    · rw [if_pos y]; exact hl
    · rw [if_neg y]; exact hf.2.2.1 j (by omega)
  · show (if 4 * wo_n w ≤ j then 0 else wo_r w j) ≤ 9
    by_cases y : 4 * wo_n w ≤ j
    · rw [if_pos y]; omega
    · rw [if_neg y]; exact hf.2.2.2.1 j (by omega)
  · refine wo_C_M0 gM ?_
    obtain ⟨c1, c2, c3, c4, c5, c6, c7, c8⟩ := hc
    refine ⟨?_, ?_, ?_, ?_, ?_, fun h hh => ?_, fun j hj => ?_, fun j hj => ?_⟩
    · rw [gy.1 1 0 6 (by omega)]; exact x6
    · rw [guy.1 1 0 7 (by omega)]; exact c2
    · rw [guy.1 1 0 8 (by omega)]; exact c3
    · rw [guy.2.2.2 1 0 (by omega)]; exact c4
    · rw [guy.2.2.2 70 0 (by omega)]; exact c5
    · have hh : h < wo_n w + 1 := hh
      rw [gy.2.1 2 0 (by omega), gy.2.1 3 0 (by omega), guy.2.1 4 0 (by omega), x2, x3, pw_upd, pw_upd]
      show _ = nI (if h = wo_n w then k else wo_k w h) ∧ _ = nI (if h = wo_n w then v else wo_v w h) ∧ _ = nI (if h = wo_n w then 0 else wo_s w h)
      by_cases y : h = wo_n w
      · rw [if_pos y, if_pos y, if_pos y, if_pos y, if_pos y]
        exact ⟨rfl, rfl, hz.1 h (by omega) (by omega)⟩
      · rw [if_neg y, if_neg y, if_neg y, if_neg y, if_neg y]
        exact c6 h (by omega)
    · have hj : j < 3 * (wo_n w + 1) := hj
      rw [hy j]
      show _ = nI (if 3 * wo_n w ≤ j then l else wo_l w j)
      by_cases y : 3 * wo_n w ≤ j
      · rw [if_pos y, if_pos (by omega)]
      · rw [if_neg y, if_neg (by omega), gx.2.1 5 0 (by omega)]
        exact c7 j (by omega)
    · have hj : j < 4 * (wo_n w + 1) := hj
      rw [guy.2.1 6 0 (by omega)]
      show _ = nI (if 4 * wo_n w ≤ j then 0 else wo_r w j)
      by_cases y : 4 * wo_n w ≤ j
      · rw [if_pos y]; exact hz.2 j (by omega) (by omega)
      · rw [if_neg y]; exact c8 j (by omega)
  · obtain ⟨c1, c2, c3, c4, c6, c7, c8⟩ := hm1
    refine ⟨hz0, ?_, ?_, ?_, fun h hh => ?_, fun j hj => ?_, fun j hj => ?_⟩
    · rw [gyz.1 24 0 2 (by omega)]; exact c2
    · rw [gyz.1 24 0 1 (by omega)]; exact c3
    · rw [gyz.1 24 0 9 (by omega)]; exact c4
    · have hh : h < wo_n w + 1 := hh
      rw [gz.2.1 25 0 (by omega), gz.2.1 26 0 (by omega), gz.2.1 27 0 (by omega), y25, y26, y27, pw_upd, pw_upd, pw_upd]
      show _ = nI (if h = wo_n w then k else wo_k w h) ∧ _ = nI (if h = wo_n w then v else wo_v w h) ∧ _ = nI (if h = wo_n w then 0 else wo_s w h)
      by_cases y : h = wo_n w
      · rw [if_pos y, if_pos y, if_pos y, if_pos y, if_pos y, if_pos y]
        exact ⟨rfl, rfl, rfl⟩
      · rw [if_neg y, if_neg y, if_neg y, if_neg y, if_neg y, if_neg y]
        exact c6 h (by omega)
    · have hj : j < 3 * (wo_n w + 1) := hj
      rw [hz1 j]
      show _ = nI (if 3 * wo_n w ≤ j then l else wo_l w j)
      by_cases y : 3 * wo_n w ≤ j
      · rw [if_pos y, if_pos (by omega)]
      · rw [if_neg y, if_neg (by omega), gx'.2.1 28 0 (by omega)]
        exact c7 j (by omega)
    · have hj : j < 4 * (wo_n w + 1) := hj
      rw [hz2 j]
      show _ = nI (if 4 * wo_n w ≤ j then 0 else wo_r w j)
      by_cases y : 4 * wo_n w ≤ j
      · rw [if_pos y, if_pos (by omega)]; rfl
      · rw [if_neg y, if_neg (by omega), gx'.2.1 29 0 (by omega)]
        exact c8 j (by omega)
  · intro h hh hh2
    have hh : wo_n w + 1 ≤ h := hh
    rw [gyz.2.1 4 0 (by omega), guy.2.1 4 0 (by omega)]
    exact hz.1 h (by omega) hh2
  · intro j hj hj2
    have hj : 4 * (wo_n w + 1) ≤ j := hj
    rw [gyz.2.1 6 0 (by omega), guy.2.1 6 0 (by omega)]
    exact hz.2 j (by omega) hj2
  · rw [gyz.2.2.2 1 s (by omega), guy.2.2.2 1 s (by omega)]
    exact hnn s hs
/-! judge -/
theorem pw_far {m r z : Nat} (hm : m < 2 ^ 31) (hr : r ≤ 100) (hz : z ≤ 60) (h : z ≤ m + r) : nI m + nI r < 0 ∨ nI z ≤ nI m + nI r := by
  have e : (nI m + nI r).toInt = ((m : Int) + r).bmod (2 ^ 32) := by rw [Int32.toInt_add, nI_toInt hm, nI_toInt (by omega)]
  rw [Int32.lt_iff_toInt_lt, Int32.le_iff_toInt_le, nI_toInt (by omega), show (0 : Int32).toInt = 0 by decide, e]
  by_cases q : m + r < 2 ^ 31
  · right
    rw [Int.bmod_eq_of_le (by omega) (by omega)]
    omega
  · left
    have e2 : ((m : Int) + r).bmod (2 ^ 32) = ((m : Int) + r - 2 ^ 32) := by
      rw [Int.bmod_def]
      rw [if_neg (by omega)]
      omega
    rw [e2]
    omega
theorem pw_jl {m r z : Nat} (hm : m < 2 ^ 31) (hr : r ≤ 100) (hz : z ≤ 60) : (nI m ≤ nI z - nI r - 1) = (m + r < z) := by
  have e1 : (nI z - nI r).toInt = (z : Int) - r := pk_sub_toInt (by omega) (by omega)
  have e2 : (nI z - nI r - 1).toInt = (z : Int) - r - 1 := by
    rw [Int32.toInt_sub, e1, show (1 : Int32).toInt = 1 by decide]
    exact Int.bmod_eq_of_le (by omega) (by omega)
  rw [Int32.le_iff_toInt_le, e2, nI_toInt hm]
  exact propext ⟨fun h => by omega, fun h => by omega⟩
theorem at_1 {u : pa_S} {t z i : Nat} {po : Int64 → Prop} (hz : z ≤ 60) (h : pa_I u 19 t 2 = nI z) (hi : i < z) : wp_X4_at u t (nI i) po = po (pa_L u 20 t i) := by
  unfold wp_X4_at wb_X4_at_0
  rw [hp_1 hz h hi, if_neg (by decide), pw_and (vp_in_nI (by omega) (by omega)), nI_clamp (by omega)]
def jd_r (w : pw_W) (u : pa_S) (t m z : Nat) : Nat → Nat → Int32
  | 0, _ => -5
  | k + 1, r => if m + r < z then (if lg_cmp (pa_L u 20 t (m + r)) (nI (wo_l w r)).toInt64 = 0 then jd_r w u t m z k (r + 1) else nI r) else nI (100 + r)
section JUDGE
variable {w : pw_W}
theorem sl_judge {u : pa_S} {t m z : Nat} {po : Int32 → Prop} (hf : wo_WF w) (hc : wo_C u 0 w) (hz : z ≤ 60) (h1 : pa_I u 19 t 2 = nI z) (hm : m < 2 ^ 31) :
    ∀ (k f r : Nat), r + k = 3 * wo_n w → k < f → wl_X6_judge_36 po u f t (nI m) (nI r) = po (jd_r w u t m z k r) := by
  intro k
  have h5 := hf.1
  induction k with
  | zero =>
    intro f r eq hlt
    obtain ⟨f, rfl⟩ : ∃ g, f = g + 1 := ⟨f - 1, by omega⟩
    unfold wl_X6_judge_36 wb_X6_judge_36
    rw [hc.1, pw_n3, pk_mul, if_pos (nI_le (by omega) (by omega))]
    rfl
  | succ k ih =>
    intro f r eq hlt
    obtain ⟨f, rfl⟩ : ∃ g, f = g + 1 := ⟨f - 1, by omega⟩
    unfold wl_X6_judge_36 wb_X6_judge_36
    rw [hc.1, pw_n3, pk_mul, if_neg (nI_ge (by omega) (by omega)), if_neg (nI_pos hm)]
    unfold jd_r
    by_cases q : m + r < z
    · rw [if_pos q, nI_add, hp_1 hz h1 q, if_neg (by decide)]
      rw [at_1 hz h1 q, pk_div (by omega) (by omega) (by omega), pw_rem (by omega) (by omega) (by omega), sp_lengthOf hf hc (show r / 3 < wo_n w by omega) (show r % 3 < 3 by omega), show 3 * (r / 3) + r % 3 = r by omega]
      by_cases q2 : lg_cmp (pa_L u 20 t (m + r)) (nI (wo_l w r)).toInt64 = 0
      · rw [if_pos q2, if_pos q2]
        simp only [forall_eq, pw_n1, nI_add]
        exact ih f (r + 1) (by omega) (by omega)
      · rw [if_neg q2, if_neg q2]
    · rw [if_neg q, hp_0 h1 (pw_far hm (by omega) hz (by omega)), if_pos rfl, pw_n100, nI_add]
theorem ml_judge {u : pa_S} {t m z : Nat} {po : Int32 → Prop} (hf : wo_WF w) (hc : wo_M u w) (ht : t ≤ 5) (hz : z ≤ 60) (h1 : pa_A u 65 0 t = nI z) (h2 : ¬ pa_A u 64 0 t < 0 ∨ z = 0) (hi : ∀ j, j < 60 → pa_L u 20 t j = pa_L u 66 0 (60 * t + j)) (hm : m < 2 ^ 31) :
    ∀ (k f r : Nat), r + k = 3 * wo_n w → k < f → wl_X7_judge_24 po u f (nI t) (nI m) (nI r) = po (jd_r w u t m z k r) := by
  intro k
  have h5 := hf.1
  induction k with
  | zero =>
    intro f r eq hlt
    obtain ⟨f, rfl⟩ : ∃ g, f = g + 1 := ⟨f - 1, by omega⟩
    unfold wl_X7_judge_24 wb_X7_judge_24
    rw [hc.1, pw_n3, pk_mul, if_pos (nI_le (by omega) (by omega))]
    rfl
  | succ k ih =>
    intro f r eq hlt
    obtain ⟨f, rfl⟩ : ∃ g, f = g + 1 := ⟨f - 1, by omega⟩
    unfold wl_X7_judge_24 wb_X7_judge_24
    rw [hc.1, pw_n3, pk_mul, if_neg (nI_ge (by omega) (by omega)), pw_and (vp_in_nI (by omega) (by omega)), nI_clamp (by omega), h1]
    unfold jd_r
    by_cases q0 : pa_A u 64 0 t < 0
    · have q9 : ¬ m + r < z := by
        rcases h2 with h | h
        · exact absurd q0 h
        · omega
      rw [if_pos q0, if_neg q9, pw_n100, nI_add]
    · rw [if_neg q0, if_neg (nI_pos hm), pw_and (vp_in_nI (by omega) (by omega))]
      have jl := pw_jl hm (show r ≤ 100 by omega) hz
      by_cases q : m + r < z
      · rw [if_pos (show nI m ≤ nI z - nI r - 1 by rw [jl]; exact q), if_pos q, show (60 : Int32) * nI t + nI m + nI r = nI (60 * t + m + r) by rw [pw_n60, pk_mul, nI_add, nI_add], pw_and (vp_in_nI (by omega) (by omega)), pw_and (vp_in_nI (by omega) (by omega)), nI_clamp (by omega), nI_clamp (by omega), hc.2.2.2.2.2.1 r (by omega), show 60 * t + m + r = 60 * t + (m + r) by omega, ← hi (m + r) (by omega)]
        by_cases q2 : lg_cmp (pa_L u 20 t (m + r)) (nI (wo_l w r)).toInt64 = 0
        · rw [if_pos q2, if_pos q2]
          simp only [forall_eq, pw_n1, nI_add]
          exact ih f (r + 1) (by omega) (by omega)
        · rw [if_neg q2, if_neg q2]
      · rw [if_neg (show ¬ nI m ≤ nI z - nI r - 1 by rw [jl]; exact q), if_neg q, pw_n100, nI_add]
end JUDGE
theorem case_k26 {u : pa_S} {a1 a2 a3 a4 a5 : Int32} (hi : iv_I u) : pa_case iv_I u a1 a2 a3 a4 a5 26 := by
  have hi0 := hi
  obtain ⟨w, e, N, hw⟩ := hi
  have hf := iv_F hw
  have h5 := hf.1
  show wp_X6_judge u a1 a2 _
  have X : ∀ (v : pa_S) po, wp_X7_judge v a1 a2 po = wb_X7_judge_0 v a1 a2 po := fun _ _ => rfl
  simp only [X]
  unfold wp_X6_judge wb_X6_judge_0 wb_X7_judge_0
  rcases rg_01 a1 0 5 (by omega) (by omega) with ⟨t, _, ht, rfl⟩ | ht
  rotate_left
  · rw [it_0 ht, if_pos rfl]; dsimp only
    rw [mt_0 ht, if_pos rfl]
    exact ⟨rfl, hi0⟩
  obtain ⟨z, hz, z1, z2, z3, z4, z5⟩ := hw.2.1.2.2.2.2.1 t (by omega)
  rw [it_1 ht, if_neg (by decide), pw_and (vp_in_nI (by omega) (by omega)), nI_clamp (by omega)]
  -- both loops
  have L6 : ∀ po : Int32 → Prop, (∀ y, wl_X7_judge_24 (fun r' => y = r' ∧ iv_I u) u 5000 (nI t) a2 0 → po y) → (pa_A u 64 0 t = -1 ∧ z = 0 ∨ pa_A u 64 0 t = 0) → wb_X6_judge_33 u t a2 po := by
    intro po hpo h64
    have h2 : ¬ pa_A u 64 0 t < 0 ∨ z = 0 := by
      rcases h64 with h | h
      · exact Or.inr h.2
      · exact Or.inl (by rw [h]; decide)
    unfold wb_X6_judge_33
    by_cases q : a2 < 0
    · unfold wl_X6_judge_36 wb_X6_judge_36
      rw [(iv_C hw).1, pw_n3, pk_mul]
      by_cases n0 : wo_n w = 0
      · rw [n0, if_pos (by decide)]
        refine hpo _ ?_
        unfold wl_X7_judge_24 wb_X7_judge_24
        rw [(iv_M hw).1, n0, pw_n3, pk_mul, if_pos (by decide)]
        exact ⟨rfl, hi0⟩
      · rw [if_neg (show ¬ nI (wo_n w * 3) ≤ 0 from nI_nle (by omega) (by omega)), if_pos q]
        refine hpo _ ?_
        unfold wl_X7_judge_24 wb_X7_judge_24
        rw [(iv_M hw).1, pw_n3, pk_mul, if_neg (show ¬ nI (3 * wo_n w) ≤ 0 from nI_nle (by omega) (by omega)), pw_and (vp_in_nI (by omega) (by omega)), nI_clamp (by omega), if_pos q]
        by_cases q0 : pa_A u 64 0 t < 0
        · rw [if_pos q0]; exact ⟨rfl, hi0⟩
        · rw [if_neg q0]; exact ⟨rfl, hi0⟩
    · obtain ⟨m, hm, rfl⟩ := nI_of q
      rw [pw_n0, sl_judge hf (iv_C hw) hz z1 hm (3 * wo_n w) 5000 0 (by omega) (by omega)]
      refine hpo _ ?_
      rw [pw_n0, ml_judge hf (iv_M hw) ht hz z2 h2 z5 hm (3 * wo_n w) 5000 0 (by omega) (by omega)]
      exact ⟨rfl, hi0⟩
  have hnl : ∀ po : Int32 → Prop, wp_X4_holdsNothing u t po = if pa_A u 64 0 t = -1 then po 1 else po 0 := fun po => by
    unfold wp_X4_holdsNothing wb_X4_holdsNothing_0
    rw [z3]
  rw [hnl]
  rcases z4 with ⟨q, q0⟩ | ⟨s, hs, q⟩
  · rw [if_pos q, if_neg (by decide)]
    refine L6 _ (fun y hy => ?_) (Or.inl ⟨q, q0⟩)
    dsimp only
    rw [mt_1 ht, if_neg (by decide), pw_and (vp_in_nI (by omega) (by omega)), if_pos (by rw [q]; decide)]
    exact hy
  · rw [if_neg (show ¬ pa_A u 64 0 t = -1 by rw [q]; intro y; have := (pw_m1gt (n := s) (by omega)).2; rw [y] at this; exact absurd this (by decide)), if_pos rfl]
    by_cases s0 : s = 0
    · subst s0
      rw [z3, if_pos (show pa_A u 64 0 t = 0 from q)]
      refine L6 _ (fun y hy => ?_) (Or.inr q)
      dsimp only
      rw [mt_1 ht, if_neg (by decide), pw_and (vp_in_nI (by omega) (by omega)), if_pos (by rw [q]; decide)]
      exact hy
    · rw [z3, if_neg (show ¬ pa_A u 64 0 t = 0 by rw [q]; exact nI_ne0 (by omega) (by omega))]
      dsimp only
      rw [mt_1 ht, if_neg (by decide), pw_and (vp_in_nI (by omega) (by omega)), if_neg (show ¬ pa_A u 64 0 t ≤ 0 by rw [q]; exact nI_nle (by omega) (by omega))]
      exact ⟨rfl, hi0⟩
