/-! tapes: tape, item, shift -/
def fp_T (t i k : Nat) : Prop := t = 19 ∨ t = 20 ∨ (64 ≤ t ∧ t ≤ 67)
section TAPE2
variable {u v : pa_S} {w : pw_W} {e : pw_E} {N : Nat}
theorem iv_T (h : fr_of fp_T u v) (z : iv_at u w e N) (hp : iv_p v) : iv_I v :=
  ⟨w, e, N, iv_Y (fr_mono (fun t i k y => by unfold fp_T at y; unfold fp_Y; omega) h) z (iv_t_Y h (fun t i k y => by unfold fp_T at y; omega) z.2.1.2.1) (iv_a_Y h (fun t i k y => by unfold fp_T at y; omega) z.2.1.2.2.2.1) hp⟩
theorem sl_fill {t : Nat} {x4 : Int32} {po : pa_S → Prop} (h60 : x4 = nI 60) :
    ∀ (k f j : Nat) (u : pa_S), j + k = 60 → k < f →
      (∀ v, (∀ i, pa_L v 20 t i = if j ≤ i ∧ i < 60 then 0 else pa_L u 20 t i) → fr_of (fun tt i k => tt = 20 ∧ i = t) u v → po v) → wl_J7_fill_d0a16_6 t po f u 0 (nI j) x4 := by
  intro k
  subst h60
  induction k with
  | zero =>
    intro f j u eq hlt hk
    obtain ⟨f, rfl⟩ : ∃ g, f = g + 1 := ⟨f - 1, by omega⟩
    unfold wl_J7_fill_d0a16_6 wb_J7_fill_d0a16_6
    rw [if_pos (nI_le (by omega) (by omega))]
    exact hk u (fun i => (if_neg (by omega)).symm) (fr_refl u)
  | succ k ih =>
    intro f j u eq hlt hk
    obtain ⟨f, rfl⟩ : ∃ g, f = g + 1 := ⟨f - 1, by omega⟩
    unfold wl_J7_fill_d0a16_6 wb_J7_fill_d0a16_6
    rw [if_neg (nI_ge (by omega) (by omega)), pw_and (vp_in_nI (by omega) (by omega)), nI_clamp (by omega)]
    simp only [forall_eq, pw_n1, nI_add]
    refine ih f (j + 1) _ (by omega) (by omega) (fun v hv g => hk v (fun i => ?_) (fr_trans (fr_sL ⟨rfl, rfl⟩ (fr_refl u)) g))
    rw [hv i, pL_sL, if_pos (show (20 = 20 ∧ t = t) from ⟨rfl, rfl⟩), pw_updL]
    by_cases q : j + 1 ≤ i ∧ i < 60
    · rw [if_pos q, if_pos (by omega)]
    · rw [if_neg q]
      by_cases q2 : i = j
      · rw [if_pos q2, if_pos (by omega)]
      · rw [if_neg q2, if_neg (by omega)]
theorem sp_tbecome {t n : Nat} {s x2 : Int32} {po : pa_S → Prop} (hn : pa_max 0 (pa_min x2 60) = nI n)
    (hk : ∀ v, pa_I v 19 t 1 = s → pa_I v 19 t 2 = nI n → (∀ i, i < 60 → pa_L v 20 t i = 0) → fr_of (fun tt i k => (tt = 19 ∨ tt = 20) ∧ i = t) u v → po v) : wp_X4_become u t s x2 po := by
  unfold wp_X4_become wb_X4_become_0
  simp only [forall_eq]
  rw [hn]
  unfold wp_J7_fill_d0a16 wb_J7_fill_d0a16_0
  refine sl_fill (x4 := 60) rfl 60 5000 0 _ (by omega) (by omega) (fun v hv g => hk v ?_ ?_ (fun i hi => by rw [hv i, if_pos (by omega)]) (fr_trans (fr_sI ⟨Or.inl rfl, rfl⟩ (fr_sI ⟨Or.inl rfl, rfl⟩ (fr_refl u))) (fr_mono (fun tt i k y => ⟨Or.inr y.1, y.2⟩) g)))
  · rw [g.1 19 t 1 (by omega), pI_sI, if_neg (by omega), pI_sI, if_pos ⟨rfl, rfl, rfl⟩]
  · rw [g.1 19 t 2 (by omega), pI_sI, if_pos ⟨rfl, rfl, rfl⟩]
theorem ml_tape {t : Nat} {po : Int32 → pa_S → Prop} (ht : t ≤ 5) :
    ∀ (k f j : Nat) (u : pa_S), j + k = 60 → k < f →
      (∀ v, (∀ i, pa_L v 66 0 i = if 60 * t + j ≤ i ∧ i < 60 * t + 60 then 0 else pa_L u 66 0 i) → fr_of (fun tt i k => tt = 66) u v → po 1 v) → wl_X7_tape_69 po f u (nI t) (nI j) := by
  intro k
  induction k with
  | zero =>
    intro f j u eq hlt hk
    obtain ⟨f, rfl⟩ : ∃ g, f = g + 1 := ⟨f - 1, by omega⟩
    unfold wl_X7_tape_69 wb_X7_tape_69
    rw [if_pos (show (60 : Int32) ≤ nI j from nI_le (a := 60) (by omega) (by omega))]
    exact hk u (fun i => (if_neg (by omega)).symm) (fr_refl u)
  | succ k ih =>
    intro f j u eq hlt hk
    obtain ⟨f, rfl⟩ : ∃ g, f = g + 1 := ⟨f - 1, by omega⟩
    unfold wl_X7_tape_69 wb_X7_tape_69
    rw [if_neg (show ¬ (60 : Int32) ≤ nI j from nI_ge (b := 60) (by omega) (by omega)), show (60 : Int32) * nI t + nI j = nI (60 * t + j) by rw [pw_n60, pk_mul, nI_add], pw_and (vp_in_nI (by omega) (by omega)), nI_clamp (by omega)]
    simp only [forall_eq, pw_n1, nI_add]
    refine ih f (j + 1) _ (by omega) (by omega) (fun v hv g => hk v (fun i => ?_) (fr_trans (fr_sL rfl (fr_refl u)) g))
    rw [hv i, pL_sL, if_pos (show (66 = 66 ∧ 0 = 0) from ⟨rfl, rfl⟩), pw_updL]
    by_cases q : 60 * t + (j + 1) ≤ i ∧ i < 60 * t + 60
    · rw [if_pos q, if_pos (by omega)]
    · rw [if_neg q]
      by_cases q2 : i = 60 * t + j
      · rw [if_pos q2, if_pos (by omega)]
      · rw [if_neg q2, if_neg (by omega)]
/-- a tape becomes n of sort s, on both sides -/
theorem tp_end {t n : Nat} {s x3 : Int32} (hw : iv_at u w e N) (ht : t ≤ 5) (hn : n ≤ 60) (hs : (s = -1 ∧ n = 0) ∨ ((∃ c, c ≤ 4 ∧ s = nI c) ∧ x3 = nI n))
    (h1 : pa_I v 19 t 1 = s) (h2 : pa_I v 19 t 2 = nI n) (h3 : ∀ i, i < 60 → pa_L v 20 t i = 0) (g : fr_of (fun tt i k => (tt = 19 ∨ tt = 20) ∧ i = t) u v) :
    wb_X7_tape_44 v (nI t) s x3 (fun r' u2 => (1 : Int32) = r' ∧ iv_I u2) := by
  have fin : wb_X7_tape_65 (pa_sA v 64 0 (upd (pa_A v 64 0) t s)) (nI t) (nI t) (nI n) (fun r' u2 => (1 : Int32) = r' ∧ iv_I u2) := by
    unfold wb_X7_tape_65
    rw [pw_and (vp_in_nI (by omega) (by omega)), nI_clamp (by omega)]
    simp only [forall_eq]
    generalize hx : pa_sA (pa_sA v 64 0 (upd (pa_A v 64 0) t s)) 65 0 (upd (pa_A (pa_sA v 64 0 (upd (pa_A v 64 0) t s)) 65 0) t (nI n)) = x
    have gx : fr_of (fun tt i k => tt = 64 ∨ tt = 65) v x := by rw [← hx]; exact fr_sA (Or.inr rfl) (fr_sA (Or.inl rfl) (fr_refl v))
    have e64 : pa_A x 64 0 = upd (pa_A v 64 0) t s := by rw [← hx, pa_A_sA_ne (by omega), pa_A_sA_self]
    have e65 : pa_A x 65 0 = upd (pa_A v 65 0) t (nI n) := by rw [← hx, pa_A_sA_self, pa_A_sA_ne (by omega)]
    refine ml_tape ht 60 5000 0 x (by omega) (by omega) (fun y hy gy => ⟨rfl, ?_⟩)
    have gA : fr_of fp_T u y := fr_trans (fr_mono (fun tt i k q => by unfold fp_T; omega) g) (fr_trans (fr_mono (fun tt i k q => by unfold fp_T; omega) gx) (fr_mono (fun tt i k q => by unfold fp_T; omega) gy))
    refine iv_T gA hw (fun t' ht' => ?_)
    rw [gy.1 19 t' 2 (by omega), gx.1 19 t' 2 (by omega), gy.1 19 t' 1 (by omega), gx.1 19 t' 1 (by omega), gy.2.1 64 0 (by omega), gy.2.1 65 0 (by omega), e64, e65, gy.2.2.1 20 t' (by omega), gx.2.2.1 20 t' (by omega)]
    by_cases q : t' = t
    · subst q
      refine ⟨n, hn, h2, if_pos rfl, by rw [h1, pw_upd, if_pos rfl], ?_, fun j hj => ?_⟩
      · rw [pw_upd, if_pos rfl]
        rcases hs with ⟨a, b⟩ | ⟨a, b⟩
        · exact Or.inl ⟨a, b⟩
        · exact Or.inr a
      · rw [h3 j hj, hy, if_pos (by omega)]
    · obtain ⟨z, hz, z1, z2, z3, z4, z5⟩ := hw.2.1.2.2.2.2.1 t' ht'
      rw [g.1 19 t' 2 (by omega), g.1 19 t' 1 (by omega), g.2.2.1 20 t' (by omega), pw_upd, pw_upd, if_neg q, if_neg q, g.2.1 64 0 (by omega), g.2.1 65 0 (by omega)]
      refine ⟨z, hz, z1, z2, z3, z4, fun j hj => ?_⟩
      rw [hy, if_neg (by omega), gx.2.2.1 66 0 (by omega), g.2.2.1 66 0 (by omega)]
      exact z5 j hj
  unfold wb_X7_tape_44
  rw [pw_and (vp_in_nI (by omega) (by omega)), nI_clamp (by omega)]
  simp only [forall_eq]
  rcases hs with ⟨a, b⟩ | ⟨⟨c, hc, rfl⟩, b⟩
  · subst a b
    rw [if_neg (by decide)]
    exact fin
  · subst b
    rw [if_pos (nI_pos' (by omega))]
    exact fin
end TAPE2
theorem case_k33 {u : pa_S} {a1 a2 a3 a4 a5 : Int32} (hi : iv_I u) : pa_case iv_I u a1 a2 a3 a4 a5 33 := by
  have hi0 := hi
  obtain ⟨w, e, N, hw⟩ := hi
  show wp_X6_tape u a1 a2 a3 _
  have X : ∀ (v : pa_S) po, wp_X7_tape v a1 a2 a3 po = wb_X7_tape_0 v a1 a2 a3 po := fun _ _ => rfl
  simp only [X]
  unfold wp_X6_tape wb_X6_tape_0 wb_X7_tape_0
  rcases rg_01 a1 0 5 (by omega) (by omega) with ⟨t, _, ht, rfl⟩ | ht
  rotate_left
  · rw [it_0 ht, if_pos rfl]; dsimp only
    rw [mt_0 ht, if_pos rfl]
    exact ⟨rfl, hi0⟩
  rw [it_1 ht, if_neg (by decide)]
  rcases rg_m1 a2 4 (by omega) with rfl | ⟨s, hs, rfl⟩ | h
  · rw [wim_m (B := 4) (hi := 4) rfl (by omega), if_neg (by decide), if_pos rfl, pw_and (vp_in_nI (by omega) (by omega)), nI_clamp (by omega)]
    refine sp_tbecome (n := 0) (by decide) (fun v h1 h2 h3 g => ?_)
    dsimp only
    rw [mt_1 ht, if_neg (by decide), inm_m (B := 4) (hi := 4) rfl (by omega), if_neg (by decide), if_pos (by decide)]
    unfold wb_X7_tape_33
    rw [if_pos (by decide)]
    exact tp_end hw ht (by omega) (Or.inl ⟨rfl, rfl⟩) h1 h2 h3 g
  · have sm : ¬ nI s = -1 := by
      intro y
      have := (pw_m1gt (n := s) (by omega)).2
      rw [y] at this
      exact absurd this (by decide)
    rw [wim_1 (B := 4) (hi := 4) rfl hs (by omega), if_neg (by decide), if_neg sm]
    by_cases q1 : a3 ≤ 60
    · rw [if_pos q1]
      by_cases q2 : 0 ≤ a3
      · rw [if_pos q2]
        obtain ⟨n, hn, rfl⟩ := nI_of2 (M := 60) (n := 60) (by decide) (by rw [Int32.not_lt]; exact q2) q1
        rw [pw_and (vp_in_nI (by omega) (by omega)), nI_clamp (by omega)]
        refine sp_tbecome (n := n) (by rw [pw_n60, pw_min (by omega) (by omega), pw_n0, pw_max (by omega) (by omega)]; exact congrArg nI (by omega)) (fun v h1 h2 h3 g => ?_)
        dsimp only
        rw [mt_1 ht, if_neg (by decide), inm_1 (B := 4) (hi := 4) rfl hs (by omega), if_neg (by decide), if_neg (nI_pos (by omega)), if_pos q1]
        unfold wb_X7_tape_33
        rw [if_neg (nI_pos (by omega)), if_pos q2]
        exact tp_end hw ht hn (Or.inr ⟨⟨s, hs, rfl⟩, rfl⟩) h1 h2 h3 g
      · rw [if_neg q2]
        dsimp only
        rw [mt_1 ht, if_neg (by decide), inm_1 (B := 4) (hi := 4) rfl hs (by omega), if_neg (by decide), if_neg (nI_pos (by omega)), if_pos q1]
        unfold wb_X7_tape_33
        rw [if_neg (nI_pos (by omega)), if_neg q2]
        exact ⟨rfl, hi0⟩
    · rw [if_neg q1]
      dsimp only
      rw [mt_1 ht, if_neg (by decide), inm_1 (B := 4) (hi := 4) rfl hs (by omega), if_neg (by decide), if_neg (nI_pos (by omega)), if_neg q1]
      exact ⟨rfl, hi0⟩
  · rw [wim_0 (B := 4) (hi := 4) rfl h, if_pos rfl]
    dsimp only
    rw [mt_1 ht, if_neg (by decide), inm_0 (B := 4) (hi := 4) rfl h, if_pos rfl]
    exact ⟨rfl, hi0⟩
/-! item -/
theorem hn_l {u : pa_S} {t : Nat} {po : Int32 → Prop} : wp_X4_holdsNothing u t po = if pa_I u 19 t 1 = -1 then po 1 else po 0 := rfl
theorem pw_sm {s : Nat} (h : s ≤ 100) : ¬ nI s = -1 := by
  intro y
  have := (pw_m1gt (n := s) (by omega)).2
  rw [y] at this
  exact absurd this (by decide)
theorem tp_cut {u v : pa_S} {t s : Nat} {x : Int64} (hs : s ≤ 4) (h : pa_I u 19 t 1 = nI s) : ∃ c : Int64, (∀ po, wp_X4_cut u t x po = po c) ∧ (∀ po, wp_X7_narrow v (nI s) x po = po c) := by
  unfold wp_X4_cut wb_X4_cut_0 wp_X7_narrow wb_X7_narrow_0
  rw [h]
  rcases (show s = 0 ∨ s = 1 ∨ s = 2 ∨ s = 3 ∨ s = 4 by omega) with rfl | rfl | rfl | rfl | rfl
  · exact ⟨_, fun po => if_pos rfl, fun po => if_pos rfl⟩
  · refine ⟨_, fun po => (if_neg (by decide)).trans (if_pos rfl), fun po => (if_neg (by decide)).trans (if_pos rfl)⟩
  · refine ⟨_, fun po => (if_neg (by decide)).trans ((if_neg (by decide)).trans (if_pos rfl)), fun po => (if_neg (by decide)).trans ((if_neg (by decide)).trans (if_pos rfl))⟩
  · refine ⟨_, fun po => (if_neg (by decide)).trans ((if_neg (by decide)).trans ((if_neg (by decide)).trans (if_pos rfl))), fun po => (if_neg (by decide)).trans ((if_neg (by decide)).trans ((if_neg (by decide)).trans (if_neg (by decide))))⟩
  · refine ⟨if lg_cmp x 0 = 0 then 0 else 1, fun po => (if_neg (by decide)).trans ((if_neg (by decide)).trans ((if_neg (by decide)).trans ((if_neg (by decide)).trans ((if_pos rfl).trans ?_)))), fun po => (if_neg (by decide)).trans ((if_neg (by decide)).trans ((if_neg (by decide)).trans ((if_pos rfl).trans ?_)))⟩
    all_goals
      by_cases q : lg_cmp x 0 = 0
      · rw [if_pos q, if_pos q]
      · rw [if_neg q, if_neg q]
theorem case_k34 {u : pa_S} {a1 a2 a3 a4 a5 : Int32} (hi : iv_I u) : pa_case iv_I u a1 a2 a3 a4 a5 34 := by
  have hi0 := hi
  obtain ⟨w, e, N, hw⟩ := hi
  have hp := hw.2.1.2.2.2.2.1
  show wp_X6_item u a1 a2 _ _
  generalize (((a3.toInt64) <<< ((32 : Int32).toInt64 &&& 63)) ||| ((a4.toInt64) &&& 4294967295)) = xv
  have X : ∀ (v : pa_S) po, wp_X7_item v a1 a2 xv po = wb_X7_item_0 v a1 a2 xv po := fun _ _ => rfl
  simp only [X]
  unfold wp_X6_item wb_X6_item_0 wb_X7_item_0
  rcases rg_01 a1 0 5 (by omega) (by omega) with ⟨t, _, ht, rfl⟩ | ht
  rotate_left
  · rw [it_0 ht, if_pos rfl]; dsimp only
    rw [mt_0 ht, if_pos rfl]
    exact ⟨rfl, hi0⟩
  obtain ⟨z, hz, z1, z2, z3, z4, z5⟩ := hp t (by omega)
  rw [it_1 ht, if_neg (by decide), pw_and (vp_in_nI (by omega) (by omega)), nI_clamp (by omega), hn_l, z3]
  rcases z4 with ⟨q, q0⟩ | ⟨s, hs, q⟩
  · rw [if_pos q, if_neg (by decide)]
    dsimp only
    rw [mt_1 ht, if_neg (by decide), pw_and (vp_in_nI (by omega) (by omega)), if_neg (show ¬ 0 ≤ pa_A u 64 0 t by rw [q]; decide)]
    exact ⟨rfl, hi0⟩
  rw [if_neg (show ¬ pa_A u 64 0 t = -1 by rw [q]; exact pw_sm (by omega)), if_pos rfl, pw_and (vp_in_nI (by omega) (by omega))]
  have s0 : 0 ≤ pa_A u 64 0 t := by rw [q]; exact nI_pos' (by omega)
  rcases pk_ix a2 (n := z) (by omega) with h | h | ⟨i, h, rfl⟩
  rotate_left 2
  · rw [hp_1 hz z1 h, if_neg (by decide), pw_and (vp_in_nI (by omega) (by omega))]
    unfold wp_X4_put wb_X4_put_0
    obtain ⟨c, c1, c2⟩ := tp_cut (u := u) (v := pa_sL u 20 t (vp_updL (pa_L u 20 t) i 0)) (t := t) (x := xv) hs (z3.trans q)
    obtain ⟨c', c1', _⟩ := tp_cut (u := u) (v := u) (t := t) (x := xv) hs (z3.trans q)
    rw [hp_1 hz z1 h, if_neg (by decide), c1, pw_and (vp_in_nI (by omega) (by omega)), nI_clamp (by omega)]
    simp only [forall_eq]
    obtain ⟨d, d1, d2⟩ := tp_cut (u := u) (v := pa_sL u 20 t (vp_updL (pa_L u 20 t) i c)) (t := t) (x := xv) hs (z3.trans q)
    have cd : c = d := by
      have a := c1 (fun y => y = d)
      rw [d1] at a
      exact a.mp rfl
    subst cd
    rw [mt_1 ht, if_neg (by decide), pw_and (vp_in_nI (by omega) (by omega)), pA_sL, if_pos s0, pw_and (vp_in_nI (by omega) (by omega)), z2, mi_1 hz h, if_neg (by decide), pw_and (vp_in_nI (by omega) (by omega)), q, d2, show (60 : Int32) * nI t + nI i = nI (60 * t + i) from by rw [pw_n60, pk_mul, nI_add], pw_and (vp_in_nI (by omega) (by omega)), nI_clamp (by omega)]
    refine ⟨trivial, ?_⟩
    generalize hy : pa_sL (pa_sL u 20 t (vp_updL (pa_L u 20 t) i c)) 66 0 (vp_updL (pa_L (pa_sL u 20 t (vp_updL (pa_L u 20 t) i c)) 66 0) (60 * t + i) c) = y
    have gy : fr_of (fun tt i k => (tt = 20 ∧ i = t) ∨ tt = 66) u y := by rw [← hy]; exact fr_sL (Or.inr rfl) (fr_sL (Or.inl ⟨rfl, rfl⟩) (fr_refl u))
    have e66 : pa_L y 66 0 = vp_updL (pa_L u 66 0) (60 * t + i) c := by rw [← hy, pL_sL, if_pos ⟨rfl, rfl⟩, pL_sL, if_neg (by omega)]
    refine iv_T (fr_mono (fun tt i k q => by unfold fp_T; omega) gy) hw (fun t' ht' => ?_)
    obtain ⟨z', hz', z1', z2', z3', z4', z5'⟩ := hp t' ht'
    refine ⟨z', hz', ?_, ?_, ?_, ?_, fun j hj => ?_⟩
    · rw [gy.1 19 t' 2 (by omega)]; exact z1'
    · rw [gy.2.1 65 0 (by omega)]; exact z2'
    · rw [gy.1 19 t' 1 (by omega), gy.2.1 64 0 (by omega)]; exact z3'
    · rw [gy.2.1 64 0 (by omega)]; exact z4'
    · rw [e66, pw_updL]
      by_cases q9 : t' = t
      · subst q9
        have e20 : pa_L y 20 t' = vp_updL (pa_L u 20 t') i c := by rw [← hy, pL_sL, if_neg (by omega), pL_sL, if_pos ⟨rfl, rfl⟩]
        rw [e20, pw_updL]
        by_cases q8 : j = i
        · rw [if_pos q8, if_pos (by omega)]
        · rw [if_neg q8, if_neg (by omega)]; exact z5' j hj
      · rw [gy.2.2.1 20 t' (by omega), if_neg (by omega)]
        exact z5' j hj
  all_goals
    rw [hp_0 z1 (by first | exact Or.inl h | exact Or.inr h), if_pos rfl]
    dsimp only
    rw [mt_1 ht, if_neg (by decide), pw_and (vp_in_nI (by omega) (by omega)), if_pos s0, pw_and (vp_in_nI (by omega) (by omega)), z2, mi_0 hz (by first | exact Or.inl h | exact Or.inr h), if_pos rfl]
    exact ⟨rfl, hi0⟩
/-! shift -/
section SHIFT
variable {u v : pa_S}
theorem ml_shift2 {o j m : Nat} {po : Int32 → pa_S → Prop} (ho : o ≤ 5) (hj : j + m ≤ 60) :
    ∀ (k f c : Nat) (u : pa_S), c + k = m → k < f →
      (∀ v, (∀ i, pa_L v 66 0 i = if 60 * o + j + c ≤ i ∧ i < 60 * o + j + m then pa_L u 67 0 (i - (60 * o + j)) else pa_L u 66 0 i) → fr_of (fun tt i k => tt = 66) u v → po (nI m) v) → wl_X7_shift_141 po f u (nI o) (nI j) (nI m) (nI c) := by
  intro k
  induction k with
  | zero =>
    intro f c u eq hlt hk
    obtain ⟨f, rfl⟩ : ∃ g, f = g + 1 := ⟨f - 1, by omega⟩
    unfold wl_X7_shift_141 wb_X7_shift_141
    rw [if_pos (nI_le (by omega) (by omega))]
    exact hk u (fun i => (if_neg (by omega)).symm) (fr_refl u)
  | succ k ih =>
    intro f c u eq hlt hk
    obtain ⟨f, rfl⟩ : ∃ g, f = g + 1 := ⟨f - 1, by omega⟩
    unfold wl_X7_shift_141 wb_X7_shift_141
    rw [if_neg (nI_ge (by omega) (by omega)), pw_and (vp_in_nI (by omega) (by omega)), show (60 : Int32) * nI o + nI j + nI c = nI (60 * o + j + c) by rw [pw_n60, pk_mul, nI_add, nI_add], pw_and (vp_in_nI (by omega) (by omega)), nI_clamp (by omega), nI_clamp (by omega)]
    simp only [forall_eq, pw_n1, nI_add]
    refine ih f (c + 1) _ (by omega) (by omega) (fun v hv g => hk v (fun i => ?_) (fr_trans (fr_sL rfl (fr_refl u)) g))
    rw [hv i, pL_sL, if_neg (show ¬ (67 = 66 ∧ 0 = 0) by omega), pL_sL, if_pos (show (66 = 66 ∧ 0 = 0) from ⟨rfl, rfl⟩), pw_updL]
    by_cases q : 60 * o + j + (c + 1) ≤ i ∧ i < 60 * o + j + m
    · rw [if_pos q, if_pos (by omega)]
    · rw [if_neg q]
      by_cases q2 : i = 60 * o + j + c
      · rw [if_pos q2, if_pos (by omega), show i - (60 * o + j) = c by omega]
      · rw [if_neg q2, if_neg (by omega)]
theorem ml_shift1 {t i o j m : Nat} {po : Int32 → pa_S → Prop} (ht : t ≤ 5) (hi : i + m ≤ 60) (ho : o ≤ 5) (hj : j + m ≤ 60) :
    ∀ (k f c : Nat) (u : pa_S), c + k = m → k < f → (∀ x, x < c → pa_L u 67 0 x = pa_L u 66 0 (60 * t + i + x)) →
      (∀ v, (∀ y, pa_L v 66 0 y = if 60 * o + j ≤ y ∧ y < 60 * o + j + m then pa_L u 66 0 (60 * t + i + (y - (60 * o + j))) else pa_L u 66 0 y) → fr_of (fun tt i k => tt = 66 ∨ tt = 67) u v → po (nI m) v) → wl_X7_shift_104 po f u (nI t) (nI i) (nI o) (nI j) (nI m) (nI c) := by
  intro k
  induction k with
  | zero =>
    intro f c u eq hlt hc hk
    obtain ⟨f, rfl⟩ : ∃ g, f = g + 1 := ⟨f - 1, by omega⟩
    unfold wl_X7_shift_104 wb_X7_shift_104
    rw [if_pos (nI_le (by omega) (by omega))]
    refine ml_shift2 ho hj m 5000 0 u (by omega) (by omega) (fun v hv g => hk v (fun y => ?_) (fr_mono (fun _ _ _ q => Or.inl q) g))
    rw [hv y, Nat.add_zero]
    by_cases q : 60 * o + j ≤ y ∧ y < 60 * o + j + m
    · rw [if_pos q, if_pos q, hc _ (by omega)]
    · rw [if_neg q, if_neg q]
  | succ k ih =>
    intro f c u eq hlt hc hk
    obtain ⟨f, rfl⟩ : ∃ g, f = g + 1 := ⟨f - 1, by omega⟩
    unfold wl_X7_shift_104 wb_X7_shift_104
    rw [if_neg (nI_ge (by omega) (by omega)), show (60 : Int32) * nI t + nI i + nI c = nI (60 * t + i + c) by rw [pw_n60, pk_mul, nI_add, nI_add], pw_and (vp_in_nI (by omega) (by omega)), pw_and (vp_in_nI (by omega) (by omega)), nI_clamp (by omega), nI_clamp (by omega)]
    simp only [forall_eq, pw_n1, nI_add]
    have e66 : pa_L (pa_sL u 67 0 (vp_updL (pa_L u 67 0) c (pa_L u 66 0 (60 * t + i + c)))) 66 0 = pa_L u 66 0 := by rw [pL_sL, if_neg (by omega)]
    refine ih f (c + 1) _ (by omega) (by omega) (fun x hx => ?_) (fun v hv g => hk v (fun y => ?_) (fr_trans (fr_sL (Or.inr rfl) (fr_refl u)) g))
    · rw [e66, pL_sL, if_pos (show (67 = 67 ∧ 0 = 0) from ⟨rfl, rfl⟩), pw_updL]
      by_cases q : x = c
      · rw [if_pos q, q]
      · rw [if_neg q]; exact hc x (by omega)
    · rw [hv y, e66]
end SHIFT
theorem hs_l {u : pa_S} {t : Nat} {x1 x2 : Int32} {po : Int32 → Prop} : wp_X4_hasSpan u t x1 x2 po = (if x1 < 0 then po 0 else (if x2 < 0 then po 0 else (if (pa_I u 19 t 2 - x2) < x1 then po 0 else po 1))) := rfl
theorem case_k36 {u : pa_S} {a1 a2 a3 a4 a5 : Int32} (hi : iv_I u) : pa_case iv_I u a1 a2 a3 a4 a5 36 := by
  have hi0 := hi
  obtain ⟨w, e, N, hw⟩ := hi
  have hp := hw.2.1.2.2.2.2.1
  show wp_X6_shift u a1 a2 a3 a4 a5 _
  unfold wp_X6_shift wb_X6_shift_0
  rcases rg_01 a1 0 5 (by omega) (by omega) with ⟨t, _, ht, rfl⟩ | ht
  rotate_left
  · rw [it_0 ht, if_pos rfl]; dsimp only
    unfold wp_X7_shift wb_X7_shift_0
    rw [mt_0 ht, if_pos rfl]
    exact ⟨rfl, hi0⟩
  rw [it_1 ht, if_neg (by decide)]
  rcases rg_01 a3 0 5 (by omega) (by omega) with ⟨o, _, ho, rfl⟩ | ho
  rotate_left
  · rw [it_0 ho, if_pos rfl]; dsimp only
    unfold wp_X7_shift wb_X7_shift_0
    rw [mt_1 ht, if_neg (by decide), mt_0 ho, if_pos rfl]
    exact ⟨rfl, hi0⟩
  obtain ⟨z, hz, z1, z2, z3, z4, z5⟩ := hp t (by omega)
  obtain ⟨y, hy, y1, y2, y3, y4, y5⟩ := hp o (by omega)
  rw [it_1 ho, if_neg (by decide), pw_and (vp_in_nI (by omega) (by omega)), pw_and (vp_in_nI (by omega) (by omega)), nI_clamp (by omega), nI_clamp (by omega), hn_l, z3]
  rcases z4 with ⟨q, q0⟩ | ⟨s, hs, q⟩
  · rw [if_pos q, if_neg (by decide)]
    dsimp only
    unfold wp_X7_shift wb_X7_shift_0
    rw [mt_1 ht, if_neg (by decide), mt_1 ho, if_neg (by decide), pw_and (vp_in_nI (by omega) (by omega)), nI_clamp (by omega), if_pos (show pa_A u 64 0 t < 0 by rw [q]; decide)]
    exact ⟨rfl, hi0⟩
  have st : ¬ pa_A u 64 0 t < 0 := by rw [q]; exact nI_pos (by omega)
  rw [if_neg (show ¬ pa_A u 64 0 t = -1 by rw [q]; exact pw_sm (by omega)), if_pos rfl, hn_l, y3]
  rcases y4 with ⟨r, r0⟩ | ⟨s', hs', r⟩
  · rw [if_pos r, if_neg (by decide)]
    dsimp only
    unfold wp_X7_shift wb_X7_shift_0
    rw [mt_1 ht, if_neg (by decide), mt_1 ho, if_neg (by decide), pw_and (vp_in_nI (by omega) (by omega)), nI_clamp (by omega), if_neg st, pw_and (vp_in_nI (by omega) (by omega)), nI_clamp (by omega), if_neg (show ¬ 0 ≤ pa_A u 64 0 o by rw [r]; decide)]
    exact ⟨rfl, hi0⟩
  have so : 0 ≤ pa_A u 64 0 o := by rw [r]; exact nI_pos' (by omega)
  rw [if_neg (show ¬ pa_A u 64 0 o = -1 by rw [r]; exact pw_sm (by omega)), if_pos rfl]
  -- the reference up to the sorts
  have mm : ∀ (v : pa_S) (po : Int32 → pa_S → Prop), pa_A v 64 0 = pa_A u 64 0 → pa_A v 65 0 = pa_A u 65 0 → wp_X7_shift v (nI t) a2 (nI o) a4 a5 po =
      (if (pa_A u 64 0 t) = (pa_A u 64 0 o) then (if a5 < 0 then po (-13 : Int32) v else (if a2 < 0 then po (-13 : Int32) v else (if a4 < 0 then po (-13 : Int32) v else (if (nI z - a5) < a2 then po (-13 : Int32) v else (if a4 ≤ (nI y - a5) then wl_X7_shift_104 po 5000 v (nI t) a2 (nI o) a4 a5 0 else po (-13 : Int32) v))))) else po (-12 : Int32) v) := by
    intro v po h1 h2
    unfold wp_X7_shift wb_X7_shift_0
    rw [mt_1 ht, if_neg (by decide), mt_1 ho, if_neg (by decide), pw_and (vp_in_nI (by omega) (by omega)), nI_clamp (by omega), nI_clamp (by omega), h1, h2, if_neg st, pw_and (vp_in_nI (by omega) (by omega)), if_pos so, pw_and (vp_in_nI (by omega) (by omega)), pw_and (vp_in_nI (by omega) (by omega)), pw_and (vp_in_nI (by omega) (by omega)), pw_and (vp_in_nI (by omega) (by omega)), z2, y2]
  have mu := fun po => mm u po rfl rfl
  by_cases qs : pa_A u 64 0 t = pa_A u 64 0 o
  rotate_left
  · rw [if_neg qs]
    dsimp only
    rw [mu, if_neg qs]
    exact ⟨rfl, hi0⟩
  rw [if_pos qs, hs_l, z1, hs_l, y1]
  have bad : (∀ po : Int32 → pa_S → Prop, po (-13) u → wp_X7_shift u (nI t) a2 (nI o) a4 a5 po) → (fun (r : Int32) (u1 : pa_S) => wp_X7_shift u1 (nI t) a2 (nI o) a4 a5 (fun r' u2 => r = r' ∧ iv_I u2)) (-13) u := fun h => h _ ⟨rfl, hi0⟩
  by_cases p2 : a2 < 0
  · rw [if_pos p2, if_pos rfl]
    refine bad (fun po hpo => ?_)
    rw [mu, if_pos qs, if_pos p2]
    by_cases p5 : a5 < 0
    · rw [if_pos p5]; exact hpo
    · rw [if_neg p5]; exact hpo
  rw [if_neg p2]
  by_cases p5 : a5 < 0
  · rw [if_pos p5, if_pos rfl]
    refine bad (fun po hpo => ?_)
    rw [mu, if_pos qs, if_pos p5]; exact hpo
  rw [if_neg p5]
  by_cases c1 : nI z - a5 < a2
  · rw [if_pos c1, if_pos rfl]
    refine bad (fun po hpo => ?_)
    rw [mu, if_pos qs, if_neg p5, if_neg p2, if_pos c1]
    by_cases p4 : a4 < 0
    · rw [if_pos p4]; exact hpo
    · rw [if_neg p4]; exact hpo
  rw [if_neg c1, if_neg (by decide)]
  by_cases p4 : a4 < 0
  · rw [if_pos p4, if_pos rfl]
    refine bad (fun po hpo => ?_)
    rw [mu, if_pos qs, if_neg p5, if_neg p2, if_pos p4]; exact hpo
  rw [if_neg p4, if_neg p5]
  by_cases c2 : nI y - a5 < a4
  · rw [if_pos c2, if_pos rfl]
    refine bad (fun po hpo => ?_)
    rw [mu, if_pos qs, if_neg p5, if_neg p2, if_neg p4, if_neg c1, if_neg (show ¬ a4 ≤ nI y - a5 by rw [Int32.not_le]; exact c2)]; exact hpo
  rw [if_neg c2, if_neg (by decide)]
  obtain ⟨i, hi2, rfl⟩ := nI_of p2
  obtain ⟨m, hm2, rfl⟩ := nI_of p5
  obtain ⟨j, hj2, rfl⟩ := nI_of p4
  have em : ∀ x : Nat, x ≤ 60 → (nI x - nI m).toInt = (x : Int) - m := fun x hx => by
    rw [Int32.toInt_sub, nI_toInt (by omega), nI_toInt hm2]
    exact Int.bmod_eq_of_le (by omega) (by omega)
  have him : i + m ≤ z := by
    have h := c1
    rw [Int32.lt_iff_toInt_lt, em z hz, nI_toInt hi2] at h
    omega
  have hjm : j + m ≤ y := by
    have h := c2
    rw [Int32.lt_iff_toInt_lt, em y hy, nI_toInt hj2] at h
    omega
  rw [nI_clamp hi2, nI_clamp hj2, nI_clamp hm2]
  refine ⟨p2, p4, p5, by omega, by omega, fun u1 hu1 => ?_⟩
  have gu : fr_of (fun tt i k => tt = 20 ∧ i = o) u u1 := by rw [hu1]; exact fr_sL ⟨rfl, rfl⟩ (fr_refl u)
  have e20 : pa_L u1 20 o = va_cpy (pa_L u 20 t) (pa_L u 20 o) i j m := by rw [hu1, pL_sL, if_pos ⟨rfl, rfl⟩]
  have m1 := mm u1 (fun r' u2 => nI m = r' ∧ iv_I u2) (gu.2.1 64 0 (by omega)) (gu.2.1 65 0 (by omega))
  dsimp only
  rw [m1, if_pos qs, if_neg p5, if_neg p2, if_neg p4, if_neg c1, if_pos (show nI j ≤ nI y - nI m by rw [← Int32.not_lt]; exact c2)]
  refine ml_shift1 ht (by omega) ho (by omega) m 5000 0 u1 (by omega) (by omega) (fun x hx => absurd hx (by omega)) (fun v hv g => ⟨rfl, ?_⟩)
  refine iv_T (fr_trans (fr_mono (fun tt i k q => by unfold fp_T; omega) gu) (fr_mono (fun tt i k q => by unfold fp_T; omega) g)) hw (fun t' ht' => ?_)
  obtain ⟨x, hx, x1, x2, x3, x4, x5⟩ := hp t' ht'
  refine ⟨x, hx, ?_, ?_, ?_, ?_, fun c hc => ?_⟩
  · rw [g.1 19 t' 2 (by omega), gu.1 19 t' 2 (by omega)]; exact x1
  · rw [g.2.1 65 0 (by omega), gu.2.1 65 0 (by omega)]; exact x2
  · rw [g.1 19 t' 1 (by omega), gu.1 19 t' 1 (by omega), g.2.1 64 0 (by omega), gu.2.1 64 0 (by omega)]; exact x3
  · rw [g.2.1 64 0 (by omega), gu.2.1 64 0 (by omega)]; exact x4
  · rw [g.2.2.1 20 t' (by omega), hv, gu.2.2.1 66 0 (by omega)]
    by_cases q9 : t' = o
    · subst q9
      rw [e20]
      by_cases q8 : j ≤ c ∧ c < j + m
      · rw [if_pos (by omega), pk_cpy_in q8.1 q8.2, z5 _ (by omega)]
        exact congrArg (pa_L u 66 0) (by omega)
      · rw [if_neg (by omega), pk_cpy_out (by omega)]
        exact x5 c hc
    · rw [gu.2.2.1 20 t' (by omega), if_neg (by omega)]
      exact x5 c hc
