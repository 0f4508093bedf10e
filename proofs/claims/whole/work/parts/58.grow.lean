/-! a booth more: what is kept -/
def fp_B (N t i k : Nat) : Prop := (t = 0 ∧ k = 12) ∨ (t = 1 ∧ i = 0 ∧ k = 102) ∨ t = 10 ∨ t = 12 ∨ t = 13 ∨ (14 ≤ t ∧ t ≤ 16 ∧ i = N) ∨ t = 70 ∨ (t = 24 ∧ (k = 8 ∨ k = 9 ∨ k = 10 ∨ k = 11 ∨ k = 12 ∨ k = 21 ∨ k = 22 ∨ k = 23)) ∨ (31 ≤ t ∧ t ≤ 37)
def fp_F (t i k : Nat) : Prop := t = 10 ∨ t = 12 ∨ t = 13 ∨ (t = 24 ∧ (k = 10 ∨ k = 11 ∨ k = 12 ∨ k = 21 ∨ k = 22 ∨ k = 23)) ∨ (31 ≤ t ∧ t ≤ 37)
def en_in (e : pw_E) (N : Nat) (CS : List pw_Cl) : pw_E :=
  ((fun b F => if b = N then ev_s F CS else en_g e b F), (fun b => if b = N then min (cs_m 2 20 CS) 60 else en_r e b), (fun b => if b = N then max (cs_m 3 4 CS) 1 else en_q e b))
theorem en_in_g {e : pw_E} {N b : Nat} {CS : List pw_Cl} {F : Nat → Nat} (h : b ≠ N) : en_g (en_in e N CS) b F = en_g e b F := if_neg h
theorem en_in_r {e : pw_E} {N b : Nat} {CS : List pw_Cl} (h : b ≠ N) : en_r (en_in e N CS) b = en_r e b := if_neg h
theorem en_in_q {e : pw_E} {N b : Nat} {CS : List pw_Cl} (h : b ≠ N) : en_q (en_in e N CS) b = en_q e b := if_neg h
theorem en_in_gN {e : pw_E} {N : Nat} {CS : List pw_Cl} {F : Nat → Nat} : en_g (en_in e N CS) N F = ev_s F CS := if_pos rfl
theorem en_in_rN {e : pw_E} {N : Nat} {CS : List pw_Cl} : en_r (en_in e N CS) N = min (cs_m 2 20 CS) 60 := if_pos rfl
theorem en_in_qN {e : pw_E} {N : Nat} {CS : List pw_Cl} : en_q (en_in e N CS) N = max (cs_m 3 4 CS) 1 := if_pos rfl
theorem en_sm_trans {u z v : pa_S} {b : Nat} (h : en_sm u z b) (h2 : en_sm z v b) : en_sm u v b := by
  intro f hf
  obtain ⟨a1, a2, a3⟩ := h f hf
  obtain ⟨b1, b2, b3⟩ := h2 f hf
  exact ⟨b1.trans a1, fun j hj => ⟨(b2 j hj).1.trans (a2 j hj).1, (b2 j hj).2.1.trans (a2 j hj).2.1, (b2 j hj).2.2.1.trans (a2 j hj).2.2.1, (b2 j hj).2.2.2.trans (a2 j hj).2.2.2⟩, fun j hj => (b3 j hj).trans (a3 j hj)⟩
theorem en_sm_kp {u z : pa_S} {g b : Nat} (hk : kp (10 * g) (100 * g) u z) (ho : ot_1 g u z) (hb : b ≤ g) : en_sm u z b := by
  intro f hf
  refine ⟨ho f (by omega), fun j hj => ⟨?_, ?_, ?_, ?_⟩, fun j hj => hk.2 _ (by omega)⟩
  · exact hk.1 32 _ (by omega) (by omega) (by omega)
  · exact hk.1 33 _ (by omega) (by omega) (by omega)
  · exact hk.1 34 _ (by omega) (by omega) (by omega)
  · exact hk.1 35 _ (by omega) (by omega) (by omega)
theorem en_M_kp {u z : pa_S} {e : pw_E} {g : Nat} (hk : kp (10 * g) (100 * g) u z) (ho : ot_1 g u z) (h : en_M u e (g + 1)) : en_M z e (g + 1) :=
  fun b hb v hv => h b hb v (en_sm_trans (en_sm_kp hk ho (by omega)) hv)
theorem bo_C_fr {x v : pa_S} {b : Nat} {L : List (Nat × Nat)} (h1 : pa_A v 15 b = pa_A x 15 b) (h2 : pa_A v 16 b = pa_A x 16 b) (h3 : pa_N v 15 b = pa_N x 15 b) (h4 : pa_N v 16 b = pa_N x 16 b) (h : bo_C x b L) : bo_C v b L := by
  unfold bo_C
  rw [h1, h2, h3, h4]
  exact h
theorem rC_ix {v x : pa_S} {b f : Nat} (h : ∀ j, j < 10 → pa_A v 32 0 (10 * f + j) = pa_A x 32 0 (10 * f + j) ∧ pa_A v 33 0 (10 * f + j) = pa_A x 33 0 (10 * f + j) ∧ pa_A v 34 0 (10 * f + j) = pa_A x 34 0 (10 * f + j) ∧ pa_A v 35 0 (10 * f + j) = pa_A x 35 0 (10 * f + j)) :
    ∀ (CS : List pw_Cl) (i off : Nat), i + CS.length ≤ 10 → rC x b (10 * f + i) off CS → rC v b (10 * f + i) off CS
  | [], _, _, _, _ => trivial
  | c :: cs, i, off, hi, hr => by
    rw [List.length_cons] at hi
    obtain ⟨a1, a2, a3, a4⟩ := h i (by omega)
    exact ⟨a1.trans hr.1, a2.trans hr.2.1, fun w => ⟨a3.trans (hr.2.2.1 w).1, a4.trans (hr.2.2.1 w).2⟩, rC_ix h cs (i + 1) _ (by omega) hr.2.2.2⟩
theorem bo_M_sm {z v : pa_S} {f : Nat} {CS : List pw_Cl} (h : bo_M z f CS) (hs : en_sm z v (f + 1)) : bo_M v f CS := by
  obtain ⟨b1, b2, b3, b4, b5, b6⟩ := h
  obtain ⟨a1, a2, a3⟩ := hs f rfl
  refine ⟨b1, b2, b3, a1.trans b4, rC_ix a2 CS 0 0 (by omega) b5, fun j t hj => ?_⟩
  have hlt : j < (cs_t CS).length := by
    by_cases q : j < (cs_t CS).length
    · exact q
    · rw [List.getElem?_eq_none (by omega)] at hj; exact absurd hj (by simp)
  rw [a3 j (by omega)]
  exact b6 j t hj
theorem cs_tc : ∀ CS : List pw_Cl, (∀ c, c ∈ CS → gC c) → (cs_t CS).length ≤ (cs_c CS).length
  | [], _ => Nat.le_refl _
  | c :: cs, h => by
    have ih := cs_tc cs (fun d hd => h d (List.mem_cons_of_mem _ hd))
    have g := h c List.mem_cons_self
    show (c.2.2 ++ cs_t cs).length ≤ (cl_c c ++ cs_c cs).length
    rw [List.length_append, List.length_append]
    by_cases q : c.1 < 2
    · have : (cl_c c).length = c.2.2.length + 1 := by unfold cl_c; rw [if_pos q, List.length_append, List.length_singleton]
      omega
    · have : c.2.2.length = 0 := by rw [g.2.2.1 (by omega)]; rfl
      omega
theorem wo_C_up {P : Nat → Nat → Nat → Prop} {u v : pa_S} {s : Nat} {w : pw_W} (h : ∀ t k, 1 ≤ t → t ≤ 6 → ¬ P t s k) (h7 : pa_N u 70 0 ≤ pa_N v 70 0) (a : fr_of P u v) (c : wo_C u s w) : wo_C v s w := by
  obtain ⟨c1, c2, c3, c4, c5, c6, c7, c8⟩ := c
  obtain ⟨aI, aA, aL, aN⟩ := a
  refine ⟨(aI _ _ _ (h _ _ (by omega) (by omega))).trans c1, (aI _ _ _ (h _ _ (by omega) (by omega))).trans c2, (aI _ _ _ (h _ _ (by omega) (by omega))).trans c3, (aN _ _ (h _ _ (by omega) (by omega))).trans c4, by omega, fun k hk => ?_, fun j hj => ?_, fun j hj => ?_⟩
  · rw [aA 2 s (h _ _ (by omega) (by omega)), aA 3 s (h _ _ (by omega) (by omega)), aA 4 s (h _ _ (by omega) (by omega))]; exact c6 k hk
  · rw [aA 5 s (h _ _ (by omega) (by omega))]; exact c7 j hj
  · rw [aA 6 s (h _ _ (by omega) (by omega))]; exact c8 j hj
/-- the text did not hold: nothing but the text is gone -/
theorem bt_no {u z : pa_S} {w : pw_W} {e : pw_E} {g : Nat} (hw : iv_at u w e (g + 1)) (a : fr_of fp_F u z) (hk : kp (10 * g) (100 * g) u z) (ho : ot_1 g u z) (h1 : pa_I z 10 0 3 = 0) (h2 : pa_I z 24 0 10 = 0) : iv_I z := by
  obtain ⟨⟨hf, hd, hc, hm, hz⟩, ⟨r1, r2, r3, r4, r5, r6⟩, ⟨l1, l2, l3⟩, hn⟩ := hw
  obtain ⟨e1, e2, e3, e4, e5, e6, e7, e8⟩ := r1
  refine ⟨w, e, g + 1, ⟨hf, hd, wo_C_fr ?_ ?_ a hc, wo_M_fr a ?_ ?_ hm, iv_z_fr a ?_ ?_ hz⟩, ⟨⟨(a.2.2.2 _ _ ?_).trans e1, e2, e3, (a.1 _ _ _ ?_).trans e4, (a.1 _ _ _ ?_).trans e5, en_C_fr ?_ ?_ a e6, en_M_kp hk ho e7, e8⟩, ⟨0, by omega, h1, h2, fun j hj => absurd hj (by omega)⟩, iv_i_fr a ?_ ?_ ?_ ?_ ?_ ?_ r3, iv_a_fr a ?_ ?_ ?_ ?_ r4, iv_p_fr a ?_ ?_ ?_ ?_ ?_ r5, ?_⟩, ⟨le_see_fr a ?_ ?_ ?_ ?_ ?_ ?_ (Nat.le_refl _) l1, le_fair_fr a ?_ ?_ ?_ ?_ ?_ (Nat.le_refl _) l2, le_book_fr a ?_ ?_ ?_ ?_ ?_ (Nat.le_refl _) l3⟩, fun s hs => ?_⟩
  all_goals first
    | (unfold fp_F; omega)
    | (intros; unfold fp_F; omega)
    | (unfold iv_c; rw [a.2.1 38 0 (by unfold fp_F; omega)]; exact r6)
    | (rw [a.2.2.2 1 s (by unfold fp_F; omega)]; exact hn s hs)
def wo_in (w : pw_W) (N : Nat) : pw_W := (wo_n w, wo_k w, wo_v w, wo_s w, wo_l w, wo_r w, wo_i w, wo_d w, N)
/-- the text held: one booth more, and now is in it -/
theorem bt_yes {u z : pa_S} {w : pw_W} {e : pw_E} {g : Nat} {CS : List pw_Cl} (hw : iv_at u w e (g + 1)) (hg6 : g < 6) (a : fr_of (fp_B (g + 1)) u z) (hk : kp (10 * g) (100 * g) u z) (ho : ot_1 g u z) (h1 : pa_I z 10 0 3 = 0) (h2 : pa_I z 24 0 10 = 0)
    (hg : ∀ c, c ∈ CS → gC c) (h10 : CS.length ≤ 10) (h70 : pa_N z 70 0 = g + 1 + 1) (hb : pa_N z 1 0 = g + 1) (h12 : pa_I z 0 0 12 = nI (g + 1)) (h8 : pa_I z 24 0 8 = nI (g + 1)) (h9 : pa_I z 24 0 9 = nI g)
    (hr : pa_I z 14 (g + 1) 2 = nI (min (cs_m 2 20 CS) 60)) (hq : pa_I z 14 (g + 1) 3 = nI (max (cs_m 3 4 CS) 1)) (hC : bo_C z (g + 1) (cs_c CS)) (hM : bo_M z g CS) : iv_I z := by
  obtain ⟨⟨hf, hd, hc, hm, hz⟩, ⟨r1, r2, r3, r4, r5, r6⟩, ⟨l1, l2, l3⟩, hn⟩ := hw
  obtain ⟨e1, e2, e3, e4, e5, e6, e7, e8⟩ := r1
  have m2 := cs_m_le (k := 2) CS 20 hg (by omega)
  have m3 := cs_m_le (k := 3) CS 4 hg (by omega)
  obtain ⟨c1, c2, c3, c4, c5, c6, c7, c8⟩ := hc
  obtain ⟨q1, q2, q3, q4, q5, q6, q7⟩ := hm
  refine ⟨wo_in w (g + 1), en_in e (g + 1) CS, g + 1 + 1, ⟨hf, hd, ⟨(a.1 _ _ _ ?_).trans c1, (a.1 _ _ _ ?_).trans c2, (a.1 _ _ _ ?_).trans c3, hb, by show g + 1 < _; omega, fun h hh => ?_, fun j hj => ?_, fun j hj => ?_⟩, ⟨(a.1 _ _ _ ?_).trans q1, (a.1 _ _ _ ?_).trans q2, (a.1 _ _ _ ?_).trans q3, h9.trans (nI_pred _).symm, fun h hh => ?_, fun j hj => ?_, fun j hj => ?_⟩, iv_z_fr a ?_ ?_ hz⟩,
    ⟨⟨h70, by omega, by omega, h12, h8, fun b hb => ?_, fun b hb v hv hv9 => ?_, fun b hb => ?_⟩, ⟨0, by omega, h1, h2, fun j hj => absurd hj (by omega)⟩, ?_, iv_a_fr a ?_ ?_ ?_ ?_ r4, iv_p_fr a ?_ ?_ ?_ ?_ ?_ r5, ?_⟩, ⟨le_see_fr a ?_ ?_ ?_ ?_ ?_ ?_ (Nat.le_refl _) l1, le_fair_fr a ?_ ?_ ?_ ?_ ?_ (Nat.le_refl _) l2, le_book_fr a ?_ ?_ ?_ ?_ ?_ (Nat.le_refl _) l3⟩, fun s hs => ?_⟩
  all_goals try (unfold fp_B; omega)
  all_goals try (intros; unfold fp_B; omega)
  · rw [a.2.1 2 0 (by unfold fp_B; omega), a.2.1 3 0 (by unfold fp_B; omega), a.2.1 4 0 (by unfold fp_B; omega)]; exact c6 h hh
  · rw [a.2.1 5 0 (by unfold fp_B; omega)]; exact c7 j hj
  · rw [a.2.1 6 0 (by unfold fp_B; omega)]; exact c8 j hj
  · rw [a.2.1 25 0 (by unfold fp_B; omega), a.2.1 26 0 (by unfold fp_B; omega), a.2.1 27 0 (by unfold fp_B; omega)]; exact q5 h hh
  · rw [a.2.1 28 0 (by unfold fp_B; omega)]; exact q6 j hj
  · rw [a.2.1 29 0 (by unfold fp_B; omega)]; exact q7 j hj
  · -- the class's booths
    rw [h70] at hb
    by_cases q : b = g + 1
    · subst q
      refine ⟨by rw [en_in_rN]; exact hr, by rw [en_in_qN]; exact hq, fun v s F po z1 z2 z3 z4 hF hF9 => ?_⟩
      rw [en_in_gN]
      exact sp_graceB (bo_C_fr z1 z2 z3 z4 hC) hF hF9 hg h10
    · obtain ⟨d1, d2, d3⟩ := e6 b (by omega)
      refine ⟨by rw [en_in_r q, a.1 14 b 2 (by unfold fp_B; omega)]; exact d1, by rw [en_in_q q, a.1 14 b 3 (by unfold fp_B; omega)]; exact d2, fun v s F po z1 z2 z3 z4 hF hF9 => ?_⟩
      rw [en_in_g q]
      exact d3 v s F po (z1.trans (a.2.1 15 b (by unfold fp_B; omega))) (z2.trans (a.2.1 16 b (by unfold fp_B; omega))) (z3.trans (a.2.2.2 15 b (by unfold fp_B; omega))) (z4.trans (a.2.2.2 16 b (by unfold fp_B; omega))) hF hF9
  · -- the reference's
    by_cases q : b = g + 1
    · subst q
      have hM2 := bo_M_sm hM hv
      have v9 : pa_I v 24 0 9 = nI g := hv9.trans (nI_pred _)
      refine ⟨fun po => by rw [en_in_rN]; exact mp_roomB hM2 v9 hg, fun po => by rw [en_in_qN]; exact mp_pressB hM2 v9 hg, fun w' h l po y1 y2 y3 y4 y5 y6 => mp_graceB y1 y2 y4 y5 hM2 v9 hg (fun x hx => ?_)⟩
      have := y6 x hx
      rw [en_in_gN] at this
      exact this
    · obtain ⟨d1, d2, d3⟩ := e7 b (by omega) v (en_sm_trans (en_sm_kp hk ho (by omega)) hv) hv9
      refine ⟨fun po => by rw [en_in_r q]; exact d1 po, fun po => by rw [en_in_q q]; exact d2 po, fun w' h l po y1 y2 y3 y4 y5 y6 => d3 w' h l po y1 y2 y3 y4 y5 (fun x hx => ?_)⟩
      have := y6 x hx
      rw [en_in_g q] at this
      exact this
  · by_cases q : b = g + 1
    · subst q
      rw [en_in_rN, en_in_qN]
      refine ⟨Nat.min_le_right _ _, Nat.le_max_right _ _, Nat.max_le.mpr ⟨m3, by omega⟩, fun F => ?_⟩
      rw [en_in_gN]
      have := ev_s_le (F := F) CS hg
      omega
    · obtain ⟨d1, d2, d3, d4⟩ := e8 b (by omega)
      refine ⟨by rw [en_in_r q]; exact d1, by rw [en_in_q q]; exact d2, by rw [en_in_q q]; exact d3, fun F => by rw [en_in_g q]; exact d4 F⟩
  · unfold iv_i
    rw [a.1 0 0 3 (by unfold fp_B; omega), a.1 24 0 43 (by unfold fp_B; omega)]
    refine r3.imp id (fun ⟨a0, b0, w', c, d, f, m, i, j1, j2, j3⟩ => ⟨a0, b0, w', c, d, wo_C_up ?_ ?_ a f, wo_MI_fr a ?_ ?_ m, iv_z_fr a ?_ ?_ i, le_see_fr a ?_ ?_ ?_ ?_ ?_ ?_ (Nat.le_refl _) j1, le_fair_fr a ?_ ?_ ?_ ?_ ?_ (Nat.le_refl _) j2, le_book_fr a ?_ ?_ ?_ ?_ ?_ (Nat.le_refl _) j3⟩)
    all_goals first
      | (unfold fp_B; omega)
      | (intros; unfold fp_B; omega)
      | omega
  · unfold iv_c; rw [a.2.1 38 0 (by unfold fp_B; omega)]; exact r6
  · by_cases q : s = 0
    · subst q; omega
    · rw [a.2.2.2 1 s (by unfold fp_B; omega)]; have := hn s hs; omega
