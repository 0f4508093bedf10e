/-! the booth's text, end to end -/
def fp_R0 (t i k : Nat) : Prop := (t = 24 ∧ (k = 10 ∨ k = 11 ∨ k = 12 ∨ k = 21 ∨ k = 22 ∨ k = 23)) ∨ (31 ≤ t ∧ t ≤ 37)
def fp_R (t i k : Nat) : Prop := (t = 24 ∧ (k = 8 ∨ k = 9 ∨ k = 10 ∨ k = 11 ∨ k = 12 ∨ k = 21 ∨ k = 22 ∨ k = 23)) ∨ (31 ≤ t ∧ t ≤ 37)
section BOOTH
variable {T : Nat → Nat} {S g : Nat} {y : pa_S} {po : Int32 → pa_S → Prop}
theorem rf_start (h8 : pa_I y 24 0 8 = nI g) (hg : g < 6) (hx : rx_T y T S) {pr : Int32 → pa_S → Prop}
    (hk : ∀ v, rx v T S 0 → rB v (100 * g) [] → fr_of (fun t _ k => t = 24 ∧ (k = 11 ∨ k = 21)) y v → wl_X7_goesText_15 pr 5000 v (nI g) (nI 0)) : wp_X7_goesText y (pa_I y 24 0 8) pr := by
  unfold wp_X7_goesText wb_X7_goesText_0
  rw [h8]
  intro u1 e1 u2 e2
  have g1 : fr_of (fun t _ k => t = 24 ∧ k = 11) y u1 := by rw [e1]; exact fr_sI ⟨rfl, rfl⟩ (fr_refl y)
  have g2 : fr_of (fun t _ k => t = 24 ∧ k = 21) u1 u2 := by rw [e2]; exact fr_sI ⟨rfl, rfl⟩ (fr_refl u1)
  have G : fr_of (fun t _ k => t = 24 ∧ (k = 11 ∨ k = 21)) y u2 := fr_trans (fr_mono (fun _ _ _ q => ⟨q.1, Or.inl q.2⟩) g1) (fr_mono (fun _ _ _ q => ⟨q.1, Or.inr q.2⟩) g2)
  refine hk u2 ⟨rx_T_fr G (by omega) (by omega) (by omega) hx, ?_, Nat.zero_le _⟩ ⟨?_, fun j t hj => absurd hj (by simp)⟩ G
  · rw [g2.1 24 0 11 (by omega), e1, pI_sI, if_pos ⟨rfl, rfl, rfl⟩]; rfl
  · rw [e2, pI_sI, if_pos ⟨rfl, rfl, rfl⟩, pw_n100, pk_mul]; rfl
theorem rf_no {q : Nat} (h8 : pa_I y 24 0 8 = nI g) (hg : g < 6) (hx : rx_T y T S) (hF : tF T S 10 0 q)
    (hk : ∀ z, pa_I z 24 0 10 = 0 → kp (10 * g) (100 * g) y z → ot_1 g y z → fr_of fp_R0 y z → po ((-10 : Int32) - nI q) z) : wp_X7_booth y po := by
  unfold wp_X7_booth wb_X7_booth_0
  rw [if_neg (show ¬ pa_I y 24 0 8 = 6 by rw [h8]; exact fun q => absurd ((nI_eq (b := 6) (by omega) (by omega)).mp q) (by omega))]
  refine rf_start h8 hg hx (fun v hv hB gv => ?_)
  refine ml_text0 (by omega) hg 10 5000 0 0 q [] v _ hF (by omega) (by omega) hv hB (Nat.zero_le _) (fun x h11 kx ox gx => ?_)
  intro u4 e4
  have g4 : fr_of (fun t _ k => t = 24 ∧ k = 10) x u4 := by rw [e4]; exact fr_sI ⟨rfl, rfl⟩ (fr_refl x)
  rw [if_pos rfl, g4.1 24 0 11 (by omega), h11]
  refine hk u4 (by rw [e4, pI_sI, if_pos ⟨rfl, rfl, rfl⟩]) (kp_trans (kp_fr gv (by omega)) (kp_trans kx (kp_fr g4 (by omega)))) (ot_trans (ot_fr gv (by omega)) (ot_trans ox (ot_fr g4 (by omega)))) (fr_trans (fr_mono (fun t i k q => ?_) gv) (fr_trans (fr_mono (fun t i k q => ?_) gx) (fr_mono (fun t i k q => ?_) g4)))
  · unfold fp_R0; omega
  · unfold fp_tx at q; unfold fp_R0; omega
  · unfold fp_R0; omega
theorem rf_yes {CS : List pw_Cl} (h8 : pa_I y 24 0 8 = nI g) (hg : g < 6) (hx : rx_T y T S) (hR : tR T S 0 CS) (h10 : CS.length ≤ 10) (h100 : (cs_t CS).length ≤ 100)
    (hk : ∀ z, pa_I z 24 0 10 = 0 → pa_I z 24 0 8 = nI (g + 1) → pa_I z 24 0 9 = nI g → kp (10 * g) (100 * g) y z → ot_1 g y z → bo_M z g CS → fr_of (fp_R) y z → po (nI g) z) : wp_X7_booth y po := by
  unfold wp_X7_booth wb_X7_booth_0
  rw [if_neg (show ¬ pa_I y 24 0 8 = 6 by rw [h8]; exact fun q => absurd ((nI_eq (b := 6) (by omega) (by omega)).mp q) (by omega))]
  refine rf_start h8 hg hx (fun v hv hB gv => ?_)
  refine ml_text1 (by omega) hg CS 5000 0 0 [] v _ hR (by omega) (by omega) hv hB (Nat.zero_le _) (fun x hxx hBx hCx h31 kx ox gx => ?_)
  intro u4 e4
  have g4 : fr_of (fun t _ k => t = 24 ∧ k = 10) x u4 := by rw [e4]; exact fr_sI ⟨rfl, rfl⟩ (fr_refl x)
  rw [if_neg (by decide)]
  intro u6 e6 u7 e7
  have g6 : fr_of (fun t _ k => t = 24 ∧ k = 9) u4 u6 := by rw [e6]; exact fr_sI ⟨rfl, rfl⟩ (fr_refl u4)
  have g7 : fr_of (fun t _ k => t = 24 ∧ k = 8) u6 u7 := by rw [e7]; exact fr_sI ⟨rfl, rfl⟩ (fr_refl u6)
  have h84 : pa_I u4 24 0 8 = nI g := by rw [g4.1 24 0 8 (by omega), gx.1 24 0 8 (by unfold fp_tx; omega), gv.1 24 0 8 (by omega)]; exact h8
  have h9 : pa_I u7 24 0 9 = nI g := by rw [g7.1 24 0 9 (by omega), e6, pI_sI, if_pos ⟨rfl, rfl, rfl⟩]; exact h84
  have h87 : pa_I u7 24 0 8 = nI (g + 1) := by rw [e7, pI_sI, if_pos ⟨rfl, rfl, rfl⟩, g6.1 24 0 8 (by omega), h84, pw_n1, nI_add]
  have hA : ∀ t, pa_A u7 t 0 = pa_A x t 0 := fun t => by
    rw [e7, e6, e4]; rfl
  have k4 : fr_of (fun t _ k => t = 24 ∧ (k = 8 ∨ k = 9 ∨ k = 10)) x u7 := fr_trans (fr_mono (fun t i k q => ⟨q.1, Or.inr (Or.inr q.2)⟩) g4) (fr_trans (fr_mono (fun t i k q => ⟨q.1, Or.inr (Or.inl q.2)⟩) g6) (fr_mono (fun t i k q => ⟨q.1, Or.inl q.2⟩) g7))
  rw [h9]
  refine hk u7 (by rw [g7.1 24 0 10 (by omega), g6.1 24 0 10 (by omega), e4, pI_sI, if_pos ⟨rfl, rfl, rfl⟩]) h87 h9 (kp_trans (kp_fr gv (by omega)) (kp_trans kx (kp_fr k4 (by omega)))) (ot_trans (ot_fr gv (by omega)) (ot_trans ox (ot_fr k4 (by omega)))) ⟨hg, h10, h100, ?_, ?_, fun j t hj => ?_⟩ (fr_trans (fr_mono (fun t i k q => ?_) gv) (fr_trans (fr_mono (fun t i k q => ?_) gx) (fr_mono (fun t i k q => ?_) k4)))
  · rw [hA, h31]; exact congrArg nI (by omega)
  · exact rC_fr (fun t _ _ => hA t) hCx
  · rw [hA]; exact hBx.2 j t hj
  · unfold fp_R; omega
  · unfold fp_tx at q; unfold fp_R; omega
  · unfold fp_R; omega
end BOOTH
def fp_K (N t i k : Nat) : Prop := (t = 0 ∧ k = 12) ∨ (t = 1 ∧ i = 0 ∧ k = 102) ∨ t = 10 ∨ t = 12 ∨ t = 13 ∨ (14 ≤ t ∧ t ≤ 16 ∧ i = N) ∨ t = 70
/-- the class: the booth at hand -/
theorem cf_yes {u x v : pa_S} {T : Nat → Nat} {S g : Nat} {CS : List pw_Cl} {u3 u4 u5 : pa_S} (h70 : pa_N u 70 0 = g + 1) (h12 : pa_I u 0 0 12 = nI g) (gx : fr_of fp_z u x) (hx : tx x T S S (cs_c CS)) (hS : (cs_c CS).length < S) (m2 : cs_m 2 20 CS ≤ 99) (m3 : cs_m 3 4 CS ≤ 99) (h6 : pa_I x 10 0 6 = nI (cs_m 2 20 CS)) (h7 : pa_I x 10 0 7 = nI (cs_m 3 4 CS))
    (ev : v = pa_grown x (cs_c CS).length) (e3 : u3 = pa_sN v 1 0 (pa_N x 70 0)) (e4 : u4 = pa_sI u3 0 0 12 (pa_I u3 0 0 12 + 1)) (e5 : u5 = pa_sI u4 10 0 3 0) :
    fr_of (fp_K (g + 1)) u u5 ∧ pa_N u5 70 0 = g + 1 + 1 ∧ pa_N u5 1 0 = g + 1 ∧ pa_I u5 0 0 12 = nI (g + 1) ∧ pa_I u5 10 0 3 = 0 ∧ pa_I u5 14 (g + 1) 2 = nI (min (cs_m 2 20 CS) 60) ∧ pa_I u5 14 (g + 1) 3 = nI (max (cs_m 3 4 CS) 1) ∧ bo_C u5 (g + 1) (cs_c CS) := by
  have x70 : pa_N x 70 0 = g + 1 := by rw [gx.2.2.2 70 0 (by unfold fp_z; omega)]; exact h70
  have x12 : pa_I x 0 0 12 = nI g := by rw [gx.1 0 0 12 (by unfold fp_z; omega)]; exact h12
  have V := fun t i (q : ¬ ((t = 14 ∨ t = 15 ∨ t = 16) ∧ i = pa_N x 70 0)) (q2 : t ≠ 70) => pa_grow_views (N := (cs_c CS).length) (f1 := va_cpy (pa_A x 12 0) (fun _ => 0) 0 0 (cs_c CS).length) (f2 := va_cpy (pa_A x 13 0) (fun _ => 0) 0 0 (cs_c CS).length) (r := pa_min 60 (pa_I x 10 0 6)) (pr := pa_max 1 (pa_I x 10 0 7)) q q2
  have gv : fr_of (fp_K (g + 1)) x v := by
    rw [ev]
    refine ⟨fun t i k q => ?_, fun t i q => ?_, fun t i q => ?_, fun t i q => ?_⟩
    all_goals unfold fp_K at q
    · exact congrFun (V t i (by omega) (by omega)).1 k
    · exact (V t i (by omega) (by omega)).2.1
    · exact (V t i (by omega) (by omega)).2.2.1
    · exact (V t i (by omega) (by omega)).2.2.2
  have g3 : fr_of (fun t i k => t = 1 ∧ i = 0 ∧ k = 102) v u3 := by rw [e3]; exact fr_sN ⟨rfl, rfl, rfl⟩ (fr_refl v)
  have g4 : fr_of (fun t _ k => t = 0 ∧ k = 12) u3 u4 := by rw [e4]; exact fr_sI ⟨rfl, rfl⟩ (fr_refl u3)
  have g5 : fr_of (fun t _ k => t = 10 ∧ k = 3) u4 u5 := by rw [e5]; exact fr_sI ⟨rfl, rfl⟩ (fr_refl u4)
  have k5 : fr_of (fun t i k => (t = 1 ∧ i = 0 ∧ k = 102) ∨ (t = 0 ∧ k = 12) ∨ (t = 10 ∧ k = 3)) v u5 := fr_trans (fr_mono (fun t i k q => Or.inl q) g3) (fr_trans (fr_mono (fun t i k q => Or.inr (Or.inl q)) g4) (fr_mono (fun t i k q => Or.inr (Or.inr q)) g5))
  refine ⟨fr_trans (fr_mono (fun t i k q => ?_) gx) (fr_trans gv (fr_mono (fun t i k q => ?_) k5)), ?_, ?_, ?_, ?_, ?_, ?_, ?_, ?_, ?_, fun j t hj => ?_⟩
  · unfold fp_z at q; unfold fp_K; omega
  · unfold fp_K; omega
  · rw [k5.2.2.2 70 0 (by omega), ev]; unfold pa_grown pa_grow; rw [pa_N_sN_self, x70]
  · rw [g5.2.2.2 1 0 (by omega), g4.2.2.2 1 0 (by omega), e3, pN_sN, if_pos ⟨rfl, rfl⟩, x70]
  · have v12 : pa_I v 0 0 12 = pa_I x 0 0 12 := by rw [ev]; exact congrFun (V 0 0 (by omega) (by omega)).1 12
    rw [g5.1 0 0 12 (by omega), e4, pI_sI, if_pos ⟨rfl, rfl, rfl⟩, g3.1 0 0 12 (by omega), v12, x12, pw_n1, nI_add]
  · rw [e5, pI_sI, if_pos ⟨rfl, rfl, rfl⟩]
  · rw [k5.1 14 (g + 1) 2 (by omega), ev]
    show pa_I (pa_sI (pa_sI x 14 (pa_N x 70 0) 2 (pa_min 60 (pa_I x 10 0 6))) 14 (pa_N x 70 0) 3 (pa_max 1 (pa_I x 10 0 7))) 14 (g + 1) 2 = _
    rw [x70, pI_sI, if_neg (by omega), pI_sI, if_pos ⟨rfl, rfl, rfl⟩, h6, pw_n60, pw_min (by omega) (by omega), Nat.min_comm]
  · rw [k5.1 14 (g + 1) 3 (by omega), ev]
    show pa_I (pa_sI (pa_sI x 14 (pa_N x 70 0) 2 (pa_min 60 (pa_I x 10 0 6))) 14 (pa_N x 70 0) 3 (pa_max 1 (pa_I x 10 0 7))) 14 (g + 1) 3 = _
    rw [x70, pI_sI, if_pos ⟨rfl, rfl, rfl⟩, h7, pw_n1, pw_max (by omega) (by omega), Nat.max_comm]
  · rw [k5.2.2.2 15 (g + 1) (by omega), ev]; unfold pa_grown pa_grow
    rw [pN_sN, if_neg (by omega), pN_sN, if_neg (by omega), pN_sN, if_pos (by omega)]
  · rw [k5.2.2.2 16 (g + 1) (by omega), ev]; unfold pa_grown pa_grow
    rw [pN_sN, if_neg (by omega), pN_sN, if_pos (by omega)]
  · have := hx.1.2.1
    omega
  · have hlt : j < (cs_c CS).length := by
      by_cases q : j < (cs_c CS).length
      · exact q
      · rw [List.getElem?_eq_none (by omega)] at hj; exact absurd hj (by simp)
    have hB := hx.2.2.2.2 j t hj
    rw [k5.2.1 15 (g + 1) (by omega), k5.2.1 16 (g + 1) (by omega), ev]
    show pa_A (pa_sA (pa_sA _ 15 (pa_N x 70 0) (va_cpy (pa_A x 12 0) (fun _ => 0) 0 0 (cs_c CS).length)) 16 (pa_N x 70 0) (va_cpy (pa_A x 13 0) (fun _ => 0) 0 0 (cs_c CS).length)) 15 (g + 1) j = _ ∧ pa_A (pa_sA (pa_sA _ 15 (pa_N x 70 0) (va_cpy (pa_A x 12 0) (fun _ => 0) 0 0 (cs_c CS).length)) 16 (pa_N x 70 0) (va_cpy (pa_A x 13 0) (fun _ => 0) 0 0 (cs_c CS).length)) 16 (g + 1) j = _
    have key : ∀ f : Nat → Int32, va_cpy f (fun _ => 0) 0 0 (cs_c CS).length j = f j := fun f => by
      unfold va_cpy
      rw [if_pos (by omega), show 0 + (j - 0) = j by omega]
    rw [x70, pa_A_sA_ne (by omega), pa_A_sA_self, pa_A_sA_self, key, key]
    exact hB
theorem case_k8 {u : pa_S} {a1 a2 a3 a4 a5 : Int32} (hi : iv_I u) : pa_case iv_I u a1 a2 a3 a4 a5 8 := by
  have hi0 := hi
  obtain ⟨w, e, N, hw⟩ := hi
  obtain ⟨g, rfl⟩ : ∃ g, N = g + 1 := ⟨N - 1, by have := hw.2.1.1.2.1; omega⟩
  have h7 := hw.2.1.1.2.2.1
  have h12 : pa_I u 0 0 12 = nI g := hw.2.1.1.2.2.2.1
  have h8 : pa_I u 24 0 8 = nI g := hw.2.1.1.2.2.2.2.1
  have h70 : pa_N u 70 0 = g + 1 := hw.2.1.1.1
  simp only [pa_case]
  unfold wp_X6_booth
  rw [h12]
  by_cases hg : g < 6
  rotate_left
  · obtain rfl : g = 6 := by omega
    rw [if_neg (by decide)]
    unfold wp_X7_booth wb_X7_booth_0
    dsimp only
    rw [if_pos (show pa_I u 24 0 8 = 6 from h8)]
    exact ⟨rfl, hi0⟩
  rw [if_pos (show nI g < 6 from nI_lt (b := 6) hg (by omega))]
  obtain ⟨S, hS, t1, t2, t3⟩ := hw.2.1.2.1
  have hT : ∀ j, j < S → (pa_A u 30 0 j).toNatClampNeg ≤ 127 ∧ pa_A u 11 0 j = nI (pa_A u 30 0 j).toNatClampNeg ∧ pa_A u 30 0 j = nI (pa_A u 30 0 j).toNatClampNeg := fun j hj => by
    obtain ⟨c, c1, c2, c3⟩ := t3 j hj
    rw [c3, nI_clamp (by omega)]
    exact ⟨c1, c2, rfl⟩
  generalize hTT : (fun j => (pa_A u 30 0 j).toNatClampNeg) = T at *
  have hT2 : ∀ j, j < S → T j ≤ 127 ∧ pa_A u 11 0 j = nI (T j) ∧ pa_A u 30 0 j = nI (T j) := fun j hj => by rw [← hTT]; exact hT j hj
  have hrx : ∀ {P : Nat → Nat → Nat → Prop} {y : pa_S}, fr_of P u y → ¬ P 24 0 10 → ¬ P 30 0 100 → ¬ P 38 0 100 → rx_T y T S := fun gy n1 n2 n3 =>
    rx_T_fr gy n1 n2 n3 ⟨t2, hS, fun j hj => ⟨(hT2 j hj).1, (hT2 j hj).2.2⟩, hw.2.1.2.2.2.2.2⟩
  refine sp_isBooth (T := T) (S := S) ⟨t1, hS, fun j hj => ⟨(hT2 j hj).1, (hT2 j hj).2.1⟩⟩ (fun q x hF hq gx => ?_) (fun CS x hR h10 hx hl h6 h7x gx => ?_)
  · rw [if_pos rfl]
    unfold wp_X5_place wb_X5_place_0 wp_X5_clear wb_X5_clear_0
    intro y ey
    have gy : fr_of (fun t _ k => t = 10 ∧ k = 3) x y := by rw [ey]; exact fr_sI ⟨rfl, rfl⟩ (fr_refl x)
    have G : fr_of fp_F u y := fr_trans (fr_mono (fun t i k z => by unfold fp_z at z; unfold fp_F; omega) gx) (fr_mono (fun t i k z => by unfold fp_F; omega) gy)
    have G2 : fr_of (fun t _ _ => t = 10 ∨ t = 12 ∨ t = 13) u y := fr_trans (fr_mono (fun t i k z => by unfold fp_z at z; omega) gx) (fr_mono (fun t i k z => by omega) gy)
    rw [hq]
    refine rf_no (T := T) (S := S) (q := q) (by rw [G2.1 24 0 8 (by omega)]; exact h8) hg (hrx G2 (by omega) (by omega) (by omega)) hF (fun z z10 kz oz gz => ⟨rfl, ?_⟩)
    refine bt_no hw (fr_trans G (fr_mono (fun t i k q => by unfold fp_R0 at q; unfold fp_F; omega) gz)) (kp_trans (kp_fr G2 (by omega)) kz) (ot_trans (ot_fr G2 (by omega)) oz) ?_ z10
    rw [gz.1 10 0 3 (by unfold fp_R0; omega), ey, pI_sI, if_pos ⟨rfl, rfl, rfl⟩]
  · have hgc := tR_gC CS 0 hR
    have m2 := cs_m_le (k := 2) CS 20 hgc (by omega)
    have m3 := cs_m_le (k := 3) CS 4 hgc (by omega)
    rw [if_neg (by decide)]
    refine ⟨fun i hi => ?_, (cs_c CS).length, hx.2.2.2.1, by omega, ?_⟩
    · rw [gx.2.2.2 1 i (by unfold fp_z; omega), gx.2.2.2 70 0 (by unfold fp_z; omega), h70]
      exact hw.2.2.2 i hi
    generalize ev : pa_grown x (cs_c CS).length = v
    intro u3 e3 u4 e4
    unfold wp_X5_clear wb_X5_clear_0
    intro u5 e5
    obtain ⟨G, f70, f1, f12, f3, fr, fq, fC⟩ := cf_yes h70 h12 gx hx hl m2 m3 h6 h7x ev.symm e3 e4 e5
    have GB : fr_of (fp_B (g + 1)) u u5 := fr_mono (fun t i k q => by unfold fp_K at q; unfold fp_B; omega) G
    have gx8 : pa_I u5 24 0 8 = pa_I u 24 0 8 := G.1 24 0 8 (by unfold fp_K; omega)
    have K : kp (10 * g) (100 * g) u u5 := kp_fr G (fun t t1 t2 q => by unfold fp_K at q; omega)
    have O : ot_1 g u u5 := ot_fr G (by unfold fp_K; omega)
    refine rf_yes (T := T) (S := S) (CS := CS) (by rw [gx8, h8]) hg (hrx G (by unfold fp_K; omega) (by unfold fp_K; omega) (by unfold fp_K; omega)) hR h10 (by have := cs_tc CS hgc; omega) (fun z z10 z8 z9 kz oz bM gz => ⟨rfl, ?_⟩)
    have Z : ∀ {t i k : Nat}, ¬ fp_R t i k → pa_I z t i k = pa_I u5 t i k := fun q => gz.1 _ _ _ q
    refine bt_yes hw hg (fr_trans GB (fr_mono (fun t i k q => by unfold fp_R at q; unfold fp_B; omega) gz)) (kp_trans K kz) (ot_trans O oz) ?_ z10 hgc h10 ?_ ?_ ?_ z8 z9 ?_ ?_ ?_ bM
    · rw [Z (by unfold fp_R; omega)]; exact f3
    · rw [gz.2.2.2 70 0 (by unfold fp_R; omega)]; exact f70
    · rw [gz.2.2.2 1 0 (by unfold fp_R; omega)]; exact f1
    · rw [Z (by unfold fp_R; omega)]; exact f12
    · rw [Z (by unfold fp_R; omega)]; exact fr
    · rw [Z (by unfold fp_R; omega)]; exact fq
    · exact bo_C_fr (gz.2.1 15 _ (by unfold fp_R; omega)) (gz.2.1 16 _ (by unfold fp_R; omega)) (gz.2.2.2 15 _ (by unfold fp_R; omega)) (gz.2.2.2 16 _ (by unfold fp_R; omega)) fC
