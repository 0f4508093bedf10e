/-! the reference's pens, shakes, what it saves and puts back -/
section MODEL2
variable {w : pw_W} {e : pw_E} {N : Nat}
theorem en_at {u : pa_S} (he : en_M u e N) (hc : wo_M u w) (hb : wo_b w < N) : (∀ po, wp_X7_room u po = po (nI (en_r e (wo_b w)))) ∧ (∀ po, wp_X7_press u po = po (nI (en_q e (wo_b w)))) :=
  have z := he _ hb u (fun f _ => ⟨rfl, fun _ _ => ⟨rfl, rfl, rfl, rfl⟩, fun _ _ => rfl⟩) hc.2.2.2.1
  ⟨z.1, z.2.1⟩
theorem mp_draws {u : pa_S} {h l n : Nat} {po : Int32 → pa_S → Prop} (hf : wo_WF w) (hc : wo_M u w) (he : en_M u e N) (hw : en_WF e N) (hb : wo_b w < N) (hh : h < wo_n w) (hl : l < 3) (hn : n ≤ 60)
    (hk : ∀ v, wo_M v (wo_dw e w h l n) → fr_of fp_w u v → po (nI (wo_dm e w h l n)) v) : wp_X7_draws u (nI h) (nI l) (nI n) po := by
  have h5 := hf.1
  have a := hf.2.2.1 (3 * h + l) (by omega)
  have i9 := hf.2.2.2.2.1
  have r := (hw _ hb).1
  have m := wo_dm_le (n := n) hf hw hb hh hl
  unfold wp_X7_draws wb_X7_draws_0
  rw [hc.2.1, mp_least (by omega) (by omega), (en_at he hc hb).1, pw_n3, pk_mul, nI_add, pw_and (vp_in_nI (by omega) (by omega)), nI_clamp (by omega), hc.2.2.2.2.2.1 _ (show 3 * h + l < 3 * wo_n w by omega), mp_least0, pw_sub0 (by omega) (by omega), mp_least (by omega) (by omega)]
  simp only [forall_eq]
  rw [pw_and (vp_in_nI (by omega) (by omega)), pw_and (vp_in_nI (by omega) (by omega)), nI_clamp (by omega), hc.2.2.2.2.2.1 _ (show 3 * h + l < 3 * wo_n w by omega), nI_add]
  show po (nI (wo_dm e w h l n)) _
  refine hk _ ?_ (fr_sI (Or.inl ⟨rfl, Or.inr rfl⟩) (fr_sA (Or.inr (Or.inr (Or.inl rfl))) (fr_refl u)))
  obtain ⟨c1, c2, c3, c4, c6, c7, c8⟩ := hc
  refine ⟨?_, ?_, ?_, ?_, fun k hk => ?_, fun j hj => ?_, fun j hj => ?_⟩
  · rw [pI_sI, if_neg (by omega), pI_sA]; exact c1
  · rw [pI_sI, if_pos ⟨rfl, rfl, rfl⟩, pI_sA, c2]; exact pk_sub m.2.1
  · rw [pI_sI, if_neg (by omega), pI_sA]; exact c3
  · rw [pI_sI, if_neg (by omega), pI_sA]; exact c4
  · rw [pA_sI, pA_sA, pA_sA, pA_sA, if_neg (by omega), if_neg (by omega), if_neg (by omega)]; exact c6 k hk
  · rw [pA_sI, pA_sA, if_pos ⟨rfl, rfl⟩, pw_upd]
    show _ = nI (if j = 3 * h + l then wo_l w j + wo_dm e w h l n else wo_l w j)
    by_cases z : j = 3 * h + l
    · rw [if_pos z, if_pos z, z]; rfl
    · rw [if_neg z, if_neg z]; exact c7 j hj
  · rw [pA_sI, pA_sA, if_neg (by omega)]; exact c8 j hj
theorem mp_isCovered {u : pa_S} {h : Nat} {po : Int32 → Prop} (hf : wo_WF w) (hc : wo_M u w) (hh : h < wo_n w) : wp_X7_isCovered u (nI h) po = po (if wo_k w h = 3 ∨ wo_k w h = 6 then 1 else 0) := by
  have h5 := hf.1
  have a := (hf.2.1 h hh).1
  unfold wp_X7_isCovered wb_X7_isCovered_0
  rw [pw_and (vp_in_nI (by omega) (by omega)), nI_clamp (by omega), (hc.2.2.2.2.1 h hh).1, pw_and (vp_in_nI (by omega) (by omega))]
  simp (disch := omega) only [pw_n3, pw_n6, pw_eqI]
  by_cases h3 : wo_k w h = 3
  · rw [if_pos h3, if_pos (Or.inl h3)]
  · rw [if_neg h3]
    by_cases h6 : wo_k w h = 6
    · rw [if_pos h6, if_pos (Or.inr h6)]
    · rw [if_neg h6, if_neg (by omega)]
theorem pw_negd {a b : Nat} (ha : a < b) (hb : b < 2 ^ 30) : -(nI a - nI b) = nI (b - a) := by
  apply Int32.toInt_inj.mp
  rw [Int32.toInt_neg, pk_sub_toInt (by omega) hb, nI_toInt (by omega), show -((a : Int) - b) = ((b - a : Nat) : Int) by omega]
  exact Int.bmod_eq_of_le (by omega) (by omega)
theorem ml_prints {a b : Nat} {po : Int32 → pa_S → Prop} (hf : wo_WF w) (hw : en_WF e N) (hb : wo_b w < N) (ha : a < wo_n w) (hbn : b < wo_n w) (hab : a ≠ b) :
    ∀ (k f c : Nat) (u : pa_S), c + k = 3 → k < f → wo_M u (wo_pp e w a b c) → en_M u e N →
    (∀ v, wo_M v (wo_pp e w a b 3) → fr_of fp_w u v → po (nI (wo_pg (en_q e (wo_b w)) w a b 3)) v) →
    wl_X7_prints_65 po f u (nI a) (nI b) (nI (wo_pg (en_q e (wo_b w)) w a b c)) (nI c)
  | 0, f + 1, c, u, eq, _, hc, he, hk => by
    obtain rfl : c = 3 := by omega
    unfold wl_X7_prints_65 wb_X7_prints_65
    rw [if_pos (by decide)]
    exact hk u hc (fr_refl u)
  | k + 1, f + 1, c, u, eq, hlt, hc, he, hk => by
    have h5 := hf.1
    have q := (hw _ hb).2
    have la := hf.2.2.1 (3 * a + c) (by omega)
    have lb := hf.2.2.1 (3 * b + c) (by omega)
    have ea : pa_A u 28 0 (3 * a + c) = nI (wo_l w (3 * a + c)) := by
      rw [hc.2.2.2.2.2.1 (3 * a + c) (show 3 * a + c < 3 * wo_n w by omega)]
      show nI (wo_pl (en_q e (wo_b w)) w a b c (3 * a + c)) = _
      unfold wo_pl
      rw [if_neg (by omega), if_neg (by omega)]
    have eb : pa_A u 28 0 (3 * b + c) = nI (wo_l w (3 * b + c)) := by
      rw [hc.2.2.2.2.2.1 (3 * b + c) (show 3 * b + c < 3 * wo_n w by omega)]
      show nI (wo_pl (en_q e (wo_b w)) w a b c (3 * b + c)) = _
      unfold wo_pl
      rw [if_neg (by omega), if_neg (by omega)]
    have fin : ∀ (x m : Nat), (∀ j, j < 3 * wo_n w → (if j = 3 * x + c then nI m else pa_A u 28 0 j) = nI (wo_pl (en_q e (wo_b w)) w a b (c + 1) j)) →
        wo_M (pa_sA u 28 0 (upd (pa_A u 28 0) (3 * x + c) (nI m))) (wo_pp e w a b (c + 1)) := by
      intro x m hj
      obtain ⟨c1, c2, c3, c4, c6, c7, c8⟩ := hc
      refine ⟨c1, c2, c3, c4, fun k hk => ?_, fun j hj2 => ?_, fun j hj2 => ?_⟩
      · rw [pA_sA, pA_sA, pA_sA, if_neg (by omega), if_neg (by omega), if_neg (by omega)]; exact c6 k hk
      · rw [pA_sA, if_pos ⟨rfl, rfl⟩, pw_upd]; exact hj j hj2
      · rw [pA_sA, if_neg (by omega)]; exact c8 j hj2
    have c7 : ∀ j, j < 3 * wo_n w → pa_A u 28 0 j = nI (wo_pl (en_q e (wo_b w)) w a b c j) := hc.2.2.2.2.2.1
    have pr : ∀ po, wp_X7_press u po = po (nI (en_q e (wo_b w))) := (en_at he hc hb).2
    unfold wl_X7_prints_65 wb_X7_prints_65
    rw [if_neg (show ¬ (3 : Int32) ≤ nI c from nI_ge (b := 3) (by omega) (by omega)), pw_n3, pk_mul, pk_mul, nI_add, nI_add, pw_and (vp_in_nI (by omega) (by omega)), pw_and (vp_in_nI (by omega) (by omega)), nI_clamp (by omega), nI_clamp (by omega), ea, eb]
    simp only [forall_eq]
    by_cases h : wo_l w (3 * a + c) < wo_l w (3 * b + c)
    · rw [if_neg (by rw [Int32.not_le]; exact pk_sneg (by omega) h), pw_negd h (by omega)]
      unfold wb_X7_prints_109
      rw [pr]
      refine ⟨nI_ne0 (by omega) (by omega), ?_⟩
      simp only [forall_eq]
      rw [pk_div (by omega) (by omega) (by omega), if_pos (Int32.le_of_lt (pk_sneg (by omega) h)), pw_n3, pk_mul, nI_add, pw_and (vp_in_nI (by omega) (by omega)), pw_and (vp_in_nI (by omega) (by omega)), nI_clamp (by omega), ea, nI_add]
      unfold wb_X7_prints_156
      simp only [forall_eq, pw_n1, nI_add]
      have pm : wo_pm (en_q e (wo_b w)) (wo_l w (3 * a + c)) (wo_l w (3 * b + c)) = (wo_l w (3 * b + c) - wo_l w (3 * a + c)) / en_q e (wo_b w) := if_pos h
      rw [← pm]
      refine ml_prints hf hw hb ha hbn hab k f (c + 1) _ (by omega) (by omega) (fin a _ (fun j hj => ?_)) (en_M_frw (fr_sA (Or.inr (Or.inr (Or.inl rfl))) (fr_refl u)) he) (fun v hv hg => hk v hv (fr_trans (fr_sA (Or.inr (Or.inr (Or.inl rfl))) (fr_refl u)) hg))
      by_cases z : j = 3 * a + c
      · subst z
        rw [if_pos rfl, pm]
        unfold wo_pl
        rw [if_pos (by omega), show (3 * a + c) % 3 = c by omega]
        unfold wo_pf
        rw [if_pos h]
      · rw [if_neg z, c7 j hj]
        apply congrArg nI
        unfold wo_pl
        by_cases z2 : j = 3 * b + c
        · subst z2
          rw [if_neg (by omega), if_neg (by omega), if_neg (by omega), if_pos (by omega), show (3 * b + c) % 3 = c by omega]
          exact (if_neg (by omega)).symm
        · by_cases y1 : j % 3 < c ∧ j / 3 = a
          · rw [if_pos y1, if_pos (by omega)]
          · rw [if_neg y1, if_neg (show ¬ (j % 3 < c + 1 ∧ j / 3 = a) by omega)]
            by_cases y2 : j % 3 < c ∧ j / 3 = b
            · rw [if_pos y2, if_pos (by omega)]
            · rw [if_neg y2, if_neg (by omega)]
    · rw [pk_sub (by omega), if_pos (nI_pos' (by omega))]
      unfold wb_X7_prints_109
      rw [pr]
      refine ⟨nI_ne0 (by omega) (by omega), ?_⟩
      simp only [forall_eq]
      rw [pk_div (by omega) (by omega) (by omega)]
      have pm : wo_pm (en_q e (wo_b w)) (wo_l w (3 * a + c)) (wo_l w (3 * b + c)) = (wo_l w (3 * a + c) - wo_l w (3 * b + c)) / en_q e (wo_b w) := if_neg h
      rw [← pm]
      by_cases h2 : wo_l w (3 * a + c) = wo_l w (3 * b + c)
      · rw [if_pos (show nI (wo_l w (3 * a + c) - wo_l w (3 * b + c)) ≤ 0 by rw [show wo_l w (3 * a + c) - wo_l w (3 * b + c) = 0 by omega]; decide), pw_n3, pk_mul, nI_add, pw_and (vp_in_nI (by omega) (by omega)), pw_and (vp_in_nI (by omega) (by omega)), nI_clamp (by omega), ea, nI_add]
        unfold wb_X7_prints_156
        simp only [forall_eq, pw_n1, nI_add]
        have pm0 : wo_pm (en_q e (wo_b w)) (wo_l w (3 * a + c)) (wo_l w (3 * b + c)) = 0 := by rw [pm, show wo_l w (3 * a + c) - wo_l w (3 * b + c) = 0 by omega]; exact Nat.zero_div _
        refine ml_prints hf hw hb ha hbn hab k f (c + 1) _ (by omega) (by omega) (fin a _ (fun j hj => ?_)) (en_M_frw (fr_sA (Or.inr (Or.inr (Or.inl rfl))) (fr_refl u)) he) (fun v hv hg => hk v hv (fr_trans (fr_sA (Or.inr (Or.inr (Or.inl rfl))) (fr_refl u)) hg))
        rw [pm0]
        by_cases z : j = 3 * a + c
        · subst z
          rw [if_pos rfl]
          unfold wo_pl
          rw [if_pos (by omega), show (3 * a + c) % 3 = c by omega]
          unfold wo_pf
          rw [if_neg h]; rfl
        · rw [if_neg z, c7 j hj]
          apply congrArg nI
          unfold wo_pl
          by_cases z2 : j = 3 * b + c
          · subst z2
            rw [if_neg (by omega), if_neg (by omega), if_neg (by omega), if_pos (by omega), show (3 * b + c) % 3 = c by omega]
            exact (if_neg (by omega)).symm
          · by_cases y1 : j % 3 < c ∧ j / 3 = a
            · rw [if_pos y1, if_pos (by omega)]
            · rw [if_neg y1, if_neg (show ¬ (j % 3 < c + 1 ∧ j / 3 = a) by omega)]
              by_cases y2 : j % 3 < c ∧ j / 3 = b
              · rw [if_pos y2, if_pos (by omega)]
              · rw [if_neg y2, if_neg (by omega)]
      · rw [if_neg (nI_nle (by omega) (by omega)), pw_n3, pk_mul, nI_add, pw_and (vp_in_nI (by omega) (by omega)), pw_and (vp_in_nI (by omega) (by omega)), nI_clamp (by omega), eb, nI_add]
        unfold wb_X7_prints_156
        simp only [forall_eq, pw_n1, nI_add]
        refine ml_prints hf hw hb ha hbn hab k f (c + 1) _ (by omega) (by omega) (fin b _ (fun j hj => ?_)) (en_M_frw (fr_sA (Or.inr (Or.inr (Or.inl rfl))) (fr_refl u)) he) (fun v hv hg => hk v hv (fr_trans (fr_sA (Or.inr (Or.inr (Or.inl rfl))) (fr_refl u)) hg))
        by_cases z : j = 3 * b + c
        · subst z
          rw [if_pos rfl, pm]
          unfold wo_pl
          rw [if_neg (by omega), if_pos (by omega), show (3 * b + c) % 3 = c by omega]
          unfold wo_pf
          rw [if_pos (by omega)]
        · rw [if_neg z, c7 j hj]
          apply congrArg nI
          unfold wo_pl
          by_cases z2 : j = 3 * a + c
          · subst z2
            rw [if_neg (by omega), if_neg (by omega), if_pos (by omega), show (3 * a + c) % 3 = c by omega]
            exact (if_neg (by omega)).symm
          · by_cases y1 : j % 3 < c ∧ j / 3 = a
            · rw [if_pos y1, if_pos (by omega)]
            · rw [if_neg y1, if_neg (show ¬ (j % 3 < c + 1 ∧ j / 3 = a) by omega)]
              by_cases y2 : j % 3 < c ∧ j / 3 = b
              · rw [if_pos y2, if_pos (by omega)]
              · rw [if_neg y2, if_neg (by omega)]
theorem mp_prints {u : pa_S} {a b : Nat} {po : Int32 → pa_S → Prop} (hf : wo_WF w) (hc : wo_M u w) (he : en_M u e N) (hw : en_WF e N) (hb : wo_b w < N) (ha : a < wo_n w) (hbn : b < wo_n w) (hab : a ≠ b)
    (hk : ∀ v, wo_M v (wo_hw e w a b) → fr_of fp_w u v → po (nI (wo_hg e w a b)) v) : wp_X7_prints u (nI a) (nI b) po := by
  have h5 := hf.1
  have sa := (hf.2.1 a ha).2.2
  have sb := (hf.2.1 b hbn).2.2
  unfold wp_X7_prints wb_X7_prints_0
  rw [pw_and (vp_in_nI (by omega) (by omega)), nI_clamp (by omega), (hc.2.2.2.2.1 a ha).2.2, pw_n1, nI_add, pw_n9999, mp_least (by omega) (by omega), pw_and (vp_in_nI (by omega) (by omega))]
  simp only [forall_eq, pw_sA_sA, pA_sA, and_self, if_true, pw_upd]
  rw [pw_and (vp_in_nI (by omega) (by omega)), nI_clamp (by omega), if_neg (by omega), (hc.2.2.2.2.1 b hbn).2.2, nI_add, mp_least (by omega) (by omega), pw_and (vp_in_nI (by omega) (by omega))]
  generalize hX : pa_sA u 27 0 (upd (upd (pa_A u 27 0) a (nI (min (wo_s w a + 1) 9999))) b (nI (min (wo_s w b + 1) 9999))) = X
  have hg : fr_of fp_w u X := by rw [← hX]; exact fr_sA (Or.inr (Or.inl rfl)) (fr_refl u)
  have hX0 : wo_M X (wo_pp e w a b 0) := by
    rw [← hX]
    obtain ⟨c1, c2, c3, c4, c6, c7, c8⟩ := hc
    refine ⟨c1, c2, c3, c4, fun k hk => ?_, fun j hj2 => ?_, fun j hj2 => ?_⟩
    · rw [pA_sA, pA_sA, pA_sA, if_neg (by omega), if_neg (by omega), if_pos ⟨rfl, rfl⟩]
      refine ⟨(c6 k hk).1, (c6 k hk).2.1, ?_⟩
      rw [pw_upd, pw_upd, (c6 k hk).2.2]
      show _ = nI (if k = a ∨ k = b then min 9999 (wo_s w k + 1) else wo_s w k)
      by_cases z : k = b
      · rw [if_pos z, if_pos (Or.inr z), z, Nat.min_comm]
      · rw [if_neg z]
        by_cases z2 : k = a
        · rw [if_pos z2, if_pos (Or.inl z2), z2, Nat.min_comm]
        · rw [if_neg z2, if_neg (by omega)]
    · rw [pA_sA, if_neg (by omega), c7 j hj2]
      show _ = nI (wo_pl (en_q e (wo_b w)) w a b 0 j)
      unfold wo_pl
      rw [if_neg (by omega), if_neg (by omega)]
    · rw [pA_sA, if_neg (by omega)]; exact c8 j hj2
  have hf0 := wo_WF_pp (c := 0) hf hw hb ha hbn
  rw [mp_isCovered hf0 hX0 ha]
  have ka : wo_k (wo_pp e w a b 0) = wo_k w := rfl
  rw [ka]
  unfold wo_hg wo_hw at hk
  by_cases y1 : wo_k w a = 3 ∨ wo_k w a = 6
  · rw [if_pos y1, if_neg (by decide)]
    rw [if_pos (Or.inl y1), if_pos (Or.inl y1)] at hk
    exact hk X hX0 hg
  · rw [if_neg y1, if_pos rfl, mp_isCovered hf0 hX0 hbn, ka]
    by_cases y2 : wo_k w b = 3 ∨ wo_k w b = 6
    · rw [if_pos y2, if_neg (by decide)]
      rw [if_pos (Or.inr y2), if_pos (Or.inr y2)] at hk
      exact hk X hX0 hg
    · rw [if_neg y2, if_pos rfl, pw_n0]
      rw [if_neg (by simp only [y1, y2, or_self, not_false_eq_true]), if_neg (by simp only [y1, y2, or_self, not_false_eq_true])] at hk
      exact ml_prints hf hw hb ha hbn hab 3 5000 0 X (by omega) (by omega) hX0 (en_M_frw hg he) (fun v hv hg2 => hk v hv (fr_trans hg hg2))
end MODEL2
