/-! shakes of the class's scenes; a scene becomes another -/
theorem pw_absd {a b : Nat} (ha : a < 2 ^ 30) (hb : b < 2 ^ 30) : pa_abs (nI a - nI b) = nI (if a < b then b - a else a - b) := by
  unfold pa_abs
  by_cases h : a < b
  · have z := pk_sneg (a := a) (b := b) hb h
    rw [if_pos h, if_neg (by rw [Int32.not_le]; exact z)]
    apply Int32.toInt_inj.mp
    rw [Int32.toInt_sub, pk_sub_toInt ha hb, nI_toInt (by omega)]
    show (0 - ((a : Int) - b)).bmod _ = _
    rw [show (0 - ((a : Int) - b)) = ((b - a : Nat) : Int) by omega]
    exact Int.bmod_eq_of_le (by omega) (by omega)
  · rw [if_neg h, pk_sub (by omega), if_pos (nI_pos' (by omega))]
section SHAKE
variable {s N : Nat} {w : pw_W} {e : pw_E}
theorem sp_wearsGloves {u : pa_S} {h : Nat} {po : Int32 → Prop} (hf : wo_WF w) (hc : wo_C u s w) (hh : h < wo_n w) : wp_X3_wearsGloves u s (nI h) po = po (if wo_k w h = 3 ∨ wo_k w h = 6 then 1 else 0) := by
  have a := (hf.2.1 h hh).1
  unfold wp_X3_wearsGloves wb_X3_wearsGloves_0
  rw [sp_kindOf hf hc hh]
  simp (disch := omega) only [pw_n3, pw_n6, pw_eqI]
  by_cases h3 : wo_k w h = 3
  · rw [if_pos h3, if_pos (Or.inl h3)]
  · rw [if_neg h3]
    by_cases h6 : wo_k w h = 6
    · rw [if_pos h6, if_pos (Or.inr h6)]
    · rw [if_neg h6, if_neg (by omega)]
/-- the line c is printed -/
theorem sp_printLine {u : pa_S} {a b c : Nat} {po : Int32 → pa_S → Prop} (hf : wo_WF w) (hc : wo_C u s (wo_pp e w a b c)) (he : en_C u e) (hw : en_WF e N) (hb : wo_b w < N) (ha : a < wo_n w) (hbn : b < wo_n w) (hab : a ≠ b) (hl : c < 3)
    (hk : ∀ v, wo_C v s (wo_pp e w a b (c + 1)) → fr_of (fp_5 s) u v → po (nI (wo_pm (en_q e (wo_b w)) (wo_l w (3 * a + c)) (wo_l w (3 * b + c)))) v) : wp_X3_printLine u s (nI a) (nI b) (nI c) po := by
  have q := (hw _ hb).2
  have la := hf.2.2.1 (3 * a + c) (by omega)
  have lb := hf.2.2.1 (3 * b + c) (by omega)
  have hf' := wo_WF_pp (c := c) hf hw hb ha hbn
  have ea : wo_l (wo_pp e w a b c) (3 * a + c) = wo_l w (3 * a + c) := by
    show wo_pl _ w a b c (3 * a + c) = _
    unfold wo_pl
    rw [if_neg (by omega), if_neg (by omega)]
  have eb : wo_l (wo_pp e w a b c) (3 * b + c) = wo_l w (3 * b + c) := by
    show wo_pl _ w a b c (3 * b + c) = _
    unfold wo_pl
    rw [if_neg (by omega), if_neg (by omega)]
  have r25 : ∀ (x : Nat) (d : Int32) (m : Nat), x < wo_n w → pa_abs d = nI m → m ≤ 60 →
      (∀ v, v = pa_sA u 5 s (upd (pa_A u 5 s) (3 * x + c) (nI (wo_l (wo_pp e w a b c) (3 * x + c) + m / en_q e (wo_b w)))) → po (nI (m / en_q e (wo_b w))) v) → wb_X3_printLine_25 u s (nI c) d (nI x) po := by
    intro x d m hx hd hm hp
    unfold wb_X3_printLine_25
    rw [show pa_N u 1 s = wo_b w from hc.2.2.2.1]
    refine ⟨hc.2.2.2.2.1, ?_⟩
    simp only [forall_eq]
    rw [show pa_I u 14 (wo_b w) 3 = nI (en_q e (wo_b w)) from (he _ hc.2.2.2.2.1).2.1, hd]
    show if nI (en_q e (wo_b w)) ≤ 0 then _ else _
    rw [if_neg (nI_nle (by omega) (by omega))]
    refine ⟨nI_ne0 (by omega) (by omega), ?_⟩
    rw [pk_div (by omega) (by omega) (by omega)]
    unfold wb_X3_printLine_53
    rw [sp_lengthOf hf' hc hx hl, sp_putLength hf' hc hx hl, nI_add]
    exact hp _ rfl
  have fin : ∀ (x m : Nat), x < wo_n w → (∀ j, j < 3 * wo_n w → (if j = 3 * x + c then wo_l (wo_pp e w a b c) (3 * x + c) + m else wo_l (wo_pp e w a b c) j) = wo_l (wo_pp e w a b (c + 1)) j) →
      wo_C (pa_sA u 5 s (upd (pa_A u 5 s) (3 * x + c) (nI (wo_l (wo_pp e w a b c) (3 * x + c) + m)))) s (wo_pp e w a b (c + 1)) := by
    intro x m hx hj
    obtain ⟨c1, c2, c3, c4, c5, c6, c7, c8⟩ := hc
    refine ⟨c1, c2, c3, c4, c5, fun k hk => ?_, fun j hj2 => ?_, fun j hj2 => ?_⟩
    · rw [pA_sA, pA_sA, pA_sA, if_neg (by omega), if_neg (by omega), if_neg (by omega)]; exact c6 k hk
    · rw [pA_sA, if_pos ⟨rfl, rfl⟩, pw_upd, ← hj j hj2]
      by_cases z : j = 3 * x + c
      · rw [if_pos z, if_pos z]
      · rw [if_neg z, if_neg z]; exact c7 j hj2
    · rw [pA_sA, if_neg (by omega)]; exact c8 j hj2
  unfold wp_X3_printLine wb_X3_printLine_0
  rw [sp_lengthOf hf' hc ha hl, sp_lengthOf hf' hc hbn hl, ea, eb]
  simp only [forall_eq]
  by_cases h : wo_l w (3 * a + c) < wo_l w (3 * b + c)
  · rw [if_neg (by rw [Int32.not_le]; exact pk_sneg (by omega) h)]
    refine r25 a _ (wo_l w (3 * b + c) - wo_l w (3 * a + c)) ha (by rw [pw_absd (by omega) (by omega), if_pos h]) (by omega) (fun v hv => ?_)
    subst hv
    have hk2 := hk (pa_sA u 5 s (upd (pa_A u 5 s) (3 * a + c) (nI (wo_l (wo_pp e w a b c) (3 * a + c) + (wo_l w (3 * b + c) - wo_l w (3 * a + c)) / en_q e (wo_b w)))))
    rw [show wo_pm (en_q e (wo_b w)) (wo_l w (3 * a + c)) (wo_l w (3 * b + c)) = (wo_l w (3 * b + c) - wo_l w (3 * a + c)) / en_q e (wo_b w) from if_pos h] at hk2
    refine hk2 (fin a _ ha (fun j hj => ?_)) (fr_sA (by unfold fp_5; omega) (fr_refl u))
    by_cases z : j = 3 * a + c
    · subst z
      rw [if_pos rfl, ea]
      show _ = wo_pl _ w a b (c + 1) (3 * a + c)
      unfold wo_pl wo_pf
      rw [if_pos (by omega), show (3 * a + c) % 3 = c by omega, if_pos h]
    · rw [if_neg z]
      show wo_pl _ w a b c j = wo_pl _ w a b (c + 1) j
      unfold wo_pl
      by_cases z2 : j = 3 * b + c
      · subst z2
        rw [if_neg (by omega), if_neg (by omega), if_neg (by omega), if_pos (by omega), show (3 * b + c) % 3 = c by omega]
        exact (if_neg (by omega)).symm
      · by_cases y1 : j % 3 < c ∧ j / 3 = a
        · rw [if_pos y1, if_pos (by omega)]
        · rw [if_neg y1, if_neg (show ¬ (j % 3 < c + 1 ∧ j / 3 = a) by omega)]
          by_cases y2 : j % 3 < c ∧ j / 3 = b
          · rw [if_pos y2, if_pos (by omega)]
          · rw [if_neg y2, if_neg (by omega)]
  · rw [if_pos (by rw [pk_sub (by omega)]; exact nI_pos' (by omega))]
    refine r25 b _ (wo_l w (3 * a + c) - wo_l w (3 * b + c)) hbn (by rw [pw_absd (by omega) (by omega), if_neg h]) (by omega) (fun v hv => ?_)
    subst hv
    have hk2 := hk (pa_sA u 5 s (upd (pa_A u 5 s) (3 * b + c) (nI (wo_l (wo_pp e w a b c) (3 * b + c) + (wo_l w (3 * a + c) - wo_l w (3 * b + c)) / en_q e (wo_b w)))))
    rw [show wo_pm (en_q e (wo_b w)) (wo_l w (3 * a + c)) (wo_l w (3 * b + c)) = (wo_l w (3 * a + c) - wo_l w (3 * b + c)) / en_q e (wo_b w) from if_neg h] at hk2
    refine hk2 (fin b _ hbn (fun j hj => ?_)) (fr_sA (by unfold fp_5; omega) (fr_refl u))
    by_cases z : j = 3 * b + c
    · subst z
      rw [if_pos rfl, eb]
      show _ = wo_pl _ w a b (c + 1) (3 * b + c)
      unfold wo_pl wo_pf
      rw [if_neg (by omega), if_pos (by omega), show (3 * b + c) % 3 = c by omega]
      by_cases h2 : wo_l w (3 * b + c) < wo_l w (3 * a + c)
      · rw [if_pos h2]
      · rw [if_neg h2, show wo_l w (3 * a + c) - wo_l w (3 * b + c) = 0 by omega, Nat.zero_div]; rfl
    · rw [if_neg z]
      show wo_pl _ w a b c j = wo_pl _ w a b (c + 1) j
      unfold wo_pl
      by_cases z2 : j = 3 * a + c
      · subst z2
        rw [if_neg (by omega), if_neg (by omega), if_pos (by omega), show (3 * a + c) % 3 = c by omega]
        exact (if_neg (by omega)).symm
      · by_cases y1 : j % 3 < c ∧ j / 3 = a
        · rw [if_pos y1, if_pos (by omega)]
        · rw [if_neg y1, if_neg (show ¬ (j % 3 < c + 1 ∧ j / 3 = a) by omega)]
          by_cases y2 : j % 3 < c ∧ j / 3 = b
          · rw [if_pos y2, if_pos (by omega)]
          · rw [if_neg y2, if_neg (by omega)]
/-- a shake: the sum and the world after -/
def wo_hg (e : pw_E) (w : pw_W) (a b : Nat) : Nat := if (wo_k w a = 3 ∨ wo_k w a = 6) ∨ (wo_k w b = 3 ∨ wo_k w b = 6) then 0 else wo_pg (en_q e (wo_b w)) w a b 3
def wo_hw (e : pw_E) (w : pw_W) (a b : Nat) : pw_W := if (wo_k w a = 3 ∨ wo_k w a = 6) ∨ (wo_k w b = 3 ∨ wo_k w b = 6) then wo_pp e w a b 0 else wo_pp e w a b 3
theorem wo_WF_hw {a b : Nat} (hf : wo_WF w) (hw : en_WF e N) (hb : wo_b w < N) (ha : a < wo_n w) (hbb : b < wo_n w) : wo_WF (wo_hw e w a b) := by
  unfold wo_hw
  split <;> exact wo_WF_pp hf hw hb ha hbb
theorem sl_shakeLine {a b : Nat} {po : Int32 → pa_S → Prop} (hf : wo_WF w) (hw : en_WF e N) (hb : wo_b w < N) (ha : a < wo_n w) (hbn : b < wo_n w) (hab : a ≠ b) :
    ∀ (k f c : Nat) (u : pa_S), c + k = 3 → k < f → wo_C u s (wo_pp e w a b c) → en_C u e →
    (∀ v, wo_C v s (wo_pp e w a b 3) → fr_of (fp_5 s) u v → po (nI (wo_pg (en_q e (wo_b w)) w a b 3)) v) →
    wl_X3_shakeHands_81 s po f u (nI a) (nI b) (nI (wo_pg (en_q e (wo_b w)) w a b c)) (nI c)
  | 0, f + 1, c, u, eq, _, hc, he, hk => by
    obtain rfl : c = 3 := by omega
    unfold wl_X3_shakeHands_81 wb_X3_shakeHands_81
    rw [if_pos (by decide)]
    exact hk u hc (fr_refl u)
  | k + 1, f + 1, c, u, eq, hlt, hc, he, hk => by
    unfold wl_X3_shakeHands_81 wb_X3_shakeHands_81
    rw [if_neg (show ¬ (3 : Int32) ≤ nI c from nI_ge (b := 3) (by omega) (by omega))]
    refine sp_printLine hf hc he hw hb ha hbn hab (by omega) (fun v hv hg => ?_)
    simp only [forall_eq, pw_n1, nI_add]
    exact sl_shakeLine hf hw hb ha hbn hab k f (c + 1) v (by omega) (by omega) hv (en_C_fro (s := s) (fr_mono (fun _ _ _ z => fp_5o z) hg) he) (fun v2 h2 hg2 => hk v2 h2 (fr_trans hg hg2))
theorem sp_shakeHands {u : pa_S} {a b : Nat} {po : Int32 → pa_S → Prop} (hf : wo_WF w) (hc : wo_C u s w) (he : en_C u e) (hw : en_WF e N) (hb : wo_b w < N) (ha : a < wo_n w) (hbn : b < wo_n w) (hab : a ≠ b)
    (hk : ∀ v, wo_C v s (wo_hw e w a b) → fr_of (fp_o s) u v → (∀ h, h ≠ a → h ≠ b → pa_A v 4 s h = pa_A u 4 s h) → po (nI (wo_hg e w a b)) v) : wp_X3_shakeHands u s (nI a) (nI b) po := by
  have h5 := hf.1
  have sa := (hf.2.1 a ha).2.2
  have sb := (hf.2.1 b hbn).2.2
  unfold wp_X3_shakeHands wb_X3_shakeHands_0
  rw [sp_has hf hc ha, if_neg (by decide), sp_has hf hc hbn, if_neg (by decide), pw_and (vp_in_nI (by omega) (by omega)), pw_and (vp_in_nI (by omega) (by omega)), nI_clamp (by omega), nI_clamp (by omega)]
  simp only [forall_eq, pw_sA_sA, pA_sA, and_self, if_true, pw_upd]
  rw [pw_and (vp_in_nI (by omega) (by omega)), pw_and (vp_in_nI (by omega) (by omega)), if_neg (by omega), (hc.2.2.2.2.2.1 a ha).2.2, (hc.2.2.2.2.2.1 b hbn).2.2, pw_n9999, pw_n1, nI_add, nI_add, pw_min (by omega) (by omega), pw_min (by omega) (by omega)]
  generalize hX : pa_sA u 4 s (upd (upd (pa_A u 4 s) a (nI (min 9999 (wo_s w a + 1)))) b (nI (min 9999 (wo_s w b + 1)))) = X
  have hg : fr_of (fp_o s) u X := by rw [← hX]; exact fr_sA (by unfold fp_o; omega) (fr_refl u)
  have hz : ∀ h, h ≠ a → h ≠ b → pa_A X 4 s h = pa_A u 4 s h := by
    intro h h1 h2
    rw [← hX, pA_sA, if_pos ⟨rfl, rfl⟩, pw_upd, pw_upd, if_neg h2, if_neg h1]
  have hX0 : wo_C X s (wo_pp e w a b 0) := by
    rw [← hX]
    obtain ⟨c1, c2, c3, c4, c5, c6, c7, c8⟩ := hc
    refine ⟨c1, c2, c3, c4, c5, fun k hk => ?_, fun j hj2 => ?_, fun j hj2 => ?_⟩
    · rw [pA_sA, pA_sA, pA_sA, if_neg (by omega), if_neg (by omega), if_pos ⟨rfl, rfl⟩]
      refine ⟨(c6 k hk).1, (c6 k hk).2.1, ?_⟩
      rw [pw_upd, pw_upd, (c6 k hk).2.2]
      show _ = nI (if k = a ∨ k = b then min 9999 (wo_s w k + 1) else wo_s w k)
      by_cases z : k = b
      · rw [if_pos z, if_pos (Or.inr z), z]
      · rw [if_neg z]
        by_cases z2 : k = a
        · rw [if_pos z2, if_pos (Or.inl z2), z2]
        · rw [if_neg z2, if_neg (by omega)]
    · rw [pA_sA, if_neg (by omega), c7 j hj2]
      show _ = nI (wo_pl (en_q e (wo_b w)) w a b 0 j)
      unfold wo_pl
      rw [if_neg (by omega), if_neg (by omega)]
    · rw [pA_sA, if_neg (by omega)]; exact c8 j hj2
  have hf0 := wo_WF_pp (c := 0) hf hw hb ha hbn
  rw [sp_wearsGloves hf0 hX0 ha]
  have ka : wo_k (wo_pp e w a b 0) = wo_k w := rfl
  rw [ka]
  unfold wo_hg wo_hw at hk
  by_cases y1 : wo_k w a = 3 ∨ wo_k w a = 6
  · rw [if_pos y1, if_neg (by decide)]
    rw [if_pos (Or.inl y1), if_pos (Or.inl y1)] at hk
    exact hk X hX0 hg hz
  · rw [if_neg y1, if_pos rfl, sp_wearsGloves hf0 hX0 hbn, ka]
    by_cases y2 : wo_k w b = 3 ∨ wo_k w b = 6
    · rw [if_pos y2, if_neg (by decide)]
      rw [if_pos (Or.inr y2), if_pos (Or.inr y2)] at hk
      exact hk X hX0 hg hz
    · rw [if_neg y2, if_pos rfl, pw_n0]
      rw [if_neg (by simp only [y1, y2, or_self, not_false_eq_true]), if_neg (by simp only [y1, y2, or_self, not_false_eq_true])] at hk
      exact sl_shakeLine hf hw hb ha hbn hab 3 5000 0 X (by omega) (by omega) hX0 (en_C_fro hg he) (fun v hv hg2 => hk v hv (fr_trans hg (fr_mono (fun _ _ _ z => fp_5o z) hg2)) (fun h h1 h2 => by rw [hg2.2.1 4 s (by unfold fp_5; omega)]; exact hz h h1 h2))
/-- scene s becomes scene t -/
theorem sp_become {u : pa_S} {t : Nat} {po : pa_S → Prop} (hf : wo_WF w) (hc : wo_C u t w) (hst : s ≠ t)
    (hk : ∀ v, wo_C v s w → fr_of (fp_s s) u v → (∀ h, h < 5 → pa_A v 4 s h = pa_A u 4 t h) → (∀ j, j < 20 → pa_A v 6 s j = pa_A u 6 t j) → pa_N v 1 s = pa_N u 1 t → po v) : wp_X3_become u s t po := by
  have h5 := hf.1
  unfold wp_X3_become wb_X3_become_0
  simp only [forall_eq]
  obtain ⟨c1, c2, c3, c4, c5, c6, c7, c8⟩ := hc
  refine ⟨by simp only [pI_sI, pA_sA, pL_sL, pN_sN, pI_sA, pI_sL, pI_sN, pA_sI, pA_sL, pA_sN, pL_sI, pL_sA, pL_sN, pN_sI, pN_sA, pN_sL]; rw [c4]; exact c5, ?_⟩
  refine hk _ ?_ ?_ ?_ ?_ ?_
  · refine ⟨?_, ?_, ?_, ?_, ?_, fun k hk => ?_, fun j hj => ?_, fun j hj => ?_⟩
    · simp [pI_sI, pA_sA, pL_sL, pN_sN, pI_sA, pI_sL, pI_sN, pA_sI, pA_sL, pA_sN, pL_sI, pL_sA, pL_sN, pN_sI, pN_sA, pN_sL, hst, hst.symm]; exact c1
    · simp [pI_sI, pA_sA, pL_sL, pN_sN, pI_sA, pI_sL, pI_sN, pA_sI, pA_sL, pA_sN, pL_sI, pL_sA, pL_sN, pN_sI, pN_sA, pN_sL, hst, hst.symm]; exact c2
    · simp [pI_sI, pA_sA, pL_sL, pN_sN, pI_sA, pI_sL, pI_sN, pA_sI, pA_sL, pA_sN, pL_sI, pL_sA, pL_sN, pN_sI, pN_sA, pN_sL, hst, hst.symm]; exact c3
    · simp [pI_sI, pA_sA, pL_sL, pN_sN, pI_sA, pI_sL, pI_sN, pA_sI, pA_sL, pA_sN, pL_sI, pL_sA, pL_sN, pN_sI, pN_sA, pN_sL, hst, hst.symm]; exact c4
    · simp [pI_sI, pA_sA, pL_sL, pN_sN, pI_sA, pI_sL, pI_sN, pA_sI, pA_sL, pA_sN, pL_sI, pL_sA, pL_sN, pN_sI, pN_sA, pN_sL, hst, hst.symm]; exact c5
    · simp [pI_sI, pA_sA, pL_sL, pN_sN, pI_sA, pI_sL, pI_sN, pA_sI, pA_sL, pA_sN, pL_sI, pL_sA, pL_sN, pN_sI, pN_sA, pN_sL, hst, hst.symm]
      rw [pk_cpy_in (by omega) (by omega), pk_cpy_in (by omega) (by omega), pk_cpy_in (by omega) (by omega)]
      simpa using c6 k hk
    · simp [pI_sI, pA_sA, pL_sL, pN_sN, pI_sA, pI_sL, pI_sN, pA_sI, pA_sL, pA_sN, pL_sI, pL_sA, pL_sN, pN_sI, pN_sA, pN_sL, hst, hst.symm]
      rw [pk_cpy_in (by omega) (by omega)]
      simpa using c7 j hj
    · simp [pI_sI, pA_sA, pL_sL, pN_sN, pI_sA, pI_sL, pI_sN, pA_sI, pA_sL, pA_sN, pL_sI, pL_sA, pL_sN, pN_sI, pN_sA, pN_sL, hst, hst.symm]
      rw [pk_cpy_in (by omega) (by omega)]
      simpa using c8 j hj
  · exact fr_sN ⟨by omega, by omega, rfl⟩ (fr_sI ⟨by omega, by omega, rfl⟩ (fr_sI ⟨by omega, by omega, rfl⟩ (fr_sI ⟨by omega, by omega, rfl⟩ (fr_sA ⟨by omega, by omega, rfl⟩ (fr_sA ⟨by omega, by omega, rfl⟩ (fr_sA ⟨by omega, by omega, rfl⟩ (fr_sA ⟨by omega, by omega, rfl⟩ (fr_sA ⟨by omega, by omega, rfl⟩ (fr_refl u)))))))))
  · intro h hh
    simp [pI_sI, pA_sA, pL_sL, pN_sN, pI_sA, pI_sL, pI_sN, pA_sI, pA_sL, pA_sN, pL_sI, pL_sA, pL_sN, pN_sI, pN_sA, pN_sL, hst, hst.symm]
    rw [pk_cpy_in (by omega) (by omega)]
    simp
  · intro h hh
    simp [pI_sI, pA_sA, pL_sL, pN_sN, pI_sA, pI_sL, pI_sN, pA_sI, pA_sL, pA_sN, pL_sI, pL_sA, pL_sN, pN_sI, pN_sA, pN_sL, hst, hst.symm]
    rw [pk_cpy_in (by omega) (by omega)]
    simp
  · simp [pI_sI, pA_sA, pL_sL, pN_sN, pI_sA, pI_sL, pI_sN, pA_sI, pA_sL, pA_sN, pL_sI, pL_sA, pL_sN, pN_sI, pN_sA, pN_sL, hst, hst.symm]
end SHAKE
