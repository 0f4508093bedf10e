/-! the reference's world -/
/-- world cells that ops change; what a question may change -/
def fp_w (t i k : Nat) : Prop := (t = 24 ∧ (k = 1 ∨ k = 2)) ∨ t = 27 ∨ t = 28 ∨ t = 39
def fp_q (t i k : Nat) : Prop := (t = 24 ∧ (k = 1 ∨ k = 2 ∨ k = 26 ∨ k = 27 ∨ k = 35)) ∨ t = 27 ∨ t = 28 ∨ t = 39 ∨ t = 40 ∨ t = 41 ∨ t = 44 ∨ t = 45
def fp_g (t i k : Nat) : Prop := t = 39
theorem fp_gw {t i k : Nat} (h : fp_g t i k) : fp_w t i k := by unfold fp_g at h; unfold fp_w; omega
theorem fp_wq {t i k : Nat} (h : fp_w t i k) : fp_q t i k := by unfold fp_w at h; unfold fp_q; omega
def en_sm (u v : pa_S) (b : Nat) : Prop := ∀ f, b = f + 1 → pa_A v 31 0 f = pa_A u 31 0 f ∧
  (∀ j, j < 10 → pa_A v 32 0 (10 * f + j) = pa_A u 32 0 (10 * f + j) ∧ pa_A v 33 0 (10 * f + j) = pa_A u 33 0 (10 * f + j) ∧ pa_A v 34 0 (10 * f + j) = pa_A u 34 0 (10 * f + j) ∧ pa_A v 35 0 (10 * f + j) = pa_A u 35 0 (10 * f + j)) ∧
  (∀ j, j < 100 → pa_A v 36 0 (100 * f + j) = pa_A u 36 0 (100 * f + j))
def en_M1 (u : pa_S) (e : pw_E) (b : Nat) : Prop := ∀ v, en_sm u v b → pa_I v 24 0 9 = nI b - 1 →
  (∀ po, wp_X7_room v po = po (nI (en_r e b))) ∧ (∀ po, wp_X7_press v po = po (nI (en_q e b))) ∧
  (∀ (w : pw_W) (h l : Nat) (po : Int32 → pa_S → Prop), wo_WF w → wo_M v w → wo_b w = b → h < wo_n w → l < 3 → (∀ x, fr_of fp_g v x → po (nS (en_g e b (wo_f w h l))) x) → wp_X7_grace v (nI h) (nI l) po)
def en_M (u : pa_S) (e : pw_E) (N : Nat) : Prop := ∀ b, b < N → en_M1 u e b
theorem en_M_fr {P : Nat → Nat → Nat → Prop} {u v : pa_S} {e : pw_E} {N : Nat} (h : ∀ t i k, 31 ≤ t → t ≤ 36 → ¬ P t i k) (a : fr_of P u v) (c : en_M u e N) : en_M v e N := by
  intro b hb x hx
  refine c b hb x (fun f hf => ?_)
  obtain ⟨x1, x2, x3⟩ := hx f hf
  refine ⟨?_, fun j hj => ⟨?_, ?_, ?_, ?_⟩, fun j hj => ?_⟩
  · rw [x1, a.2.1 31 0 (h _ _ _ (by omega) (by omega))]
  · rw [(x2 j hj).1, a.2.1 32 0 (h _ _ _ (by omega) (by omega))]
  · rw [(x2 j hj).2.1, a.2.1 33 0 (h _ _ _ (by omega) (by omega))]
  · rw [(x2 j hj).2.2.1, a.2.1 34 0 (h _ _ _ (by omega) (by omega))]
  · rw [(x2 j hj).2.2.2, a.2.1 35 0 (h _ _ _ (by omega) (by omega))]
  · rw [x3 j hj, a.2.1 36 0 (h _ _ _ (by omega) (by omega))]
theorem en_M_frw {u v : pa_S} {e : pw_E} {N : Nat} (a : fr_of fp_w u v) (c : en_M u e N) : en_M v e N := en_M_fr (fun t i k _ _ z => by unfold fp_w at z; omega) a c
theorem en_M_frq {u v : pa_S} {e : pw_E} {N : Nat} (a : fr_of fp_q u v) (c : en_M u e N) : en_M v e N := en_M_fr (fun t i k _ _ z => by unfold fp_q at z; omega) a c
theorem wo_M_frg {u v : pa_S} {w : pw_W} (a : fr_of fp_g u v) (c : wo_M u w) : wo_M v w := by
  obtain ⟨c1, c2, c3, c4, c5, c6, c7⟩ := c
  have n : ∀ t i k, t ≤ 29 → ¬ fp_g t i k := fun t i k h z => by unfold fp_g at z; omega
  refine ⟨(a.1 _ _ _ (n _ _ _ (by omega))).trans c1, (a.1 _ _ _ (n _ _ _ (by omega))).trans c2, (a.1 _ _ _ (n _ _ _ (by omega))).trans c3, (a.1 _ _ _ (n _ _ _ (by omega))).trans c4, fun k hk => ?_, fun j hj => ?_, fun j hj => ?_⟩
  · rw [a.2.1 25 0 (n _ _ _ (by omega)), a.2.1 26 0 (n _ _ _ (by omega)), a.2.1 27 0 (n _ _ _ (by omega))]; exact c5 k hk
  · rw [a.2.1 28 0 (n _ _ _ (by omega))]; exact c6 j hj
  · rw [a.2.1 29 0 (n _ _ _ (by omega))]; exact c7 j hj
theorem wo_M_congr {u : pa_S} {w w' : pw_W} (hc : wo_M u w) (h1 : wo_n w' = wo_n w) (h2 : ∀ h, h < wo_n w → wo_k w' h = wo_k w h ∧ wo_v w' h = wo_v w h ∧ wo_s w' h = wo_s w h) (h3 : ∀ j, j < 3 * wo_n w → wo_l w' j = wo_l w j) (h4 : ∀ j, j < 4 * wo_n w → wo_r w' j = wo_r w j) (h5 : wo_i w' = wo_i w) (h6 : wo_d w' = wo_d w) (h7 : wo_b w' = wo_b w) : wo_M u w' := by
  obtain ⟨c1, c2, c3, c4, c6, c7, c8⟩ := hc
  refine ⟨by rw [h1]; exact c1, by rw [h5]; exact c2, by rw [h6]; exact c3, by rw [h7]; exact c4, fun h hh => ?_, fun j hj => ?_, fun j hj => ?_⟩
  · rw [h1] at hh
    rw [(h2 h hh).1, (h2 h hh).2.1, (h2 h hh).2.2]
    exact c6 h hh
  · rw [h1] at hj
    rw [h3 j hj]; exact c7 j hj
  · rw [h1] at hj
    rw [h4 j hj]; exact c8 j hj
/-- the reference's rows of lengths and of shakes given -/
theorem wo_M_l {u : pa_S} {w : pw_W} {l : Nat → Nat} {f : Nat → Int32} (hc : wo_M u w) (hl : ∀ j, j < 3 * wo_n w → f j = nI (l j)) : wo_M (pa_sA u 28 0 f) (wo_wl w l) := by
  obtain ⟨c1, c2, c3, c4, c6, c7, c8⟩ := hc
  refine ⟨c1, c2, c3, c4, fun h hh => ?_, fun j hj => ?_, fun j hj => ?_⟩
  · rw [pA_sA, pA_sA, pA_sA, if_neg (by omega), if_neg (by omega), if_neg (by omega)]; exact c6 h hh
  · rw [pA_sA, if_pos ⟨rfl, rfl⟩]; exact hl j hj
  · rw [pA_sA, if_neg (by omega)]; exact c8 j hj
section MODEL
variable {w : pw_W} {e : pw_E} {N : Nat}
theorem mp_least {u : pa_S} {a b : Nat} {po : Int32 → Prop} (ha : a < 2 ^ 31) (hb : b < 2 ^ 31) : wp_X7_least u (nI a) (nI b) po = po (nI (min a b)) := by
  unfold wp_X7_least wb_X7_least_0
  by_cases h : b ≤ a
  · rw [if_pos (nI_le h ha), Nat.min_eq_right h]
  · rw [if_neg (nI_ge (by omega) hb), Nat.min_eq_left (by omega)]
theorem mp_least0 {u : pa_S} {x : Int32} {po : Int32 → Prop} : wp_X7_least0 u x po = po (pa_max 0 x) := by
  unfold wp_X7_least0 wb_X7_least0_0 pa_max
  by_cases h : 0 < x
  · rw [if_pos h, if_pos (Int32.le_of_lt h)]
  · rw [if_neg h]
    by_cases h2 : 0 ≤ x
    · rw [if_pos h2, show x = 0 from Int32.le_antisymm (Int32.not_lt.mp h) h2]
    · rw [if_neg h2]
theorem mp_in {u : pa_S} {a b c : Nat} {po : Int32 → Prop} (ha : a < 2 ^ 31) (hb : b < 2 ^ 31) (hc : c < 2 ^ 31) : wp_X7_in u (nI a) (nI b) (nI c) po = po (if b ≤ a ∧ a ≤ c then 1 else 0) := by
  unfold wp_X7_in wb_X7_in_0
  simp (disch := assumption) only [pw_ltI]
  by_cases h1 : a < b
  · rw [if_pos h1, if_neg (by omega)]
  · rw [if_neg h1]
    by_cases h2 : c < a
    · rw [if_pos h2, if_neg (by omega)]
    · rw [if_neg h2, if_pos (by omega)]
theorem mp_fades {u : pa_S} {h : Nat} {po : Int32 → Prop} (hf : wo_WF w) (hc : wo_M u w) (hh : h < wo_n w) : wp_X7_fades u (nI h) po = po (nI (wo_fade w h (wo_d w))) := by
  have h5 := hf.1
  have h6 := (hf.2.1 h hh).1
  have h9 := (hf.2.1 h hh).2.1
  have hd := hf.2.2.2.2.2
  have hm : wo_d w % 4 < 4 := Nat.mod_lt _ (by omega)
  obtain ⟨c1, c2, c3, c4, c6, c7, c8⟩ := hc
  unfold wp_X7_fades wb_X7_fades_0
  simp (disch := omega) only [c3, pw_n0, pw_n1, pw_n2, pw_n3, pw_n4, pw_n5, pw_n6, pw_n7, pw_n8, pw_n9, pw_n10, pw_n11, pw_n12, pw_n14, pw_n15, pw_n20, pw_n21, pw_n22, pw_n30, pw_n60, pw_n97, pw_n98, pw_n99, pw_n100, pw_n126, pw_n127, pw_n999, pw_n1000, pw_n9999, pw_ltI, pw_leI, pw_eqI, pw_in, nI_add, pk_mul, pw_rem, pw_sdiv, nI_clamp, true_and, and_true, forall_eq, if_true, if_false, ite_self, pw_max, pw_min, (c6 h hh).1, (c6 h hh).2.1, pw_ix4, c8]
  unfold wo_fade
  repeat' split
  all_goals rfl
/-- one line of one hand a day on -/
theorem ml_goLine {h : Nat} {k2 : pa_S → Int32 → Prop} {po : pa_S → Prop} (hf : wo_WF w) (hh : h < wo_n w) :
    ∀ (k f l : Nat) (u : pa_S), l + k = 3 → k < f → wo_M u (wo_gp w 1 (3 * h + l)) →
      (∀ v, wo_M v (wo_gp w 1 (3 * (h + 1))) → fr_of fp_w u v → k2 v (nI (h + 1))) →
      wl_X7_goDay_18 k2 po f u (nI h) (nI (wo_fade w h (wo_d w))) (nI l)
  | 0, f + 1, l, u, e, _, hc, hk => by
    obtain rfl : l = 3 := by omega
    unfold wl_X7_goDay_18 wb_X7_goDay_18
    rw [if_pos (by decide)]
    simp only [forall_eq, pw_n1, nI_add]
    exact hk u hc (fr_refl u)
  | k + 1, f + 1, l, u, e, hlt, hc, hk => by
    have h5 := hf.1
    have a := hf.2.2.1 (3 * h + l) (by omega)
    have b := wo_fade_le (d := wo_d w) hf hh
    have fo : wo_fo w h (wo_d w) 1 = wo_fade w h (wo_d w) := Nat.zero_add _
    unfold wl_X7_goDay_18 wb_X7_goDay_18
    rw [if_neg (show ¬ (3 : Int32) ≤ nI l from nI_ge (b := 3) (by omega) (by omega)), pw_n3, pk_mul, nI_add, pw_and (vp_in_nI (by omega) (by omega)), nI_clamp (by omega), hc.2.2.2.2.2.1 _ (show 3 * h + l < 3 * wo_n w by omega), mp_least0, pw_and (vp_in_nI (by omega) (by omega))]
    simp only [forall_eq, pw_n1, nI_add]
    have e1 : wo_l (wo_gp w 1 (3 * h + l)) (3 * h + l) = wo_l w (3 * h + l) := if_neg (by omega)
    rw [e1, pw_sub0 (by omega) (by omega)]
    refine ml_goLine hf hh k f (l + 1) _ (by omega) (by omega) ?_ (fun v hv hg => hk v hv (fr_trans (fr_sA (Or.inr (Or.inr (Or.inl rfl))) (fr_refl u)) hg))
    refine wo_M_congr (wo_M_l (l := wo_gl w 1 (3 * h + (l + 1))) hc (fun j hj => ?_)) rfl (fun _ _ => ⟨rfl, rfl, rfl⟩) (fun _ _ => rfl) (fun _ _ => rfl) rfl rfl rfl
    rw [pw_upd]
    by_cases hj2 : j = 3 * h + l
    · subst hj2
      rw [if_pos rfl]
      unfold wo_gl
      rw [if_pos (by omega), show (3 * h + l) / 3 = h by omega, fo]
    · rw [if_neg hj2, hc.2.2.2.2.2.1 j hj]
      show nI (wo_gl w 1 (3 * h + l) j) = _
      unfold wo_gl
      by_cases h3 : j < 3 * h + l
      · rw [if_pos h3, if_pos (by omega)]
      · rw [if_neg h3, if_neg (by omega)]
theorem ml_goHand {po : pa_S → Prop} (hf : wo_WF w) :
    ∀ (k f h : Nat) (u : pa_S), h + k = wo_n w → k < f → wo_M u (wo_gp w 1 (3 * h)) →
      (∀ v, wo_M v (wo_go w 1) → fr_of fp_w u v → po v) → wl_X7_goDay_2 po f u (nI h)
  | 0, f + 1, h, u, e, _, hc, hk => by
    have h5 := hf.1
    have hd := hf.2.2.2.2.2
    obtain rfl : h = wo_n w := by omega
    unfold wl_X7_goDay_2 wb_X7_goDay_2
    rw [show pa_I u 24 0 0 = nI (wo_n w) from hc.1, if_pos (nI_le (Nat.le_refl _) (show wo_n w < 2 ^ 31 by omega))]
    simp only [forall_eq]
    refine hk _ ?_ (fr_sI (Or.inl ⟨rfl, Or.inl rfl⟩) (fr_refl u))
    obtain ⟨c1, c2, c3, c4, c6, c7, c8⟩ := hc
    refine ⟨?_, ?_, ?_, ?_, c6, fun j hj => ?_, c8⟩
    · rw [pI_sI, if_neg (by omega)]; exact c1
    · rw [pI_sI, if_neg (by omega)]; exact c2
    · rw [pI_sI, if_pos ⟨rfl, rfl, rfl⟩, c3]; exact nI_add _ _
    · rw [pI_sI, if_neg (by omega)]; exact c4
    · rw [pA_sI, c7 j hj]
      exact congrArg nI (if_pos hj)
  | k + 1, f + 1, h, u, e, hlt, hc, hk => by
    have h5 := hf.1
    unfold wl_X7_goDay_2 wb_X7_goDay_2
    rw [show pa_I u 24 0 0 = nI (wo_n w) from hc.1, if_neg (nI_ge (show h < wo_n w by omega) (show wo_n w < 2 ^ 31 by omega)), mp_fades (wo_WF_gp hf) hc (show h < wo_n w by omega), pw_n0]
    exact ml_goLine hf (show h < wo_n w by omega) 3 5000 0 u (by omega) (by omega) hc (fun v hv hg => ml_goHand hf k f (h + 1) v (by omega) (by omega) hv (fun v2 hv2 hg2 => hk v2 hv2 (fr_trans hg hg2)))
theorem mp_goDay {u : pa_S} {po : pa_S → Prop} (hf : wo_WF w) (hc : wo_M u w) (hk : ∀ v, wo_M v (wo_go w 1) → fr_of fp_w u v → po v) : wp_X7_goDay u po := by
  have h5 := hf.1
  unfold wp_X7_goDay wb_X7_goDay_0
  rw [pw_n0]
  exact ml_goHand hf (wo_n w) 5000 0 u (by omega) (by omega) (wo_M_congr hc rfl (fun _ _ => ⟨rfl, rfl, rfl⟩) (fun j _ => (show wo_gl w 1 0 j = wo_l w j from if_neg (Nat.not_lt_zero j))) (fun _ _ => rfl) rfl rfl rfl) hk
theorem wo_go_go {n : Nat} {u : pa_S} (hc : wo_M u (wo_go (wo_go w n) 1)) : wo_M u (wo_go w (n + 1)) := by
  refine wo_M_congr hc rfl (fun _ _ => ⟨rfl, rfl, rfl⟩) (fun j _ => ?_) (fun _ _ => rfl) rfl rfl rfl
  show wo_l w j - (wo_fo w (j / 3) (wo_d w) n + wo_fade w (j / 3) (wo_d w + n)) = wo_l w j - wo_fo w (j / 3) (wo_d w) n - (0 + wo_fade w (j / 3) (wo_d w + n + 0))
  rw [Nat.zero_add, Nat.add_zero]
  omega
theorem ml_goDays {m : Nat} {po : pa_S → Prop} (hf : wo_WF w) (hm : wo_d w + m ≤ 20000) :
    ∀ (k f i : Nat) (u : pa_S), i + k = m → k < f → wo_M u (wo_go w i) → (∀ v, wo_M v (wo_go w m) → fr_of fp_w u v → po v) → wl_X7_goDays_2 po f u (nI m) (nI i)
  | 0, f + 1, i, u, e, _, hc, hk => by
    obtain rfl : i = m := by omega
    unfold wl_X7_goDays_2 wb_X7_goDays_2
    rw [if_pos (nI_le (by omega) (by omega))]
    exact hk u hc (fr_refl u)
  | k + 1, f + 1, i, u, e, hlt, hc, hk => by
    unfold wl_X7_goDays_2 wb_X7_goDays_2
    rw [if_neg (nI_ge (by omega) (by omega))]
    refine mp_goDay (wo_WF_go hf (by omega)) hc (fun v hv hg => ?_)
    simp only [forall_eq, pw_n1, nI_add]
    exact ml_goDays hf hm k f (i + 1) v (by omega) (by omega) (wo_go_go hv) (fun v2 h2 hg2 => hk v2 h2 (fr_trans hg hg2))
theorem mp_goDays {u : pa_S} {m : Nat} {po : pa_S → Prop} (hf : wo_WF w) (hc : wo_M u w) (hm : wo_d w + m ≤ 20000) (h5 : m < 5000) (hk : ∀ v, wo_M v (wo_go w m) → fr_of fp_w u v → po v) : wp_X7_goDays u (nI m) po := by
  unfold wp_X7_goDays wb_X7_goDays_0
  rw [pw_n0]
  exact ml_goDays hf hm m 5000 0 u (by omega) (by omega) (wo_M_congr hc rfl (fun _ _ => ⟨rfl, rfl, rfl⟩) (fun j _ => rfl) (fun _ _ => rfl) rfl rfl rfl) hk
theorem mp_worth {u : pa_S} {h l : Nat} {po : Int32 → pa_S → Prop} (hf : wo_WF w) (hc : wo_M u w) (he : en_M u e N) (hw : en_WF e N) (hb : wo_b w < N) (hh : h < wo_n w) (hl : l < 3)
    (hk : ∀ v, fr_of fp_g u v → po (nI (wo_w e w h l)) v) : wp_X7_worth u (nI h) (nI l) po := by
  have h5 := hf.1
  have a := hf.2.2.1 (3 * h + l) (by omega)
  have g := (hw _ hb).2.2.2 (wo_f w h l)
  unfold wp_X7_worth wb_X7_worth_0
  rw [pw_n3, pk_mul, nI_add, pw_and (vp_in_nI (by omega) (by omega)), nI_clamp (by omega), hc.2.2.2.2.2.1 _ (show 3 * h + l < 3 * wo_n w by omega), pw_and (vp_in_nI (by omega) (by omega))]
  unfold wo_w at hk
  by_cases h0 : wo_l w (3 * h + l) = 0
  · rw [if_pos h0] at hk
    rw [if_pos (show nI (wo_l w (3 * h + l)) = 0 by rw [h0]; rfl)]
    exact hk u (fr_refl u)
  · rw [if_neg h0] at hk
    rw [if_neg (nI_ne0 (by omega) (by omega))]
    refine ((he _ hb) u (fun f _ => ⟨rfl, fun _ _ => ⟨rfl, rfl, rfl, rfl⟩, fun _ _ => rfl⟩) hc.2.2.2.1).2.2 w h l _ hf hc rfl hh hl (fun x hx => ?_)
    rw [mp_least0, pw_sgn a g.1 g.2]
    exact hk x hx
theorem en_M_frg {u v : pa_S} (a : fr_of fp_g u v) (c : en_M u e N) : en_M v e N := en_M_frw (fr_mono (fun _ _ _ h => fp_gw h) a) c
theorem mp_fortune {u : pa_S} {h : Nat} {po : Int32 → pa_S → Prop} (hf : wo_WF w) (hc : wo_M u w) (he : en_M u e N) (hw : en_WF e N) (hb : wo_b w < N) (hh : h < wo_n w)
    (hk : ∀ v, fr_of fp_g u v → po (nI (wo_fu e w h)) v) : wp_X7_fortune u (nI h) po := by
  have h5 := hf.1
  have ak := (hf.2.1 h hh).1
  unfold wp_X7_fortune wb_X7_fortune_0
  rw [pw_and (vp_in_nI (by omega) (by omega)), nI_clamp (by omega), (hc.2.2.2.2.1 h hh).1]
  unfold wo_fu at hk
  by_cases h4 : wo_k w h = 4
  · rw [if_pos (show nI (wo_k w h) = 4 by rw [h4]; rfl)]
    rw [if_pos h4] at hk
    exact hk u (fr_refl u)
  · rw [if_neg (show ¬ nI (wo_k w h) = 4 from fun z => h4 ((nI_eq (b := 4) (by omega) (by omega)).mp z))]
    rw [if_neg h4] at hk
    rw [pw_n0, pw_n1, pw_n2]
    refine mp_worth hf hc he hw hb hh (by omega) (fun v1 g1 => ?_)
    refine mp_worth hf (wo_M_frg g1 hc) (en_M_frg g1 he) hw hb hh (by omega) (fun v2 g2 => ?_)
    refine mp_worth hf (wo_M_frg g2 (wo_M_frg g1 hc)) (en_M_frg g2 (en_M_frg g1 he)) hw hb hh (by omega) (fun v3 g3 => ?_)
    have hc3 := wo_M_frg g3 (wo_M_frg g2 (wo_M_frg g1 hc))
    have hk3 := hk v3 (fr_trans (fr_trans g1 g2) g3)
    simp only [forall_eq]
    rw [pw_and (vp_in_nI (by omega) (by omega)), (hc3.2.2.2.2.1 h hh).1, (hc3.2.2.2.2.1 h hh).2.1, nI_add, nI_add, nI_add, pw_and (vp_in_nI (by omega) (by omega))]
    by_cases h1 : wo_k w h = 1
    · rw [if_pos (show nI (wo_k w h) = nI 1 by rw [h1])]
      rw [if_pos h1] at hk3
      rw [show wo_w e w h 0 + wo_w e w h 1 + wo_w e w h 2 + wo_v w h = wo_v w h + wo_w e w h 0 + wo_w e w h 1 + wo_w e w h 2 by omega]
      exact hk3
    · rw [if_neg (show ¬ nI (wo_k w h) = nI 1 from fun z => h1 ((nI_eq (b := 1) (by omega) (by omega)).mp z))]
      rw [if_neg h1, Nat.zero_add] at hk3
      exact hk3
theorem ml_allFortunes {po : Int32 → pa_S → Prop} (hf : wo_WF w) (hw : en_WF e N) (hb : wo_b w < N) : ∀ (k f h : Nat) (u : pa_S), h + k = wo_n w → k < f → wo_M u w → en_M u e N →
    (∀ v, fr_of fp_g u v → po (nI (wo_fa e w (wo_n w))) v) → wl_X7_allFortunes_4 po f u (nI (wo_fa e w h)) (nI h)
  | 0, f + 1, h, u, eq, _, hc, he, hk => by
    have h5 := hf.1
    unfold wl_X7_allFortunes_4 wb_X7_allFortunes_4
    rw [hc.1, if_pos (nI_le (by omega) (by omega)), show h = wo_n w by omega]
    exact hk u (fr_refl u)
  | k + 1, f + 1, h, u, eq, hlt, hc, he, hk => by
    have h5 := hf.1
    unfold wl_X7_allFortunes_4 wb_X7_allFortunes_4
    rw [hc.1, if_neg (nI_ge (by omega) (by omega))]
    refine mp_fortune hf hc he hw hb (by omega) (fun v hv => ?_)
    simp only [forall_eq, pw_n1, nI_add]
    exact ml_allFortunes hf hw hb k f (h + 1) v (by omega) (by omega) (wo_M_frg hv hc) (en_M_frg hv he) (fun v2 h2 => hk v2 (fr_trans hv h2))
theorem mp_allFortunes {u : pa_S} {po : Int32 → pa_S → Prop} (hf : wo_WF w) (hc : wo_M u w) (he : en_M u e N) (hw : en_WF e N) (hb : wo_b w < N)
    (hk : ∀ v, fr_of fp_g u v → po (nI (wo_fa e w (wo_n w))) v) : wp_X7_allFortunes u po := by
  have h5 := hf.1
  unfold wp_X7_allFortunes wb_X7_allFortunes_0
  rw [pw_n0]
  exact ml_allFortunes hf hw hb (wo_n w) 5000 0 u (by omega) (by omega) hc he hk
theorem ml_allLengths {u : pa_S} {po : Int32 → Prop} (hf : wo_WF w) (hc : wo_M u w) : ∀ (k f j : Nat), j + k = 3 * wo_n w → k < f →
    wl_X7_allLengths_4 po u f (nI (wo_la w j)) (nI j) = po (nI (wo_la w (3 * wo_n w)))
  | 0, f + 1, j, eq, _ => by
    have h5 := hf.1
    unfold wl_X7_allLengths_4 wb_X7_allLengths_4
    rw [hc.1, pw_n3, pk_mul, if_pos (nI_le (by omega) (by omega)), show j = 3 * wo_n w by omega]
  | k + 1, f + 1, j, eq, hlt => by
    have h5 := hf.1
    unfold wl_X7_allLengths_4 wb_X7_allLengths_4
    rw [hc.1, pw_n3, pk_mul, if_neg (nI_ge (by omega) (by omega)), pw_and (vp_in_nI (by omega) (by omega)), nI_clamp (by omega), hc.2.2.2.2.2.1 _ (by omega)]
    simp only [forall_eq, pw_n1, nI_add]
    exact ml_allLengths hf hc k f (j + 1) (by omega) (by omega)
theorem mp_allLengths {u : pa_S} {po : Int32 → Prop} (hf : wo_WF w) (hc : wo_M u w) : wp_X7_allLengths u po = po (nI (wo_la w (3 * wo_n w))) := by
  have h5 := hf.1
  unfold wp_X7_allLengths wb_X7_allLengths_0
  rw [pw_n0]
  exact ml_allLengths hf hc (3 * wo_n w) 5000 0 (by omega) (by omega)
end MODEL
