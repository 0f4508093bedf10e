/-! pairs in their order; odds -/
def pr_i (a : Nat) : Nat → Nat → List (Nat × Nat)
  | 0, _ => []
  | k + 1, b => (a, b) :: pr_i a k (b + 1)
def pr_o (n : Nat) : Nat → Nat → List (Nat × Nat)
  | 0, _ => []
  | k + 1, a => pr_i a (n - (a + 1)) (a + 1) ++ pr_o n k (a + 1)
def pr_l (n : Nat) : List (Nat × Nat) := pr_o n n 0
theorem pr_i_in {a n : Nat} : ∀ k b, b + k = n → a < b → ∀ p ∈ pr_i a k b, p.1 < p.2 ∧ p.2 < n ∧ p.1 = a
  | 0, _, _, _, p, hp => absurd hp (by unfold pr_i; exact List.not_mem_nil)
  | k + 1, b, e, h, p, hp => by
    unfold pr_i at hp
    rcases List.mem_cons.mp hp with rfl | hp
    · exact ⟨h, by show b < n; omega, rfl⟩
    · exact pr_i_in k (b + 1) (by omega) (by omega) p hp
theorem pr_o_in {n : Nat} : ∀ k a, a + k = n → ∀ p ∈ pr_o n k a, p.1 < p.2 ∧ p.2 < n
  | 0, _, _, p, hp => absurd hp (by unfold pr_o; exact List.not_mem_nil)
  | k + 1, a, e, p, hp => by
    unfold pr_o at hp
    rcases List.mem_append.mp hp with hp | hp
    · have z := pr_i_in (n := n) (n - (a + 1)) (a + 1) (by omega) (by omega) p hp
      exact ⟨z.1, z.2.1⟩
    · exact pr_o_in k (a + 1) (by omega) p hp
theorem pr_in {n : Nat} (p : Nat × Nat) (hp : p ∈ pr_l n) : p.1 < p.2 ∧ p.2 < n := pr_o_in n 0 (by omega) p hp
theorem pr_len : ∀ n, n ≤ 5 → (pr_l n).length ≤ 10
  | 0, _ => by decide
  | 1, _ => by decide
  | 2, _ => by decide
  | 3, _ => by decide
  | 4, _ => by decide
  | 5, _ => by decide
  | n + 6, h => absurd h (by omega)
theorem pr_pos : ∀ n, 2 ≤ n → n ≤ 5 → 0 < (pr_l n).length
  | 0, h, _ => absurd h (by omega)
  | 1, h, _ => absurd h (by omega)
  | 2, _, _ => by decide
  | 3, _, _ => by decide
  | 4, _, _ => by decide
  | 5, _, _ => by decide
  | n + 6, _, h => absurd h (by omega)
/-- how many pairs make it q or more -/
def od_c (e : pw_E) (w : pw_W) (q : Nat) : List (Nat × Nat) → Nat
  | [] => 0
  | p :: t => (if wo_fa e (wo_hw e w p.1 p.2) (wo_n w) < q then 0 else 1) + od_c e w q t
theorem od_le {e : pw_E} {w : pw_W} {q : Nat} : ∀ L, od_c e w q L ≤ L.length
  | [] => Nat.le_refl _
  | p :: t => by
    have := od_le (e := e) (w := w) (q := q) t
    unfold od_c
    rw [List.length_cons]
    split <;> omega
theorem od_app {e : pw_E} {w : pw_W} {q : Nat} : ∀ L M, od_c e w q (L ++ M) = od_c e w q L + od_c e w q M
  | [], M => by rw [List.nil_append]; show _ = 0 + _; omega
  | p :: t, M => by
    show (if wo_fa e (wo_hw e w p.1 p.2) (wo_n w) < q then 0 else 1) + od_c e w q (t ++ M) = ((if wo_fa e (wo_hw e w p.1 p.2) (wo_n w) < q then 0 else 1) + od_c e w q t) + od_c e w q M
    rw [od_app t M]
    omega
section ODDS
variable {w : pw_W} {e : pw_E} {N : Nat}
theorem sl_oddsI {a q : Nat} {x2 : Int32} {k43 : pa_S → Int32 → Int32 → Int32 → Int32 → Int32 → Prop} {po : Int64 → pa_S → Prop} (ha : a < wo_n w) (hq : q ≤ 999) :
    ∀ (k f b m r : Nat) (v : pa_S), b + k = wo_n w → a < b → k < f → iv_at v w e N →
      (∀ x, iv_at x w e N → k43 x (nI q) x2 (nI (m + (pr_i a k b).length)) (nI (r + od_c e w q (pr_i a k b))) (nI (a + 1))) → wl_X6_odds_61 k43 po f v (nI q) x2 (nI m) (nI r) (nI a) (nI b)
  | 0, f + 1, b, m, r, v, eq, hab, _, hv, hk => by
    have h5 := (iv_F hv).1
    unfold wl_X6_odds_61 wb_X6_odds_61
    rw [(iv_C hv).1, if_pos (nI_le (by omega) (by omega))]
    simp only [forall_eq, pw_n1, nI_add]
    exact hk v hv
  | k + 1, f + 1, b, m, r, v, eq, hab, hlt, hv, hk => by
    have h5 := (iv_F hv).1
    have fl := wo_fah hv ha (show b < wo_n w by omega)
    unfold wl_X6_odds_61 wb_X6_odds_61
    rw [(iv_C hv).1, if_neg (nI_ge (by omega) (by omega))]
    simp only [forall_eq, pw_n1, nI_add]
    refine sp_ifShaken hv ha (show b < wo_n w by omega) (by omega) (fun v1 hv1 hc1 => ?_)
    refine sp_allOf hv1 (wo_WF_hw (iv_F hv) (iv_EW hv) (iv_B hv) ha (show b < wo_n w by omega)) wo_hw_b hc1 (fun v2 hv2 => ?_)
    rw [wo_hw_n]
    unfold pr_i at hk
    rw [List.length_cons] at hk
    unfold od_c at hk
    by_cases z : wo_fa e (wo_hw e w a b) (wo_n w) < q
    · rw [if_pos (nI_lt z (by omega))]
      rw [if_pos z] at hk
      unfold wb_X6_odds_94
      simp only [forall_eq, pw_n1, nI_add]
      refine sl_oddsI ha hq k f (b + 1) (m + 1) r v2 (by omega) (by omega) (by omega) hv2 (fun x hx => ?_)
      have := hk x hx
      rw [show m + ((pr_i a k (b + 1)).length + 1) = m + 1 + (pr_i a k (b + 1)).length by omega, Nat.zero_add] at this
      exact this
    · rw [if_neg (nI_nlt (by omega) (by omega))]
      rw [if_neg z] at hk
      unfold wb_X6_odds_94
      simp only [forall_eq, pw_n1, nI_add]
      refine sl_oddsI ha hq k f (b + 1) (m + 1) (r + 1) v2 (by omega) (by omega) (by omega) hv2 (fun x hx => ?_)
      have := hk x hx
      rw [show m + ((pr_i a k (b + 1)).length + 1) = m + 1 + (pr_i a k (b + 1)).length by omega, show ∀ y, r + (1 + y) = r + 1 + y from fun y => by omega] at this
      exact this
theorem sl_oddsO {q : Nat} {x2 : Int32} {po : Int64 → pa_S → Prop} (hq : q ≤ 999) :
    ∀ (k f a m r : Nat) (v : pa_S), a + k = wo_n w → k < f → iv_at v w e N → 0 < m + (pr_o (wo_n w) k a).length → m + (pr_o (wo_n w) k a).length ≤ 10 → r + od_c e w q (pr_o (wo_n w) k a) ≤ 10 →
      (∀ x, iv_at x w e N → po (wo_lt (r + od_c e w q (pr_o (wo_n w) k a)) (m + (pr_o (wo_n w) k a).length) x2).toInt64 x) → wl_X6_odds_43 po f v (nI q) x2 (nI m) (nI r) (nI a)
  | 0, f + 1, a, m, r, v, eq, _, hv, h0, h10, h11, hk => by
    have h5 := (iv_F hv).1
    unfold wl_X6_odds_43 wb_X6_odds_43
    rw [(iv_C hv).1, if_pos (nI_le (by omega) (by omega))]
    unfold pr_o at hk h0 h10 h11
    rw [List.length_nil, Nat.add_zero] at hk h0 h10
    unfold od_c at hk h11
    rw [Nat.add_zero] at hk h11
    rw [sp_low (by omega) (by omega) (by omega)]
    exact hk v hv
  | k + 1, f + 1, a, m, r, v, eq, hlt, hv, h0, h10, h11, hk => by
    have h5 := (iv_F hv).1
    unfold wl_X6_odds_43 wb_X6_odds_43
    rw [(iv_C hv).1, if_neg (nI_ge (by omega) (by omega))]
    simp only [forall_eq, pw_n1, nI_add]
    unfold pr_o at hk h0 h10 h11
    rw [List.length_append, ← Nat.add_assoc] at hk h0 h10
    rw [od_app, ← Nat.add_assoc] at hk h11
    exact sl_oddsI (show a < wo_n w by omega) hq (wo_n w - (a + 1)) 5000 (a + 1) m r v (by omega) (by omega) (by omega) hv (fun x hx => sl_oddsO hq k f (a + 1) _ _ x (by omega) (by omega) hx h0 h10 h11 hk)
/-- the reference's pairs -/
def pr_M (u : pa_S) (L : List (Nat × Nat)) : Prop := pa_I u 24 0 35 = nI L.length ∧ ∀ k p, L[k]? = some p → pa_A u 44 0 k = nI p.1 ∧ pa_A u 45 0 k = nI p.2
def fp_p (t i k : Nat) : Prop := (t = 24 ∧ k = 35) ∨ t = 44 ∨ t = 45
theorem fp_pM {t i k : Nat} (h : fp_p t i k) : fp_M0 t i k := by unfold fp_p at h; unfold fp_M0; omega
theorem wo_M_p {u v : pa_S} (g : fr_of fp_p u v) (h : wo_M u w) : wo_M v w := wo_M_fr g (by unfold fp_p; omega) (fun t _ _ => by unfold fp_p; omega) h
theorem pr_M_fr {P : Nat → Nat → Nat → Prop} {u v : pa_S} {L : List (Nat × Nat)} (g : fr_of P u v) (h1 : ¬ P 24 0 35) (h2 : ¬ P 44 0 100) (h3 : ¬ P 45 0 100) (h : pr_M u L) : pr_M v L := by
  refine ⟨(g.1 _ _ _ h1).trans h.1, ?_⟩
  rw [g.2.1 _ _ h2, g.2.1 _ _ h3]
  exact h.2
theorem ml_layI {a : Nat} {k7 : pa_S → Int32 → Prop} {po : pa_S → Prop} (h5 : wo_n w ≤ 5) (ha : a < wo_n w) :
    ∀ (k f b : Nat) (v : pa_S) (D : List (Nat × Nat)), b + k = wo_n w → k < f → wo_M v w → pr_M v D → D.length + (pr_i a k b).length ≤ 10 →
      (∀ x, wo_M x w → fr_of fp_p v x → pr_M x (D ++ pr_i a k b) → k7 x (nI (a + 1))) → wl_X7_layPairs_19 k7 po f v (nI a) (nI b)
  | 0, f + 1, b, v, D, eq, _, hv, hD, _, hk => by
    unfold wl_X7_layPairs_19 wb_X7_layPairs_19
    rw [hv.1, if_pos (nI_le (by omega) (by omega))]
    simp only [forall_eq, pw_n1, nI_add]
    exact hk v hv (fr_refl v) (by unfold pr_i; rw [List.append_nil]; exact hD)
  | k + 1, f + 1, b, v, D, eq, hlt, hv, hD, hl, hk => by
    unfold pr_i at hk hl
    rw [List.length_cons] at hl
    unfold wl_X7_layPairs_19 wb_X7_layPairs_19
    rw [hv.1, if_neg (nI_ge (by omega) (by omega)), hD.1, pw_and (vp_in_nI (by omega) (by omega)), nI_clamp (by omega)]
    simp only [forall_eq, pI_sA, hD.1]
    rw [pw_and (vp_in_nI (by omega) (by omega)), nI_clamp (by omega), pw_n1, nI_add, nI_add]
    generalize hx : pa_sI (pa_sA (pa_sA v 44 0 (upd (pa_A v 44 0) D.length (nI a))) 45 0 (upd (pa_A (pa_sA v 44 0 (upd (pa_A v 44 0) D.length (nI a))) 45 0) D.length (nI b))) 24 0 35 (nI (D.length + 1)) = x
    have g : fr_of fp_p v x := by rw [← hx]; exact fr_sI (by unfold fp_p; omega) (fr_sA (by unfold fp_p; omega) (fr_sA (by unfold fp_p; omega) (fr_refl v)))
    have e44 : pa_A x 44 0 = upd (pa_A v 44 0) D.length (nI a) := by rw [← hx, pA_sI, pA_sA, if_neg (by omega), pA_sA, if_pos ⟨rfl, rfl⟩]
    have e45 : pa_A x 45 0 = upd (pa_A v 45 0) D.length (nI b) := by rw [← hx, pA_sI, pA_sA, if_pos ⟨rfl, rfl⟩, pA_sA, if_neg (by omega)]
    have hD' : pr_M x (D ++ [(a, b)]) := by
      refine ⟨?_, fun j p hj => ?_⟩
      · rw [← hx, pI_sI, if_pos ⟨rfl, rfl, rfl⟩, List.length_append, List.length_singleton]
      · rw [e44, e45, pw_upd, pw_upd]
        by_cases q : j = D.length
        · subst q
          rw [List.getElem?_append_right (Nat.le_refl _), Nat.sub_self] at hj
          obtain rfl : (a, b) = p := Option.some.inj hj
          exact ⟨if_pos rfl, if_pos rfl⟩
        · rw [if_neg q, if_neg q]
          by_cases q2 : j < D.length
          · rw [List.getElem?_append_left q2] at hj
            exact hD.2 j p hj
          · rw [List.getElem?_eq_none (by rw [List.length_append, List.length_singleton]; omega)] at hj
            exact absurd hj (by simp)
    refine ml_layI h5 ha k f (b + 1) x (D ++ [(a, b)]) (by omega) (by omega) (wo_M_p g hv) hD' (by rw [List.length_append, List.length_singleton]; omega) (fun y hy gy hDy => hk y hy (fr_trans g gy) ?_)
    rw [List.append_assoc] at hDy
    exact hDy
theorem ml_layO {po : pa_S → Prop} (h5 : wo_n w ≤ 5) :
    ∀ (k f a : Nat) (v : pa_S) (D : List (Nat × Nat)), a + k = wo_n w → k < f → wo_M v w → pr_M v D → D.length + (pr_o (wo_n w) k a).length ≤ 10 →
      (∀ x, wo_M x w → fr_of fp_p v x → pr_M x (D ++ pr_o (wo_n w) k a) → po x) → wl_X7_layPairs_7 po f v (nI a)
  | 0, f + 1, a, v, D, eq, _, hv, hD, _, hk => by
    unfold wl_X7_layPairs_7 wb_X7_layPairs_7
    rw [hv.1, if_pos (nI_le (by omega) (by omega))]
    exact hk v hv (fr_refl v) (by unfold pr_o; rw [List.append_nil]; exact hD)
  | k + 1, f + 1, a, v, D, eq, hlt, hv, hD, hl, hk => by
    unfold pr_o at hk hl
    rw [List.length_append] at hl
    unfold wl_X7_layPairs_7 wb_X7_layPairs_7
    rw [hv.1, if_neg (nI_ge (by omega) (by omega))]
    simp only [forall_eq, pw_n1, nI_add]
    refine ml_layI h5 (show a < wo_n w by omega) (wo_n w - (a + 1)) 5000 (a + 1) v D (by omega) (by omega) hv hD (by omega) (fun x hx gx hDx => ?_)
    refine ml_layO h5 k f (a + 1) x _ (by omega) (by omega) hx hDx (by rw [List.length_append]; omega) (fun y hy gy hDy => hk y hy (fr_trans gx gy) ?_)
    rw [List.append_assoc] at hDy
    exact hDy
theorem mp_layPairs {u : pa_S} {po : pa_S → Prop} (hu : iv_at u w e N) (hk : ∀ x, iv_at x w e N → fr_of fp_p u x → pr_M x (pr_l (wo_n w)) → po x) : wp_X7_layPairs u po := by
  have h5 := (iv_F hu).1
  unfold wp_X7_layPairs wb_X7_layPairs_0
  simp only [forall_eq]
  have g0 : fr_of fp_p u (pa_sI u 24 0 35 0) := fr_sI (by unfold fp_p; omega) (fr_refl u)
  rw [pw_n0]
  refine ml_layO h5 (wo_n w) 5000 0 _ [] (by omega) (by omega) (wo_M_p g0 (iv_M hu)) ⟨by rw [pI_sI, if_pos ⟨rfl, rfl, rfl⟩]; rfl, fun k p h => absurd h (by simp)⟩ (by have := pr_len _ h5; unfold pr_l at this; simpa using this) (fun x hx gx hD => ?_)
  have g := fr_trans g0 gx
  exact hk x (iv_at_m hu (fr_mono (fun _ _ _ z => fp_pM z) g) hx) g hD
/-- what a question to the reference changes; the pairs stay -/
theorem fp_gq {t i k : Nat} (h : fp_g t i k) : fp_q t i k := fp_wq (fp_gw h)
def fp_h (t i k : Nat) : Prop := (t = 24 ∧ (k = 1 ∨ k = 2 ∨ k = 26 ∨ k = 27)) ∨ t = 27 ∨ t = 28 ∨ t = 39 ∨ t = 40 ∨ t = 41
theorem fp_kh {t i k : Nat} (h : fp_k t i k) : fp_h t i k := by unfold fp_k at h; unfold fp_h; omega
theorem fp_wh {t i k : Nat} (h : fp_w t i k) : fp_h t i k := by unfold fp_w at h; unfold fp_h; omega
theorem fp_gh {t i k : Nat} (h : fp_g t i k) : fp_h t i k := by unfold fp_g at h; unfold fp_h; omega
theorem fp_hM {t i k : Nat} (h : fp_h t i k) : fp_M0 t i k := by unfold fp_h at h; unfold fp_M0; omega
theorem pr_M_h {u v : pa_S} {L : List (Nat × Nat)} (g : fr_of fp_h u v) (h : pr_M u L) : pr_M v L := pr_M_fr g (by unfold fp_h; omega) (by unfold fp_h; omega) (by unfold fp_h; omega) h
theorem mp_fortunesIf2 {u : pa_S} {a b : Nat} {po : Int32 → pa_S → Prop} (hu : iv_at u w e N) (ha : a < wo_n w) (hb : b < wo_n w) (hab : a ≠ b)
    (hk : ∀ v, iv_at v w e N → fr_of fp_h u v → po (nI (wo_fa e (wo_hw e w a b) (wo_n w))) v) : wp_X7_fortunesIf u (nI a) (nI b) po := by
  have hf := iv_F hu
  unfold wp_X7_fortunesIf wb_X7_fortunesIf_0
  refine mp_save hf (iv_M hu) (fun v1 hv1 hK hg1 => ?_)
  have g1 : fr_of fp_h u v1 := fr_mono (fun _ _ _ z => fp_kh z) hg1
  refine mp_prints hf hv1 (en_M_M0 (fr_mono (fun _ _ _ z => fp_hM z) g1) (iv_EM hu)) (iv_EW hu) (iv_B hu) ha hb hab (fun v2 hv2 hg2 => ?_)
  have g2 : fr_of fp_h u v2 := fr_trans g1 (fr_mono (fun _ _ _ z => fp_wh z) hg2)
  refine mp_allFortunes (wo_WF_hw hf (iv_EW hu) (iv_B hu) ha hb) hv2 (en_M_M0 (fr_mono (fun _ _ _ z => fp_hM z) g2) (iv_EM hu)) (iv_EW hu) (by rw [wo_hw_b]; exact iv_B hu) (fun v3 hv3 => ?_)
  have g3 : fr_of fp_h u v3 := fr_trans g2 (fr_mono (fun _ _ _ z => fp_gh z) hv3)
  rw [wo_hw_n]
  refine mp_putBack hf (wo_M_frg hv3 hv2) wo_hw_eq (wo_K_frw (fr_mono (fun _ _ _ z => fp_gw z) hv3) (wo_K_frw hg2 hK)) (fun x hx _ hgx => ?_)
  have g4 := fr_trans g3 (fr_mono (fun _ _ _ z => fp_wh z) hgx)
  exact hk x (iv_at_m hu (fr_mono (fun _ _ _ z => fp_hM z) g4) hx) g4
theorem ml_odds {q : Nat} {x2 : Int32} {L : List (Nat × Nat)} {po : Int64 → pa_S → Prop} (hq : q ≤ 999) (hL : ∀ p ∈ L, p.1 < p.2 ∧ p.2 < wo_n w) (h0 : 0 < L.length) (h10 : L.length ≤ 10) :
    ∀ (k f i r : Nat) (v : pa_S), i + k = L.length → k < f → iv_at v w e N → pr_M v L → r + od_c e w q (L.drop i) ≤ 10 →
      (∀ x, iv_at x w e N → po (wo_lt (r + od_c e w q (L.drop i)) L.length x2).toInt64 x) → wl_X7_odds_39 po f v (nI q) x2 (nI r) (nI i) := by
  intro k
  induction k with
  | zero =>
    intro f i r v eq hlt hv hM h11 hk
    obtain ⟨f, rfl⟩ : ∃ g, f = g + 1 := ⟨f - 1, by omega⟩
    obtain rfl : i = L.length := by omega
    rw [List.drop_length] at hk h11
    unfold od_c at hk h11
    rw [Nat.add_zero] at hk h11
    unfold wl_X7_odds_39 wb_X7_odds_39
    rw [hM.1, if_pos (nI_le (by omega) (by omega)), mp_low (by omega) (by omega) (by omega)]
    exact hk v hv
  | succ k ih =>
    intro f i r v eq hlt hv hM h11 hk
    obtain ⟨f, rfl⟩ : ∃ g, f = g + 1 := ⟨f - 1, by omega⟩
    have h5 := (iv_F hv).1
    have hi : i < L.length := by omega
    obtain ⟨p, hp⟩ : ∃ p, L[i]? = some p := ⟨_, List.getElem?_eq_getElem hi⟩
    have hpm := hL p (List.mem_of_getElem? hp)
    have hpe := hM.2 _ p hp
    have hd : L.drop i = p :: L.drop (i + 1) := by
      rw [List.drop_eq_getElem_cons hi]
      rw [List.getElem?_eq_getElem hi] at hp
      rw [Option.some.inj hp]
    rw [hd] at hk h11
    unfold od_c at hk h11
    have fl := wo_fah hv (show p.1 < wo_n w by omega) hpm.2
    unfold wl_X7_odds_39 wb_X7_odds_39
    rw [hM.1, if_neg (nI_ge hi (by omega)), pw_and (vp_in_nI (by omega) (by omega)), pw_and (vp_in_nI (by omega) (by omega)), nI_clamp (by omega), hpe.1, hpe.2]
    refine mp_fortunesIf2 hv (show p.1 < wo_n w by omega) hpm.2 (by omega) (fun v2 hv2 g2 => ?_)
    by_cases z : wo_fa e (wo_hw e w p.1 p.2) (wo_n w) < q
    · rw [if_pos (nI_lt z (by omega))]
      rw [if_pos z, Nat.zero_add] at hk h11
      unfold wb_X7_odds_76
      simp only [forall_eq, pw_n1, pw_n0, nI_add]
      exact ih f (i + 1) r v2 (by omega) (by omega) hv2 (pr_M_h g2 hM) h11 hk
    · rw [if_neg (nI_nlt (by omega) (by omega))]
      rw [if_neg z, ← Nat.add_assoc] at hk h11
      unfold wb_X7_odds_76
      simp only [forall_eq, pw_n1, nI_add]
      exact ih f (i + 1) (r + 1) v2 (by omega) (by omega) hv2 (pr_M_h g2 hM) h11 hk
end ODDS
theorem case_k22 {u : pa_S} {a1 a2 a3 a4 a5 : Int32} (hi : iv_I u) : pa_case iv_I u a1 a2 a3 a4 a5 22 := by
  have hi0 := hi
  obtain ⟨w, e, N, hw⟩ := hi
  have hf := iv_F hw
  have h5 := hf.1
  show wp_X6_odds u a1 a2 _
  have X : ∀ (v : pa_S) po, wp_X7_odds v a1 a2 po = wb_X7_odds_0 v a1 a2 po := fun _ _ => rfl
  simp only [X]
  unfold wp_X6_odds wb_X6_odds_0 wb_X7_odds_0
  rcases rg_01 a1 0 999 (by omega) (by omega) with ⟨q, _, hq, rfl⟩ | hq
  rotate_left
  · rw [wi_0 (A := 0) (B := 999) (lo := 0) (hi := 999) rfl rfl hq, if_pos rfl]; dsimp only
    rw [iq_0 hq, if_pos rfl]
    exact ⟨rfl, hi0⟩
  rw [wi_1 (A := 0) (B := 999) (lo := 0) (hi := 999) rfl rfl (by omega) hq (by omega), if_neg (by decide)]
  rcases rg_01 a2 0 1 (by omega) (by omega) with ⟨p, _, hp, rfl⟩ | hp
  rotate_left
  · rw [wi_0 (A := 0) (B := 1) (lo := 0) (hi := 1) rfl rfl hp, if_pos rfl]; dsimp only
    rw [iq_1 hq, if_neg (by decide), in_0 (A := 0) (B := 1) (lo := 0) (hi := 1) rfl rfl hp, if_pos rfl]
    exact ⟨rfl, hi0⟩
  rw [wi_1 (A := 0) (B := 1) (lo := 0) (hi := 1) rfl rfl (by omega) hp (by omega), if_neg (by decide), (iv_C hw).1]
  by_cases z : 2 ≤ wo_n w
  rotate_left
  · rw [if_neg (show ¬ (2 : Int32) ≤ nI (wo_n w) from nI_ge (b := 2) (by omega) (by omega))]; dsimp only
    rw [iq_1 hq, if_neg (by decide), in_1 (A := 0) (B := 1) (lo := 0) (hi := 1) rfl rfl (by omega) hp (by omega), if_neg (by decide), (iv_M hw).1, if_neg (show ¬ (2 : Int32) ≤ nI (wo_n w) from nI_ge (b := 2) (by omega) (by omega))]
    exact ⟨rfl, hi0⟩
  rw [if_pos (show (2 : Int32) ≤ nI (wo_n w) from nI_le (a := 2) (by omega) (by omega))]
  have l10 := pr_len _ h5
  have l0 := pr_pos _ z h5
  have od := od_le (e := e) (w := w) (q := q) (pr_l (wo_n w))
  refine sl_oddsO (e := e) (N := N) (x2 := nI p) hq (wo_n w) 5000 0 0 0 u (by omega) (by omega) hw (by rw [Nat.zero_add]; exact l0) (by rw [Nat.zero_add]; exact l10) (by rw [Nat.zero_add]; exact Nat.le_trans od l10) (fun v hv => ?_)
  dsimp only
  rw [iq_1 hq, if_neg (by decide), in_1 (A := 0) (B := 1) (lo := 0) (hi := 1) rfl rfl (by omega) hp (by omega), if_neg (by decide), (iv_M hv).1, if_pos (show (2 : Int32) ≤ nI (wo_n w) from nI_le (a := 2) (by omega) (by omega))]
  refine mp_layPairs hv (fun x hx gx hM => ?_)
  refine ml_odds (e := e) (N := N) (x2 := nI p) hq pr_in l0 l10 (pr_l (wo_n w)).length 5000 0 0 x (by omega) (by omega) hx hM (by rw [Nat.zero_add]; exact Nat.le_trans od l10) (fun y hy => ⟨?_, iv_at_I hy⟩)
  rw [Nat.zero_add, Nat.zero_add, Nat.zero_add]
  rfl
