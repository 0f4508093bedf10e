/-! was, can -/
def wo_at (w : pw_W) (p y j : Nat) : Nat := if j = p then y else wo_l w j
/-- the world with one length y; with one hand's number y -/
def wo_wy (w : pw_W) (p y : Nat) : pw_W := wo_wl w (wo_at w p y)
def wo_wv (w : pw_W) (h y : Nat) : pw_W := (wo_n w, wo_k w, (fun j => if j = h then y else wo_v w j), wo_s w, wo_l w, wo_r w, wo_i w, wo_d w, wo_b w)
def wo_wa (S : Nat → Int32) : Nat → Nat → Int32 → Nat × Int32
  | 0, m, r => (m, r)
  | k + 1, m, r => if S k = 0 then wo_wa S k m r else wo_wa S k (m + 1) (nI k)
def se_z (u : pa_S) (z n : Nat) : Prop := z ≤ 5 ∧ pa_I u 8 0 1 = nI z ∧ pa_I u 24 0 36 = nI z ∧ ∀ r, r < z → ∃ h l x t, h < n ∧ l < 3 ∧ x ≤ 60 ∧ t ≤ 20 ∧
  pa_A u 9 0 (4 * r) = nI h ∧ pa_A u 9 0 (4 * r + 1) = nI l ∧ pa_A u 9 0 (4 * r + 2) = nI x ∧ pa_A u 9 0 (4 * r + 3) = nI t ∧ pa_A u 46 0 r = nI (3 * h + l) ∧ pa_A u 47 0 r = nI x ∧ pa_A u 48 0 r = nI t
theorem se_fr {P : Nat → Nat → Nat → Prop} {u v : pa_S} {z n : Nat} (h : fr_of P u v) (h1 : ¬ P 8 0 1) (h2 : ¬ P 24 0 36) (h3 : ¬ P 9 0 100) (h4 : ¬ P 46 0 100) (h5 : ¬ P 47 0 100) (h6 : ¬ P 48 0 100) (q : se_z u z n) : se_z v z n := by
  obtain ⟨q, z1, z2, z3⟩ := q
  refine ⟨q, (h.1 _ _ _ h1).trans z1, (h.1 _ _ _ h2).trans z2, ?_⟩
  rw [h.2.1 _ _ h3, h.2.1 _ _ h4, h.2.1 _ _ h5, h.2.1 _ _ h6]
  exact z3
theorem wo_sn_fr {w : pw_W} {u v : pa_S} (h1 : pa_A v 46 0 = pa_A u 46 0) (h2 : pa_A v 47 0 = pa_A u 47 0) (h3 : pa_A v 48 0 = pa_A u 48 0) : ∀ k r, wo_sn w v k r = wo_sn w u k r
  | 0, _ => rfl
  | k + 1, r => by unfold wo_sn; rw [h1, h2, h3, wo_sn_fr h1 h2 h3 k (r + 1)]
theorem sp_seen {w : pw_W} {v : pa_S} {s n z : Nat} {po : Int32 → Prop} (hf : wo_WF w) (hc : wo_C v s w) (hn : n ≤ wo_n w) (hs : se_z v z n) :
    wp_X6_isAllSeenSo v s po = po (wo_sn w v z 0) := by
  have hz := hs.1
  unfold wp_X6_isAllSeenSo wb_X6_isAllSeenSo_0
  rw [pw_n0]
  exact sl_seen hf hc hn hs.1 hs.2.1 hs.2.2.2 z 5000 0 (by omega) (by omega)
theorem mp_isSeen {w : pw_W} {v : pa_S} {n z : Nat} {po : Int32 → pa_S → Prop} (hf : wo_WF w) (hd : wo_d w ≤ 9999) (hn : n ≤ wo_n w) (hs : se_z v z n) (hv : wo_M v w)
    (hk : ∀ x, wo_M x w → fr_of fp_q v x → po (wo_sn w v z 0) x) : wp_X7_isSeen v po := by
  have hz := hs.1
  unfold wp_X7_isSeen wb_X7_isSeen_0
  rw [pw_n0]
  refine ml_seen hf hd hn hs.1 hs.2.2.1 (fun r hr => ?_) (wo_sn w v z 0) hk z 5000 0 v 1 (by omega) (by omega) hv (fr_refl v) (Or.inl ⟨rfl, rfl⟩)
  obtain ⟨h, l, x, t, a, b, c, d, _, _, _, _, e, f, g⟩ := hs.2.2.2 r hr
  exact ⟨h, l, x, t, a, b, c, d, e, f, g⟩
def sy_S (w : pw_W) (u : pa_S) (z p y : Nat) : Int32 := wo_sn (wo_wy w p y) u z 0
def sv_S (w : pw_W) (u : pa_S) (z p y : Nat) : Int32 := wo_sn (wo_wv w p y) u z 0
section WAS
variable {w : pw_W} {e : pw_E} {N : Nat}
theorem wo_WF_wy {p y : Nat} (hf : wo_WF w) (hy : y ≤ 60) : wo_WF (wo_wy w p y) := wo_WF_wl hf (fun j hj => by
  have := hf.2.2.1 j hj
  unfold wo_at
  split <;> omega)
theorem wo_WF_wv {h y : Nat} (hf : wo_WF w) (hy : y ≤ 9) : wo_WF (wo_wv w h y) := by
  refine ⟨hf.1, fun j hj => ⟨(hf.2.1 j hj).1, ?_, (hf.2.1 j hj).2.2⟩, hf.2.2.1, hf.2.2.2.1, hf.2.2.2.2.1, hf.2.2.2.2.2⟩
  have := (hf.2.1 j hj).2.1
  show (if j = h then y else wo_v w j) ≤ 9
  split <;> omega
theorem fp_qM {t i k : Nat} (h : fp_q t i k) : fp_M0 t i k := by unfold fp_q at h; unfold fp_M0; omega
theorem se_qc {u v : pa_S} {z n : Nat} (q : qc_r N u v) (h : se_z u z n) : se_z v z n :=
  se_fr q.1 (by unfold fp_t; omega) (by unfold fp_t; omega) (by unfold fp_t; omega) (by unfold fp_t; omega) (by unfold fp_t; omega) (by unfold fp_t; omega) h
theorem se_M0 {u v : pa_S} {z n : Nat} (q : fr_of fp_M0 u v) (h : se_z u z n) : se_z v z n :=
  se_fr q (by unfold fp_M0; omega) (by unfold fp_M0; omega) (by unfold fp_M0; omega) (by unfold fp_M0; omega) (by unfold fp_M0; omega) (by unfold fp_M0; omega) h
theorem sn_qc {u v : pa_S} {w : pw_W} (q : qc_r N u v) (k r : Nat) : wo_sn w v k r = wo_sn w u k r :=
  wo_sn_fr (q.1.2.1 46 0 (by unfold fp_t; omega)) (q.1.2.1 47 0 (by unfold fp_t; omega)) (q.1.2.1 48 0 (by unfold fp_t; omega)) k r
theorem sn_M0 {u v : pa_S} {w : pw_W} (q : fr_of fp_M0 u v) (k r : Nat) : wo_sn w v k r = wo_sn w u k r :=
  wo_sn_fr (q.2.1 46 0 (by unfold fp_M0; omega)) (q.2.1 47 0 (by unfold fp_M0; omega)) (q.2.1 48 0 (by unfold fp_M0; omega)) k r
theorem wa_0 {S : Nat → Int32} {k m : Nat} {r : Int32} (q : S k = 0) : wo_wa S (k + 1) m r = wo_wa S k m r := if_pos q
theorem wa_1 {S : Nat → Int32} {k m : Nat} {r : Int32} (q : ¬ S k = 0) : wo_wa S (k + 1) m r = wo_wa S k (m + 1) (nI k) := if_neg q
def wa_r (x3 : Int32) (p : Nat × Int32) : Int32 := if x3 = 0 then nI p.1 else p.2
theorem sl_was {u : pa_S} {h l z : Nat} {x3 : Int32} {po : Int32 → pa_S → Prop} (hf : wo_WF w) (hh : h < wo_n w) (hl : l < 3) (hs : se_z u z (wo_n w)) :
    ∀ (k f m y : Nat) (r : Int32) (v : pa_S), k ≤ 61 → k < f → y ≤ 60 → qc_r N u v → wo_C v 2 (wo_wy w (3 * h + l) y) →
      (∀ x, qc_r N u x → po (wa_r x3 (wo_wa (sy_S w u z (3 * h + l)) k m r)) x) → wl_X6_was_51 po f v (nI h) (nI l) x3 (nI m) r (nI k + (-1)) := by
  intro k
  induction k with
  | zero =>
    intro f m y r v _ hlt hy qv hc hk
    obtain ⟨f, rfl⟩ : ∃ g, f = g + 1 := ⟨f - 1, by omega⟩
    unfold wl_X6_was_51 wb_X6_was_51
    rw [if_pos (show nI 0 + (-1) < 0 by decide)]
    have h0 := hk v qv
    unfold wa_r wo_wa at h0
    by_cases q : x3 = 0
    · rw [if_pos q] at h0 ⊢; exact h0
    · rw [if_neg q] at h0 ⊢; exact h0
  | succ k ih =>
    intro f m y r v hk6 hlt hy qv hc hk
    obtain ⟨f, rfl⟩ : ∃ g, f = g + 1 := ⟨f - 1, by omega⟩
    have h5 := hf.1
    unfold wl_X6_was_51 wb_X6_was_51
    rw [pk_m1, if_neg (nI_pos (by omega)), sp_putLength (wo_WF_wy hf hy) hc hh hl]
    generalize hv' : pa_sA v 5 2 (upd (pa_A v 5 2) (3 * h + l) (nI k)) = v'
    have qv' : qc_r N u v' := by
      rw [← hv']; exact qc_trans qv (qc_d (s := 2) (by omega) (fr_sA (by unfold fp_d; omega) (fr_refl v)))
    have hc' : wo_C v' 2 (wo_wy w (3 * h + l) k) := by
      rw [← hv']
      refine wo_C_wl (l := wo_at w (3 * h + l) y) hc (fun j hj => ?_)
      rw [pw_upd]
      unfold wo_at
      by_cases q : j = 3 * h + l
      · rw [if_pos q, if_pos q]
      · rw [if_neg q, if_neg q]
        have c7 : pa_A v 5 2 j = nI (wo_at w (3 * h + l) y j) := hc.2.2.2.2.2.2.1 j hj
        rw [c7]
        unfold wo_at
        rw [if_neg q]
    rw [sp_seen (n := wo_n w) (wo_WF_wy hf (show k ≤ 60 by omega)) hc' (Nat.le_refl _) (se_qc qv' hs), sn_qc qv']
    by_cases q : wo_sn (wo_wy w (3 * h + l) k) u z 0 = 0
    · rw [if_pos q]
      rw [wa_0 (S := sy_S w u z (3 * h + l)) q] at hk
      unfold wb_X6_was_81
      simp only [forall_eq]
      exact ih f m k r v' (by omega) (by omega) (by omega) qv' hc' hk
    · rw [if_neg q]
      rw [wa_1 (S := sy_S w u z (3 * h + l)) q] at hk
      unfold wb_X6_was_81
      simp only [forall_eq, pw_n1, nI_add]
      exact ih f (m + 1) k (nI k) v' (by omega) (by omega) (by omega) qv' hc' hk
theorem ml_was {u : pa_S} {h l z : Nat} {x3 : Int32} {po : Int32 → pa_S → Prop} (hu : iv_at u w e N) (hh : h < wo_n w) (hl : l < 3) (hs : se_z u z (wo_n w)) :
    ∀ (k f m y : Nat) (r : Int32) (v : pa_S), k ≤ 61 → k < f → y ≤ 60 → fr_of fp_M0 u v → wo_M v (wo_wy w (3 * h + l) y) →
      (∀ x, iv_at x w e N → po (wa_r x3 (wo_wa (sy_S w u z (3 * h + l)) k m r)) x) → wl_X7_was_51 po f v (nI h) (nI l) x3 (nI (wo_l w (3 * h + l))) (nI m) r (nI k + (-1)) := by
  intro k
  induction k with
  | zero =>
    intro f m y r v _ hlt hy gv hc hk
    obtain ⟨f, rfl⟩ : ∃ g, f = g + 1 := ⟨f - 1, by omega⟩
    have hf := iv_F hu
    have h5 := hf.1
    unfold wl_X7_was_51 wb_X7_was_51
    rw [if_pos (show nI 0 + (-1) < 0 by decide), pw_n3, pk_mul, nI_add, pw_and (vp_in_nI (by omega) (by omega)), nI_clamp (by omega)]
    simp only [forall_eq]
    generalize hv' : pa_sA v 28 0 (upd (pa_A v 28 0) (3 * h + l) (nI (wo_l w (3 * h + l)))) = v'
    have g' : fr_of fp_M0 u v' := by rw [← hv']; exact fr_trans gv (fr_sA (by unfold fp_M0; omega) (fr_refl v))
    have hm' : wo_M v' w := by
      rw [← hv']
      refine wo_M_congr (wo_M_l (l := wo_l w) hc (fun j hj => ?_)) rfl (fun _ _ => ⟨rfl, rfl, rfl⟩) (fun _ _ => rfl) (fun _ _ => rfl) rfl rfl rfl
      rw [pw_upd]
      by_cases q : j = 3 * h + l
      · rw [if_pos q, q]
      · rw [if_neg q]
        have c7 : pa_A v 28 0 j = nI (wo_at w (3 * h + l) y j) := hc.2.2.2.2.2.1 j hj
        rw [c7]
        unfold wo_at
        rw [if_neg q]
    have h0 := hk v' (iv_at_m hu g' hm')
    unfold wa_r wo_wa at h0
    by_cases q : x3 = 0
    · rw [if_pos q] at h0 ⊢; exact h0
    · rw [if_neg q] at h0 ⊢; exact h0
  | succ k ih =>
    intro f m y r v hk6 hlt hy gv hc hk
    obtain ⟨f, rfl⟩ : ∃ g, f = g + 1 := ⟨f - 1, by omega⟩
    have hf := iv_F hu
    have h5 := hf.1
    unfold wl_X7_was_51 wb_X7_was_51
    rw [pk_m1, if_neg (nI_pos (by omega)), pw_n3, pk_mul, nI_add, pw_and (vp_in_nI (by omega) (by omega)), nI_clamp (by omega)]
    simp only [forall_eq]
    generalize hv' : pa_sA v 28 0 (upd (pa_A v 28 0) (3 * h + l) (nI k)) = v'
    have g' : fr_of fp_M0 u v' := by rw [← hv']; exact fr_trans gv (fr_sA (by unfold fp_M0; omega) (fr_refl v))
    have hc' : wo_M v' (wo_wy w (3 * h + l) k) := by
      rw [← hv']
      refine wo_M_congr (wo_M_l (l := wo_at w (3 * h + l) k) hc (fun j hj => ?_)) rfl (fun _ _ => ⟨rfl, rfl, rfl⟩) (fun _ _ => rfl) (fun _ _ => rfl) rfl rfl rfl
      rw [pw_upd]
      unfold wo_at
      by_cases q : j = 3 * h + l
      · rw [if_pos q, if_pos q]
      · rw [if_neg q, if_neg q]
        have c7 : pa_A v 28 0 j = nI (wo_at w (3 * h + l) y j) := hc.2.2.2.2.2.1 j hj
        rw [c7]
        unfold wo_at
        rw [if_neg q]
    refine mp_isSeen (n := wo_n w) (wo_WF_wy hf (show k ≤ 60 by omega)) hu.1.2.1 (Nat.le_refl _) (se_M0 g' hs) hc' (fun x hx gx => ?_)
    rw [sn_M0 g']
    have g2 := fr_trans g' (fr_mono (fun _ _ _ z => fp_qM z) gx)
    by_cases q : wo_sn (wo_wy w (3 * h + l) k) u z 0 = 0
    · rw [if_pos q]
      rw [wa_0 (S := sy_S w u z (3 * h + l)) q] at hk
      unfold wb_X7_was_85
      simp only [forall_eq]
      exact ih f m k r x (by omega) (by omega) (by omega) g2 hx hk
    · rw [if_neg q]
      rw [wa_1 (S := sy_S w u z (3 * h + l)) q] at hk
      unfold wb_X7_was_85
      simp only [forall_eq, pw_n1, nI_add]
      exact ih f (m + 1) k (nI k) x (by omega) (by omega) (by omega) g2 hx hk
theorem wo_wy_C {v : pa_S} {p : Nat} (h : wo_C v 2 w) : wo_C v 2 (wo_wy w p (wo_l w p)) :=
  wo_C_congr h rfl (fun _ _ => ⟨rfl, rfl, rfl⟩) (fun j _ => show (if j = p then wo_l w p else wo_l w j) = wo_l w j by split <;> simp_all) (fun _ _ => rfl) rfl rfl rfl
theorem wo_wy_M {v : pa_S} {p : Nat} (h : wo_M v w) : wo_M v (wo_wy w p (wo_l w p)) :=
  wo_M_congr h rfl (fun _ _ => ⟨rfl, rfl, rfl⟩) (fun j _ => show (if j = p then wo_l w p else wo_l w j) = wo_l w j by split <;> simp_all) (fun _ _ => rfl) rfl rfl rfl
theorem wo_wv_C {v : pa_S} {p : Nat} (h : wo_C v 2 w) : wo_C v 2 (wo_wv w p (wo_v w p)) :=
  wo_C_congr h rfl (fun j _ => ⟨rfl, show (if j = p then wo_v w p else wo_v w j) = wo_v w j by split <;> simp_all, rfl⟩) (fun j _ => rfl) (fun _ _ => rfl) rfl rfl rfl
theorem wo_wv_M {v : pa_S} {p : Nat} (h : wo_M v w) : wo_M v (wo_wv w p (wo_v w p)) :=
  wo_M_congr h rfl (fun j _ => ⟨rfl, show (if j = p then wo_v w p else wo_v w j) = wo_v w j by split <;> simp_all, rfl⟩) (fun j _ => rfl) (fun _ _ => rfl) rfl rfl rfl
theorem wo_C_wv {v : pa_S} {h y k : Nat} (hc : wo_C v 2 (wo_wv w h y)) : wo_C (pa_sA v 3 2 (upd (pa_A v 3 2) h (nI k))) 2 (wo_wv w h k) := by
  obtain ⟨c1, c2, c3, c4, c5, c6, c7, c8⟩ := hc
  refine ⟨c1, c2, c3, c4, c5, fun j hj => ?_, fun j hj => ?_, fun j hj => ?_⟩
  · rw [pA_sA, pA_sA, pA_sA, if_neg (by omega), if_pos ⟨rfl, rfl⟩, if_neg (by omega), pw_upd]
    refine ⟨(c6 j hj).1, ?_, (c6 j hj).2.2⟩
    have c := (c6 j hj).2.1
    show _ = nI (if j = h then k else wo_v w j)
    by_cases q : j = h
    · rw [if_pos q, if_pos q]
    · rw [if_neg q, if_neg q, c]
      show nI (if j = h then y else wo_v w j) = _
      rw [if_neg q]
  · rw [pA_sA, if_neg (by omega)]; exact c7 j hj
  · rw [pA_sA, if_neg (by omega)]; exact c8 j hj
theorem wo_M_wv {v : pa_S} {h y k : Nat} (hc : wo_M v (wo_wv w h y)) : wo_M (pa_sA v 26 0 (upd (pa_A v 26 0) h (nI k))) (wo_wv w h k) := by
  obtain ⟨c1, c2, c3, c4, c6, c7, c8⟩ := hc
  refine ⟨c1, c2, c3, c4, fun j hj => ?_, fun j hj => ?_, fun j hj => ?_⟩
  · rw [pA_sA, pA_sA, pA_sA, if_neg (by omega), if_pos ⟨rfl, rfl⟩, if_neg (by omega), pw_upd]
    refine ⟨(c6 j hj).1, ?_, (c6 j hj).2.2⟩
    have c := (c6 j hj).2.1
    show _ = nI (if j = h then k else wo_v w j)
    by_cases q : j = h
    · rw [if_pos q, if_pos q]
    · rw [if_neg q, if_neg q, c]
      show nI (if j = h then y else wo_v w j) = _
      rw [if_neg q]
  · rw [pA_sA, if_neg (by omega)]; exact c7 j hj
  · rw [pA_sA, if_neg (by omega)]; exact c8 j hj
theorem sl_can {u : pa_S} {h z : Nat} {x3 : Int32} {po : Int32 → pa_S → Prop} (hf : wo_WF w) (hh : h < wo_n w) (hs : se_z u z (wo_n w)) :
    ∀ (k f m y : Nat) (r : Int32) (v : pa_S), k ≤ 10 → k < f → y ≤ 9 → qc_r N u v → wo_C v 2 (wo_wv w h y) →
      (∀ x, qc_r N u x → po (wa_r x3 (wo_wa (sv_S w u z h) k m r)) x) → wl_X6_can_48 po f v (nI h) x3 (nI m) r (nI k + (-1)) := by
  intro k
  induction k with
  | zero =>
    intro f m y r v _ hlt hy qv hc hk
    obtain ⟨f, rfl⟩ : ∃ g, f = g + 1 := ⟨f - 1, by omega⟩
    unfold wl_X6_can_48 wb_X6_can_48
    rw [if_pos (show nI 0 + (-1) < 0 by decide)]
    have h0 := hk v qv
    unfold wa_r wo_wa at h0
    by_cases q : x3 = 0
    · rw [if_pos q] at h0 ⊢; exact h0
    · rw [if_neg q] at h0 ⊢; exact h0
  | succ k ih =>
    intro f m y r v hk6 hlt hy qv hc hk
    obtain ⟨f, rfl⟩ : ∃ g, f = g + 1 := ⟨f - 1, by omega⟩
    have h5 := hf.1
    unfold wl_X6_can_48 wb_X6_can_48
    rw [pk_m1, if_neg (nI_pos (by omega)), sp_putV (wo_WF_wv hf hy) hc hh]
    generalize hv' : pa_sA v 3 2 (upd (pa_A v 3 2) h (nI k)) = v'
    have qv' : qc_r N u v' := by
      rw [← hv']; exact qc_trans qv ⟨fr_sA (by unfold fp_t; omega) (fr_refl v), fun z => z⟩
    have hc' : wo_C v' 2 (wo_wv w h k) := by rw [← hv']; exact wo_C_wv hc
    rw [sp_seen (n := wo_n w) (wo_WF_wv hf (show k ≤ 9 by omega)) hc' (Nat.le_refl _) (se_qc qv' hs), sn_qc qv']
    by_cases q : wo_sn (wo_wv w h k) u z 0 = 0
    · rw [if_pos q]
      rw [wa_0 (S := sv_S w u z h) q] at hk
      unfold wb_X6_can_75
      simp only [forall_eq]
      exact ih f m k r v' (by omega) (by omega) (by omega) qv' hc' hk
    · rw [if_neg q]
      rw [wa_1 (S := sv_S w u z h) q] at hk
      unfold wb_X6_can_75
      simp only [forall_eq, pw_n1, nI_add]
      exact ih f (m + 1) k (nI k) v' (by omega) (by omega) (by omega) qv' hc' hk
theorem ml_can {u : pa_S} {h z : Nat} {x3 : Int32} {po : Int32 → pa_S → Prop} (hu : iv_at u w e N) (hh : h < wo_n w) (hs : se_z u z (wo_n w)) :
    ∀ (k f m y : Nat) (r : Int32) (v : pa_S), k ≤ 10 → k < f → y ≤ 9 → fr_of fp_M0 u v → wo_M v (wo_wv w h y) →
      (∀ x, iv_at x w e N → po (wa_r x3 (wo_wa (sv_S w u z h) k m r)) x) → wl_X7_can_38 po f v (nI h) x3 (nI (wo_v w h)) (nI m) r (nI k + (-1)) := by
  intro k
  induction k with
  | zero =>
    intro f m y r v _ hlt hy gv hc hk
    obtain ⟨f, rfl⟩ : ∃ g, f = g + 1 := ⟨f - 1, by omega⟩
    have hf := iv_F hu
    have h5 := hf.1
    unfold wl_X7_can_38 wb_X7_can_38
    rw [if_pos (show nI 0 + (-1) < 0 by decide), pw_and (vp_in_nI (by omega) (by omega)), nI_clamp (by omega)]
    simp only [forall_eq]
    generalize hv' : pa_sA v 26 0 (upd (pa_A v 26 0) h (nI (wo_v w h))) = v'
    have g' : fr_of fp_M0 u v' := by rw [← hv']; exact fr_trans gv (fr_sA (by unfold fp_M0; omega) (fr_refl v))
    have hm' : wo_M v' w := by
      rw [← hv']
      exact wo_M_congr (wo_M_wv (k := wo_v w h) hc) rfl (fun j _ => ⟨rfl, show wo_v w j = (if j = h then wo_v w h else wo_v w j) by split <;> simp_all, rfl⟩) (fun _ _ => rfl) (fun _ _ => rfl) rfl rfl rfl
    have h0 := hk v' (iv_at_m hu g' hm')
    unfold wa_r wo_wa at h0
    by_cases q : x3 = 0
    · rw [if_pos q] at h0 ⊢; exact h0
    · rw [if_neg q] at h0 ⊢; exact h0
  | succ k ih =>
    intro f m y r v hk6 hlt hy gv hc hk
    obtain ⟨f, rfl⟩ : ∃ g, f = g + 1 := ⟨f - 1, by omega⟩
    have hf := iv_F hu
    have h5 := hf.1
    unfold wl_X7_can_38 wb_X7_can_38
    rw [pk_m1, if_neg (nI_pos (by omega)), pw_and (vp_in_nI (by omega) (by omega)), nI_clamp (by omega)]
    simp only [forall_eq]
    generalize hv' : pa_sA v 26 0 (upd (pa_A v 26 0) h (nI k)) = v'
    have g' : fr_of fp_M0 u v' := by rw [← hv']; exact fr_trans gv (fr_sA (by unfold fp_M0; omega) (fr_refl v))
    have hc' : wo_M v' (wo_wv w h k) := by rw [← hv']; exact wo_M_wv hc
    refine mp_isSeen (n := wo_n w) (wo_WF_wv hf (show k ≤ 9 by omega)) hu.1.2.1 (Nat.le_refl _) (se_M0 g' hs) hc' (fun x hx gx => ?_)
    rw [sn_M0 g']
    have g2 := fr_trans g' (fr_mono (fun _ _ _ z => fp_qM z) gx)
    by_cases q : wo_sn (wo_wv w h k) u z 0 = 0
    · rw [if_pos q]
      rw [wa_0 (S := sv_S w u z h) q] at hk
      unfold wb_X7_can_68
      simp only [forall_eq]
      exact ih f m k r x (by omega) (by omega) (by omega) g2 hx hk
    · rw [if_neg q]
      rw [wa_1 (S := sv_S w u z h) q] at hk
      unfold wb_X7_can_68
      simp only [forall_eq, pw_n1, nI_add]
      exact ih f (m + 1) k (nI k) x (by omega) (by omega) (by omega) g2 hx hk
end WAS
theorem case_k20 {u : pa_S} {a1 a2 a3 a4 a5 : Int32} (hi : iv_I u) : pa_case iv_I u a1 a2 a3 a4 a5 20 := by
  have hi0 := hi
  obtain ⟨w, e, N, hw⟩ := hi
  have hf := iv_F hw
  have h5 := hf.1
  obtain ⟨z, hs⟩ := hw.2.2.1.1
  show wp_X6_was u a1 a2 a3 _
  have X : ∀ (v : pa_S) po, wp_X7_was v a1 a2 a3 po = wb_X7_was_0 v a1 a2 a3 po := fun _ _ => rfl
  simp only [X]
  unfold wp_X6_was wb_X6_was_0 wb_X7_was_0
  rcases rg_h w a1 hf with ⟨h, hh, rfl⟩ | h
  rotate_left
  · rw [hasL_0 hf (iv_C hw) (Or.inl h), if_pos rfl]; dsimp only
    rw [ih_0 hf (iv_M hw) h, if_pos rfl]
    exact ⟨rfl, hi0⟩
  rcases rg_01 a2 0 2 (by omega) (by omega) with ⟨l, _, hl2, rfl⟩ | hl2
  rotate_left
  · rw [hasL_0 hf (iv_C hw) (Or.inr hl2), if_pos rfl]; dsimp only
    rw [ih_1 hf (iv_M hw) hh, if_neg (by decide), il_0 hl2, if_pos rfl]
    exact ⟨rfl, hi0⟩
  rw [sp_hasLine hf (iv_C hw) hh (by omega), if_neg (by decide)]
  rcases rg_01 a3 0 1 (by omega) (by omega) with ⟨x, _, hx, rfl⟩ | hx
  rotate_left
  · rw [wi_0 (A := 0) (B := 1) (lo := 0) (hi := 1) rfl rfl hx, if_pos rfl]; dsimp only
    rw [ih_1 hf (iv_M hw) hh, if_neg (by decide), il_1 (by omega), if_neg (by decide), in_0 (A := 0) (B := 1) (lo := 0) (hi := 1) rfl rfl hx, if_pos rfl]
    exact ⟨rfl, hi0⟩
  rw [wi_1 (A := 0) (B := 1) (lo := 0) (hi := 1) rfl rfl (by omega) hx (by omega), if_neg (by decide)]
  have l60 := hf.2.2.1 (3 * h + l) (by omega)
  refine qc_start hw (by omega) (fun v qv hv => ?_)
  refine sl_was (N := N) (u := u) (z := z) (x3 := nI x) (l := l) hf hh (by omega) hs 61 5000 0 (wo_l w (3 * h + l)) (-5) v (by omega) (by omega) l60 qv (wo_wy_C hv) (fun v1 q1 => ?_)
  have hw1 := iv_at_qc hw q1
  dsimp only
  rw [ih_1 hf (iv_M hw1) hh, if_neg (by decide), il_1 (by omega), if_neg (by decide), in_1 (A := 0) (B := 1) (lo := 0) (hi := 1) rfl rfl (by omega) hx (by omega), if_neg (by decide), pw_n3, pk_mul, nI_add, pw_and (vp_in_nI (by omega) (by omega)), nI_clamp (by omega), (iv_M hw1).2.2.2.2.2.1 _ (show 3 * h + l < 3 * wo_n w by omega)]
  simp only [forall_eq]
  refine ml_was (x3 := nI x) (l := l) hw1 hh (by omega) (se_qc q1 hs) 61 5000 0 (wo_l w (3 * h + l)) (-5) v1 (by omega) (by omega) l60 (fr_refl v1) (wo_wy_M (iv_M hw1)) (fun v2 hw2 => ⟨?_, iv_at_I hw2⟩)
  rw [show sy_S w v1 z (3 * h + l) = (sy_S w u z (3 * h + l)) from funext (fun y => sn_qc q1 z 0)]
theorem case_k21 {u : pa_S} {a1 a2 a3 a4 a5 : Int32} (hi : iv_I u) : pa_case iv_I u a1 a2 a3 a4 a5 21 := by
  have hi0 := hi
  obtain ⟨w, e, N, hw⟩ := hi
  have hf := iv_F hw
  have h5 := hf.1
  obtain ⟨z, hs⟩ := hw.2.2.1.1
  show wp_X6_can u a1 a2 _
  have X : ∀ (v : pa_S) po, wp_X7_can v a1 a2 po = wb_X7_can_0 v a1 a2 po := fun _ _ => rfl
  simp only [X]
  unfold wp_X6_can wb_X6_can_0 wb_X7_can_0
  rcases rg_h w a1 hf with ⟨h, hh, rfl⟩ | h
  rotate_left
  · rw [has_0 (iv_C hw) h, if_pos rfl]; dsimp only
    rw [ih_0 hf (iv_M hw) h, if_pos rfl]
    exact ⟨rfl, hi0⟩
  rw [sp_has hf (iv_C hw) hh, if_neg (by decide)]
  rcases rg_01 a2 0 1 (by omega) (by omega) with ⟨x, _, hx, rfl⟩ | hx
  rotate_left
  · rw [wi_0 (A := 0) (B := 1) (lo := 0) (hi := 1) rfl rfl hx, if_pos rfl]; dsimp only
    rw [ih_1 hf (iv_M hw) hh, if_neg (by decide), in_0 (A := 0) (B := 1) (lo := 0) (hi := 1) rfl rfl hx, if_pos rfl]
    exact ⟨rfl, hi0⟩
  rw [wi_1 (A := 0) (B := 1) (lo := 0) (hi := 1) rfl rfl (by omega) hx (by omega), if_neg (by decide)]
  have l9 := (hf.2.1 h hh).2.1
  refine qc_start hw (by omega) (fun v qv hv => ?_)
  refine sl_can (N := N) (u := u) (z := z) (x3 := nI x) hf hh hs 10 5000 0 (wo_v w h) (-5) v (by omega) (by omega) l9 qv (wo_wv_C hv) (fun v1 q1 => ?_)
  have hw1 := iv_at_qc hw q1
  dsimp only
  rw [ih_1 hf (iv_M hw1) hh, if_neg (by decide), in_1 (A := 0) (B := 1) (lo := 0) (hi := 1) rfl rfl (by omega) hx (by omega), if_neg (by decide), pw_and (vp_in_nI (by omega) (by omega)), nI_clamp (by omega), ((iv_M hw1).2.2.2.2.1 h hh).2.1]
  simp only [forall_eq]
  refine ml_can (x3 := nI x) hw1 hh (se_qc q1 hs) 10 5000 0 (wo_v w h) (-5) v1 (by omega) (by omega) l9 (fr_refl v1) (wo_wv_M (iv_M hw1)) (fun v2 hw2 => ⟨?_, iv_at_I hw2⟩)
  rw [show sv_S w v1 z h = (sv_S w u z h) from funext (fun y => sn_qc q1 z 0)]
