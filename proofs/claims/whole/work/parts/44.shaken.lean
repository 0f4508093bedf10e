/-! shaken -/
def sk_g (L : List (Nat × Nat)) (q : Nat) : Nat × Nat := L.getD q (0, 0)
/-- the world after the shakes that row r spells with d digits -/
def sk_w (e : pw_E) (w : pw_W) (L : List (Nat × Nat)) : Nat → Nat → pw_W
  | 0, _ => w
  | d + 1, r => wo_hw e (sk_w e w L d (r / L.length)) (sk_g L (r % L.length)).1 (sk_g L (r % L.length)).2
/-- the first of c rows from s on with which it is so -/
def sk_s (Q : Nat → Int32) : Nat → Nat → Option Nat
  | _, 0 => none
  | s, c + 1 => if Q s = -5 then some s else sk_s Q (s + 1) c
theorem sk_s_t {Q : Nat → Int32} {s c : Nat} : sk_s Q s (c + 1) = if Q s = -5 then some s else sk_s Q (s + 1) c := rfl
theorem sk_s_app {Q : Nat → Int32} : ∀ (a s b : Nat), sk_s Q s (a + b) = (match sk_s Q s a with | some r => some r | none => sk_s Q (s + a) b)
  | 0, s, b => by rw [Nat.zero_add, Nat.add_zero]; rfl
  | a + 1, s, b => by
    rw [show a + 1 + b = (a + b) + 1 by omega, sk_s_t, sk_s_t]
    by_cases q : Q s = -5
    · rw [if_pos q, if_pos q]
    · rw [if_neg q, if_neg q, sk_s_app a (s + 1) b, show s + 1 + a = s + (a + 1) by omega]
theorem sk_s_n {Q : Nat → Int32} {a s b : Nat} (h : sk_s Q s a = none) : sk_s Q s (a + b) = sk_s Q (s + a) b := by rw [sk_s_app, h]
theorem sk_s_s {Q : Nat → Int32} {a s b r : Nat} (h : sk_s Q s a = some r) : sk_s Q s (a + b) = some r := by rw [sk_s_app, h]
theorem sk_s_in {Q : Nat → Int32} : ∀ (c s r : Nat), sk_s Q s c = some r → s ≤ r ∧ r < s + c
  | 0, s, r, h => absurd h (by unfold sk_s; simp)
  | c + 1, s, r, h => by
    unfold sk_s at h
    by_cases q : Q s = -5
    · rw [if_pos q] at h
      obtain rfl := Option.some.inj h
      omega
    · rw [if_neg q] at h
      have := sk_s_in c (s + 1) r h
      omega
def sk_c (L : List (Nat × Nat)) (q : Nat) : Int32 := nI (10 * (sk_g L q).1 + (sk_g L q).2)
/-- the answer: the first number of shakes with which it is so -/
def sk_a (S : Nat → Option Nat) : Nat → Nat → Option (Nat × Nat)
  | 0, _ => none
  | k + 1, m => match S m with
    | some r => some (m, r)
    | none => sk_a S k (m + 1)
def sk_r (L : List (Nat × Nat)) (x1 : Int32) : Option (Nat × Nat) → Int32
  | none => -5
  | some p => if 0 ≤ x1 then (if nI p.1 ≤ x1 then -5 else sk_c L (p.2 / L.length ^ (p.1 - 1 - x1.toNatClampNeg) % L.length)) else nI p.1
theorem sk_a_n {S : Nat → Option Nat} {k m : Nat} (h : S m = none) : sk_a S (k + 1) m = sk_a S k (m + 1) := by
  show (match S m with | some r => some (m, r) | none => sk_a S k (m + 1)) = _
  rw [h]
theorem sk_a_s {S : Nat → Option Nat} {k m r : Nat} (h : S m = some r) : sk_a S (k + 1) m = some (m, r) := by
  show (match S m with | some r => some (m, r) | none => sk_a S k (m + 1)) = _
  rw [h]
theorem sk_r_t {L : List (Nat × Nat)} {x1 : Int32} {p : Nat × Nat} : sk_r L x1 (some p) = if 0 ≤ x1 then (if nI p.1 ≤ x1 then -5 else sk_c L (p.2 / L.length ^ (p.1 - 1 - x1.toNatClampNeg) % L.length)) else nI p.1 := rfl
theorem sk_r_1 {L : List (Nat × Nat)} {m r : Nat} : sk_r L (-1) (some (m, r)) = nI m := by
  rw [sk_r_t, if_neg (by decide)]
theorem sk_r_2 {L : List (Nat × Nat)} {m r n : Nat} (h : m ≤ n) (hn : n ≤ 2) : sk_r L (nI n) (some (m, r)) = -5 := by
  show (if 0 ≤ nI n then (if nI m ≤ nI n then (-5 : Int32) else _) else nI m) = -5
  rw [if_pos (nI_pos' (by omega)), if_pos (nI_le h (by omega))]
theorem sk_r_3 {L : List (Nat × Nat)} {m r n : Nat} (h : n < m) (hm : m ≤ 4) : sk_r L (nI n) (some (m, r)) = sk_c L (r / L.length ^ (m - 1 - n) % L.length) := by
  show (if 0 ≤ nI n then (if nI m ≤ nI n then (-5 : Int32) else sk_c L (r / L.length ^ (m - 1 - (nI n).toNatClampNeg) % L.length)) else nI m) = _
  rw [if_pos (nI_pos' (by omega)), if_neg (nI_ge h (by omega)), nI_clamp (by omega)]
def bk_z (u : pa_S) (z n : Nat) : Prop := z ≤ 8 ∧ pa_I u 8 2 1 = nI z ∧ pa_I u 24 0 30 = nI z ∧ ∀ r, r < z → ∃ h l x, h < n ∧ l < 3 ∧ x ≤ 60 ∧
  pa_A u 9 2 (4 * r) = nI h ∧ pa_A u 9 2 (4 * r + 1) = nI l ∧ pa_A u 9 2 (4 * r + 2) = nI x ∧ pa_A u 42 0 r = nI (3 * h + l) ∧ pa_A u 43 0 r = nI x
theorem bk_fr {P : Nat → Nat → Nat → Prop} {u v : pa_S} {z n : Nat} (h : fr_of P u v) (h1 : ¬ P 8 2 1) (h2 : ¬ P 24 0 30) (h3 : ¬ P 9 2 100) (h4 : ¬ P 42 0 100) (h5 : ¬ P 43 0 100) (q : bk_z u z n) : bk_z v z n := by
  obtain ⟨q, z1, z2, z3⟩ := q
  refine ⟨q, (h.1 _ _ _ h1).trans z1, (h.1 _ _ _ h2).trans z2, ?_⟩
  rw [h.2.1 _ _ h3, h.2.1 _ _ h4, h.2.1 _ _ h5]
  exact z3
theorem wo_lk_fr {w : pw_W} {u v : pa_S} (h1 : pa_A v 42 0 = pa_A u 42 0) (h2 : pa_A v 43 0 = pa_A u 43 0) : ∀ k r, wo_lk w v k r = wo_lk w u k r
  | 0, _ => rfl
  | k + 1, r => by unfold wo_lk; rw [h1, h2, wo_lk_fr h1 h2 k (r + 1)]
theorem pw_powle {P : Nat} (h : P ≤ 10) : ∀ t, t ≤ 3 → P ^ t ≤ 1000
  | t, ht => Nat.le_trans (Nat.pow_le_pow_left h t) (Nat.le_trans (Nat.pow_le_pow_right (by omega) ht) (by decide))
/-- what the trials deeper than dep change -/
def fp_e (dep : Nat) (t i k : Nat) : Prop := (1 ≤ t ∧ t ≤ 7 ∧ 2 + dep < i) ∨ t = 7 ∨ t = 23
def sk_f (dep : Nat) (v x : pa_S) : Prop := fr_of (fp_e dep) v x ∧ ∀ j, j < dep → pa_A x 23 0 j = pa_A v 23 0 j
section SHAKEN
variable {w : pw_W} {e : pw_E} {N : Nat}
theorem sk_f_refl {dep : Nat} {v : pa_S} : sk_f dep v v := ⟨fr_refl v, fun _ _ => rfl⟩
theorem sk_f_trans {dep : Nat} {v x y : pa_S} (a : sk_f dep v x) (b : sk_f dep x y) : sk_f dep v y := ⟨fr_trans a.1 b.1, fun j h => (b.2 j h).trans (a.2 j h)⟩
theorem sk_f_up {dep : Nat} {v x : pa_S} (a : sk_f (dep + 1) v x) : sk_f dep v x := ⟨fr_mono (fun t i k z => by unfold fp_e at z ⊢; omega) a.1, fun j h => a.2 j (by omega)⟩
theorem wo_C_e {dep : Nat} {v x : pa_S} {w : pw_W} (a : sk_f dep v x) (h : wo_C v (2 + dep) w) : wo_C x (2 + dep) w :=
  wo_C_fr (fun t k _ _ => by unfold fp_e; omega) (by unfold fp_e; omega) a.1 h
theorem bk_qc {u v : pa_S} {z n : Nat} (q : qc_r N u v) (h : bk_z u z n) : bk_z v z n :=
  bk_fr q.1 (by unfold fp_t; omega) (by unfold fp_t; omega) (by unfold fp_t; omega) (by unfold fp_t; omega) (by unfold fp_t; omega) h
theorem bk_M0 {u v : pa_S} {z n : Nat} (q : fr_of fp_M0 u v) (h : bk_z u z n) : bk_z v z n :=
  bk_fr q (by unfold fp_M0; omega) (by unfold fp_M0; omega) (by unfold fp_M0; omega) (by unfold fp_M0; omega) (by unfold fp_M0; omega) h
theorem lk_qc {u v : pa_S} {w : pw_W} (q : qc_r N u v) (k r : Nat) : wo_lk w v k r = wo_lk w u k r :=
  wo_lk_fr (q.1.2.1 42 0 (by unfold fp_t; omega)) (q.1.2.1 43 0 (by unfold fp_t; omega)) k r
theorem lk_M0 {u v : pa_S} {w : pw_W} (q : fr_of fp_M0 u v) (k r : Nat) : wo_lk w v k r = wo_lk w u k r :=
  wo_lk_fr (q.2.1 42 0 (by unfold fp_M0; omega)) (q.2.1 43 0 (by unfold fp_M0; omega)) k r
theorem sk_gm {L : List (Nat × Nat)} {q : Nat} (h : q < L.length) : sk_g L q ∈ L := by
  unfold sk_g
  rw [List.getD_eq_getElem?_getD, List.getElem?_eq_getElem h]
  exact List.getElem_mem h
theorem sk_ok {L : List (Nat × Nat)} (hf : wo_WF w) (hw : en_WF e N) (hb : wo_b w < N) (hL : ∀ p ∈ L, p.1 < p.2 ∧ p.2 < wo_n w) (h0 : 0 < L.length) :
    ∀ d r, wo_WF (sk_w e w L d r) ∧ wo_eq w (sk_w e w L d r)
  | 0, _ => ⟨hf, ⟨rfl, rfl, rfl, rfl, rfl⟩⟩
  | d + 1, r => by
    obtain ⟨a, b⟩ := sk_ok hf hw hb hL h0 d (r / L.length)
    have m := hL _ (sk_gm (Nat.mod_lt r h0))
    refine ⟨wo_WF_hw a hw (by rw [b.2.2.2.2]; exact hb) (by rw [b.1]; omega) (by rw [b.1]; exact m.2), wo_eq_trans b wo_hw_eq⟩
theorem sp_first {v : pa_S} {s z n : Nat} {w : pw_W} {po : Int32 → Prop} (hf : wo_WF w) (hc : wo_C v s w) (hn : wo_n w = n) (hs : bk_z v z n) : wp_X6_firstOtherwise v s po = po (wo_lk w v z 0) := by
  have hz := hs.1
  unfold wp_X6_firstOtherwise wb_X6_firstOtherwise_0
  rw [pw_n0]
  exact sl_first hf hc hn hs.1 hs.2.1 hs.2.2.2 z 5000 0 (by omega) (by omega)
theorem mp_looked {v : pa_S} {z n : Nat} {w : pw_W} {po : Int32 → Prop} (hf : wo_WF w) (hc : wo_M v w) (hn : wo_n w = n) (hs : bk_z v z n) : wp_X7_looked v po = po (wo_lk w v z 0) := by
  have hz := hs.1
  unfold wp_X7_looked wb_X7_looked_0
  rw [pw_n0]
  exact ml_looked hf hc hn hs.1 hs.2.2.1 hs.2.2.2 z 5000 0 (by omega) (by omega)
/-- whether the book is so after row r of m shakes -/
def sk_q (e : pw_E) (w : pw_W) (L : List (Nat × Nat)) (u : pa_S) (z m r : Nat) : Int32 := wo_lk (sk_w e w L m r) u z 0
/-- what is claimed of a trial at dep with j shakes to come -/
def sk_T (e : pw_E) (w : pw_W) (N : Nat) (u : pa_S) (z m dep j : Nat) (rec : pa_S → Int32 → Int32 → (Int32 → pa_S → Prop) → Prop) : Prop :=
  ∀ (R : Nat) (v : pa_S) (po : Int32 → pa_S → Prop), (dep = 0 ∨ 0 < (pr_l (wo_n w)).length) → qc_r N u v → wo_C v (2 + dep) (sk_w e w (pr_l (wo_n w)) dep R) →
    (sk_s (sk_q e w (pr_l (wo_n w)) u z m) (R * (pr_l (wo_n w)).length ^ j) ((pr_l (wo_n w)).length ^ j) = none → ∀ x, qc_r N u x → sk_f dep v x → po 0 x) →
    (∀ r, sk_s (sk_q e w (pr_l (wo_n w)) u z m) (R * (pr_l (wo_n w)).length ^ j) ((pr_l (wo_n w)).length ^ j) = some r → ∀ x, qc_r N u x → sk_f dep v x →
      (∀ i, dep ≤ i → i < m → pa_A x 23 0 i = sk_c (pr_l (wo_n w)) (r / (pr_l (wo_n w)).length ^ (m - 1 - i) % (pr_l (wo_n w)).length)) → po 1 x) →
    rec v (nI dep) (nI m) po
theorem sk_g_drop {L M : List (Nat × Nat)} {p : Nat} {y : Nat × Nat} (h : L.drop p = y :: M) : p < L.length ∧ sk_g L p = y ∧ L.drop (p + 1) = M := by
  have hl : p < L.length := by
    have := congrArg List.length h
    rw [List.length_drop, List.length_cons] at this
    omega
  rw [List.drop_eq_getElem_cons hl] at h
  injection h with h1 h2
  refine ⟨hl, ?_, h2⟩
  unfold sk_g
  rw [List.getD_eq_getElem?_getD, List.getElem?_eq_getElem hl, h1]
  rfl
theorem pr_i_len {a : Nat} : ∀ k b, (pr_i a k b).length = k
  | 0, _ => rfl
  | k + 1, b => by unfold pr_i; rw [List.length_cons, pr_i_len k (b + 1)]
theorem sl_soI {u : pa_S} {z m dep j R a : Nat} {M : List (Nat × Nat)} {rec : pa_S → Int32 → Int32 → (Int32 → pa_S → Prop) → Prop} {k54 : pa_S → Nat → Int32 → Int32 → Int32 → Prop} {po : Int32 → pa_S → Prop}
    (hu : iv_at u w e N) (hm : m ≤ 3) (hj : dep + (j + 1) = m) (hrec : sk_T e w N u z m (dep + 1) j rec) (ha : a < wo_n w) :
    ∀ (k f b p : Nat) (v : pa_S), b + k = wo_n w → a < b → k < f → (pr_l (wo_n w)).drop p = pr_i a k b ++ M → qc_r N u v → wo_C v (2 + dep) (sk_w e w (pr_l (wo_n w)) dep R) → wo_WF (sk_w e w (pr_l (wo_n w)) dep R) → wo_eq w (sk_w e w (pr_l (wo_n w)) dep R) →
      (sk_s (sk_q e w (pr_l (wo_n w)) u z m) ((R * (pr_l (wo_n w)).length + p) * (pr_l (wo_n w)).length ^ j) (k * (pr_l (wo_n w)).length ^ j) = none → ∀ x, qc_r N u x → sk_f dep v x → k54 x (2 + (dep + 1)) (nI dep) (nI m) (nI (a + 1))) →
      (∀ r, sk_s (sk_q e w (pr_l (wo_n w)) u z m) ((R * (pr_l (wo_n w)).length + p) * (pr_l (wo_n w)).length ^ j) (k * (pr_l (wo_n w)).length ^ j) = some r → ∀ x, qc_r N u x → sk_f dep v x →
        (∀ i, dep ≤ i → i < m → pa_A x 23 0 i = sk_c (pr_l (wo_n w)) (r / (pr_l (wo_n w)).length ^ (m - 1 - i) % (pr_l (wo_n w)).length)) → po 1 x) →
      wl_X6_isSoAfter_72 rec k54 po f v (2 + (dep + 1)) (nI dep) (nI m) (nI a) (nI b)
  | 0, f + 1, b, p, v, eq, hab, _, hd, qv, hc, hf, he, hk0, hk1 => by
    have h5 := (iv_F hu).1
    have hv := iv_at_qc hu qv
    unfold wl_X6_isSoAfter_72 wb_X6_isSoAfter_72
    rw [(iv_C hv).1, if_pos (nI_le (by omega) (by omega))]
    simp only [forall_eq, pw_n1, nI_add]
    exact hk0 (by rw [Nat.zero_mul]; rfl) v qv sk_f_refl
  | k + 1, f + 1, b, p, v, eq, hab, hlt, hd, qv, hc, hf, he, hk0, hk1 => by
    have h5 := (iv_F hu).1
    have hv := iv_at_qc hu qv
    have hB := iv_B hu
    generalize hL : pr_l (wo_n w) = L at *
    unfold pr_i at hd
    rw [List.cons_append] at hd
    obtain ⟨hp, hg, hd2⟩ := sk_g_drop hd
    have hl10 : L.length ≤ 10 := by rw [← hL]; exact pr_len _ h5
    unfold wl_X6_isSoAfter_72 wb_X6_isSoAfter_72
    rw [(iv_C hv).1, if_neg (nI_ge (by omega) (by omega)), pw_and (vp_in_nI (by omega) (by omega)), nI_clamp (by omega)]
    refine sp_become hf hc (by omega) (fun v1 hv1 hg1 _ _ _ => ?_)
    have q1 : qc_r N u v1 := qc_trans qv (qc_s (by omega) hg1 hv1 (by rw [he.2.2.2.2]; exact hB))
    have f1 : sk_f dep v v1 := ⟨fr_mono (fun t i k y => by unfold fp_s at y; unfold fp_e; omega) hg1, fun j _ => by rw [hg1.2.1 23 0 (by unfold fp_s; omega)]⟩
    have hw1 := iv_at_qc hu q1
    refine sp_shakeHands hf hv1 (iv_EC hw1) (iv_EW hu) (by rw [he.2.2.2.2]; exact hB) (show a < wo_n (sk_w e w L dep R) by rw [he.1]; exact ha) (show b < wo_n (sk_w e w L dep R) by rw [he.1]; omega) (by omega) (fun v2 hv2 hg2 _ => ?_)
    have q2 : qc_r N u v2 := qc_trans q1 (qc_o (s := 2 + (dep + 1)) (by omega) hg2)
    have f2 : sk_f dep v v2 := sk_f_trans f1 ⟨fr_mono (fun t i k y => by unfold fp_o at y; unfold fp_e; omega) hg2, fun j _ => by rw [hg2.2.1 23 0 (by unfold fp_o; omega)]⟩
    rw [pw_and (vp_in_nI (by omega) (by omega)), pw_n10, pk_mul, nI_add]
    simp only [forall_eq, pw_n1, nI_add]
    generalize hx3 : pa_sA v2 23 0 (upd (pa_A v2 23 0) dep (nI (10 * a + b))) = v3
    have g3 : fr_of (fun t _ _ => t = 23) v2 v3 := by rw [← hx3]; exact fr_sA rfl (fr_refl v2)
    have q3 : qc_r N u v3 := qc_trans q2 ⟨fr_mono (fun t i k y => by unfold fp_t; omega) g3, fun y s hs => by rw [g3.2.2.2 1 s (by omega)]; exact y s hs⟩
    have f3 : sk_f dep v v3 := sk_f_trans f2 ⟨fr_mono (fun t i k y => by unfold fp_e; omega) g3, fun j hj => by rw [← hx3, pA_sA, if_pos ⟨rfl, rfl⟩, pw_upd, if_neg (by omega)]⟩
    have e3 : pa_A v3 23 0 dep = nI (10 * a + b) := by rw [← hx3, pA_sA, if_pos ⟨rfl, rfl⟩, pw_upd, if_pos rfl]
    have hdv : (R * L.length + p) / L.length = R := by rw [Nat.mul_comm, Nat.mul_add_div (by omega), Nat.div_eq_of_lt hp, Nat.add_zero]
    have hmd : (R * L.length + p) % L.length = p := by rw [Nat.mul_comm, Nat.mul_add_mod, Nat.mod_eq_of_lt hp]
    have ew : sk_w e w L (dep + 1) (R * L.length + p) = wo_hw e (sk_w e w L dep R) a b := by
      show wo_hw e (sk_w e w L dep ((R * L.length + p) / L.length)) (sk_g L ((R * L.length + p) % L.length)).1 (sk_g L ((R * L.length + p) % L.length)).2 = _
      rw [hdv, hmd, hg]
    have c3 : wo_C v3 (2 + (dep + 1)) (sk_w e w L (dep + 1) (R * L.length + p)) := by
      rw [ew]
      exact wo_C_fr (fun t k _ _ => by omega) (by omega) g3 hv2
    have blk : ∀ c, (R * L.length + p) * L.length ^ j + L.length ^ j + c = (R * L.length + (p + 1)) * L.length ^ j + c := fun c => by rw [← Nat.add_assoc (R * L.length) p 1, Nat.succ_mul]
    have hT := hrec (R * L.length + p) v3
    rw [hL] at hT
    refine hT _ (Or.inr (by omega)) q3 c3 (fun hn x qx fx => ?_) (fun r hr x qx fx hsx => ?_)
    · rw [if_pos rfl]
      have fx' := sk_f_trans f3 (sk_f_up fx)
      have hn2 := sk_s_n (b := k * L.length ^ j) hn
      rw [show L.length ^ j + k * L.length ^ j = (k + 1) * L.length ^ j by rw [Nat.succ_mul, Nat.add_comm]] at hn2
      have b0 := blk 0
      rw [Nat.add_zero, Nat.add_zero] at b0
      rw [b0] at hn2
      rw [hn2] at hk0 hk1
      have rr := sl_soI (M := M) (k54 := k54) (po := po) (R := R) hu hm hj hrec ha k f (b + 1) (p + 1) x (by omega) (by omega) (by omega)
      rw [hL] at rr
      refine rr hd2 qx (wo_C_e fx' hc) hf he (fun hnn y qy fy => hk0 hnn y qy (sk_f_trans fx' fy)) (fun r hr y qy fy hsy => hk1 r hr y qy (sk_f_trans fx' fy) hsy)
    · rw [if_neg (by decide)]
      have hn2 := sk_s_s (b := k * L.length ^ j) hr
      rw [show L.length ^ j + k * L.length ^ j = (k + 1) * L.length ^ j by rw [Nat.succ_mul, Nat.add_comm]] at hn2
      have hin := sk_s_in _ _ _ hr
      have hdr : r / L.length ^ j = R * L.length + p := Nat.div_eq_of_lt_le hin.1 (by rw [Nat.succ_mul]; exact hin.2)
      refine hk1 r hn2 x qx (sk_f_trans f3 (sk_f_up fx)) (fun i hi him => ?_)
      by_cases q : i = dep
      · subst q
        rw [fx.2 i (by omega), e3, show m - 1 - i = j by omega, hdr, hmd]
        unfold sk_c
        rw [hg]
      · exact hsx i (by omega) him
theorem sl_soO {u : pa_S} {z m dep j R : Nat} {rec : pa_S → Int32 → Int32 → (Int32 → pa_S → Prop) → Prop} {po : Int32 → pa_S → Prop}
    (hu : iv_at u w e N) (hm : m ≤ 3) (hj : dep + (j + 1) = m) (hrec : sk_T e w N u z m (dep + 1) j rec) :
    ∀ (k f a p : Nat) (v : pa_S), a + k = wo_n w → k < f → (pr_l (wo_n w)).drop p = pr_o (wo_n w) k a → qc_r N u v → wo_C v (2 + dep) (sk_w e w (pr_l (wo_n w)) dep R) → wo_WF (sk_w e w (pr_l (wo_n w)) dep R) → wo_eq w (sk_w e w (pr_l (wo_n w)) dep R) →
      (sk_s (sk_q e w (pr_l (wo_n w)) u z m) ((R * (pr_l (wo_n w)).length + p) * (pr_l (wo_n w)).length ^ j) ((pr_o (wo_n w) k a).length * (pr_l (wo_n w)).length ^ j) = none → ∀ x, qc_r N u x → sk_f dep v x → po 0 x) →
      (∀ r, sk_s (sk_q e w (pr_l (wo_n w)) u z m) ((R * (pr_l (wo_n w)).length + p) * (pr_l (wo_n w)).length ^ j) ((pr_o (wo_n w) k a).length * (pr_l (wo_n w)).length ^ j) = some r → ∀ x, qc_r N u x → sk_f dep v x →
        (∀ i, dep ≤ i → i < m → pa_A x 23 0 i = sk_c (pr_l (wo_n w)) (r / (pr_l (wo_n w)).length ^ (m - 1 - i) % (pr_l (wo_n w)).length)) → po 1 x) →
      wl_X6_isSoAfter_54 rec po f v (2 + (dep + 1)) (nI dep) (nI m) (nI a)
  | 0, f + 1, a, p, v, eq, _, hd, qv, hc, hf, he, hk0, hk1 => by
    have h5 := (iv_F hu).1
    have hv := iv_at_qc hu qv
    unfold wl_X6_isSoAfter_54 wb_X6_isSoAfter_54
    rw [(iv_C hv).1, if_pos (nI_le (by omega) (by omega))]
    exact hk0 (by unfold pr_o; rw [List.length_nil, Nat.zero_mul]; rfl) v qv sk_f_refl
  | k + 1, f + 1, a, p, v, eq, hlt, hd, qv, hc, hf, he, hk0, hk1 => by
    have h5 := (iv_F hu).1
    have hv := iv_at_qc hu qv
    unfold wl_X6_isSoAfter_54 wb_X6_isSoAfter_54
    rw [(iv_C hv).1, if_neg (nI_ge (by omega) (by omega))]
    simp only [forall_eq, pw_n1, nI_add]
    unfold pr_o at hd hk0 hk1
    rw [List.length_append, pr_i_len, Nat.add_mul (wo_n w - (a + 1))] at hk0 hk1
    refine sl_soI (M := pr_o (wo_n w) k (a + 1)) hu hm hj hrec (show a < wo_n w by omega) (wo_n w - (a + 1)) 5000 (a + 1) p v (by omega) (by omega) (by omega) hd qv hc hf he (fun hn x qx fx => ?_) (fun r hr x qx fx hsx => ?_)
    · have hn2 := sk_s_n (b := (pr_o (wo_n w) k (a + 1)).length * (pr_l (wo_n w)).length ^ j) hn
      have hd3 : (pr_l (wo_n w)).drop (p + (wo_n w - (a + 1))) = pr_o (wo_n w) k (a + 1) := by
        rw [← List.drop_drop, hd]
        exact List.drop_left' (pr_i_len _ _)
      have b0 : (R * (pr_l (wo_n w)).length + p) * (pr_l (wo_n w)).length ^ j + (wo_n w - (a + 1)) * (pr_l (wo_n w)).length ^ j = (R * (pr_l (wo_n w)).length + (p + (wo_n w - (a + 1)))) * (pr_l (wo_n w)).length ^ j := by
        rw [← Nat.add_mul, Nat.add_assoc]
      rw [b0] at hn2
      rw [hn2] at hk0 hk1
      exact sl_soO hu hm hj hrec k f (a + 1) _ x (by omega) (by omega) hd3 qx (wo_C_e fx hc) hf he (fun hnn y qy fy => hk0 hnn y qy (sk_f_trans fx fy)) (fun r hr y qy fy hsy => hk1 r hr y qy (sk_f_trans fx fy) hsy)
    · exact hk1 r (sk_s_s hr) x qx fx hsx
theorem sl_so {u : pa_S} {z m : Nat} (hu : iv_at u w e N) (hs : bk_z u z (wo_n w)) (hm : m ≤ 3) : ∀ (j dep g : Nat), dep + j = m → j < g → sk_T e w N u z m dep j (fun u x1 x2 po => wg_2 g 0 u x1 x2 po)
  | 0, dep, g + 1, eq, _ => by
    intro R v po h0 qv hc hk0 hk1
    obtain rfl : dep = m := by omega
    have h5 := (iv_F hu).1
    have hfe : wo_WF (sk_w e w (pr_l (wo_n w)) dep R) ∧ wo_eq w (sk_w e w (pr_l (wo_n w)) dep R) := by
      rcases h0 with h0 | h0
      · subst h0; exact ⟨iv_F hu, ⟨rfl, rfl, rfl, rfl, rfl⟩⟩
      · exact sk_ok (iv_F hu) (iv_EW hu) (iv_B hu) pr_in h0 dep R
    show wg_2 (g + 1) 0 v (nI dep) (nI dep) po
    rw [wge_2_0]
    unfold wb_X6_isSoAfter_0
    rw [if_neg (nI_pos (by omega)), if_pos (show nI dep ≤ 3 from nI_le (b := 3) (by omega) (by omega)), if_pos (nI_le (Nat.le_refl _) (by omega))]
    unfold wb_X6_isSoAfter_21
    rw [pw_and (vp_in_nI (by omega) (by omega)), nI_clamp (by omega), sp_first hfe.1 hc hfe.2.1 (bk_qc qv hs), lk_qc qv]
    have e1 : sk_s (sk_q e w (pr_l (wo_n w)) u z dep) (R * (pr_l (wo_n w)).length ^ 0) ((pr_l (wo_n w)).length ^ 0) = if wo_lk (sk_w e w (pr_l (wo_n w)) dep R) u z 0 = -5 then some R else none := by
      rw [Nat.pow_zero, Nat.mul_one]
      unfold sk_s sk_s sk_q
      rfl
    rw [e1] at hk0 hk1
    by_cases q : wo_lk (sk_w e w (pr_l (wo_n w)) dep R) u z 0 = -5
    · rw [if_pos q]
      rw [if_pos q] at hk1
      exact hk1 R rfl v qv sk_f_refl (fun i hi hi2 => absurd hi (by omega))
    · rw [if_neg q]
      rw [if_neg q] at hk0
      exact hk0 rfl v qv sk_f_refl
  | j + 1, dep, g + 1, eq, hg => by
    intro R v po h0 qv hc hk0 hk1
    have h5 := (iv_F hu).1
    have hfe : wo_WF (sk_w e w (pr_l (wo_n w)) dep R) ∧ wo_eq w (sk_w e w (pr_l (wo_n w)) dep R) := by
      rcases h0 with h0 | h0
      · subst h0; exact ⟨iv_F hu, ⟨rfl, rfl, rfl, rfl, rfl⟩⟩
      · exact sk_ok (iv_F hu) (iv_EW hu) (iv_B hu) pr_in h0 dep R
    show wg_2 (g + 1) 0 v (nI dep) (nI m) po
    rw [wge_2_0]
    unfold wb_X6_isSoAfter_0
    rw [if_neg (nI_pos (by omega)), if_pos (show nI dep ≤ 3 from nI_le (b := 3) (by omega) (by omega)), if_neg (nI_ge (by omega) (by omega)), if_neg (show ¬ nI dep = 3 from fun y => by
      have := (nI_eq (b := 3) (by omega) (by omega)).mp y
      omega), pw_n1, nI_add, pw_and (vp_in_nI (by omega) (by omega)), nI_clamp (by omega), pw_n0]
    have pe : R * (pr_l (wo_n w)).length ^ (j + 1) = (R * (pr_l (wo_n w)).length + 0) * (pr_l (wo_n w)).length ^ j := by
      show R * (pr_l (wo_n w)).length ^ (j + 1) = (R * (pr_l (wo_n w)).length) * (pr_l (wo_n w)).length ^ j
      rw [Nat.pow_succ, Nat.mul_assoc, Nat.mul_comm ((pr_l (wo_n w)).length ^ j)]
    have pe2 : (pr_l (wo_n w)).length ^ (j + 1) = (pr_o (wo_n w) (wo_n w) 0).length * (pr_l (wo_n w)).length ^ j := by
      rw [Nat.pow_succ, Nat.mul_comm]; rfl
    rw [pe, pe2] at hk0 hk1
    exact sl_soO hu hm eq (sl_so hu hs hm j (dep + 1) g (by omega) (by omega)) (wo_n w) 5000 0 0 v (by omega) (by omega) rfl qv hc hfe.1 hfe.2 hk0 hk1
theorem sl_shaken {u : pa_S} {z : Nat} {x1 : Int32} {po : Int32 → pa_S → Prop} (hu : iv_at u w e N) (hs : bk_z u z (wo_n w)) (hx : x1 = -1 ∨ ∃ n, n ≤ 2 ∧ x1 = nI n) :
    ∀ (k f m : Nat) (v : pa_S), m + k = 4 → k < f → qc_r N u v → wo_C v 2 w →
      (∀ x, qc_r N u x → po (sk_r (pr_l (wo_n w)) x1 (sk_a (fun m => sk_s (sk_q e w (pr_l (wo_n w)) u z m) 0 ((pr_l (wo_n w)).length ^ m)) k m)) x) →
      wl_X6_shaken_26 po f v x1 (nI m)
  | 0, f + 1, m, v, eq, _, qv, hc, hk => by
    obtain rfl : m = 4 := by omega
    unfold wl_X6_shaken_26 wb_X6_shaken_26
    rw [if_pos (by decide)]
    exact hk v qv
  | k + 1, f + 1, m, v, eq, hlt, qv, hc, hk => by
    unfold wl_X6_shaken_26 wb_X6_shaken_26
    rw [if_neg (show ¬ (3 : Int32) < nI m from nI_nlt (a := 3) (by omega) (by omega))]
    have hT := sl_so hu hs (show m ≤ 3 by omega) m 0 8 (by omega) (by omega) 0 v
    unfold wp_X6_isSoAfter
    rw [Nat.zero_mul] at hT
    refine hT _ (Or.inl rfl) qv hc (fun hn x qx fx => ?_) (fun r hr x qx fx hsx => ?_)
    · rw [if_pos rfl]
      simp only [forall_eq, pw_n1, nI_add]
      rw [sk_a_n (S := fun m => sk_s (sk_q e w (pr_l (wo_n w)) u z m) 0 ((pr_l (wo_n w)).length ^ m)) hn] at hk
      exact sl_shaken hu hs hx k f (m + 1) x (by omega) (by omega) qx (wo_C_e (dep := 0) fx hc) hk
    · rw [if_neg (by decide)]
      have h0 := hk x qx
      rw [sk_a_s (S := fun m => sk_s (sk_q e w (pr_l (wo_n w)) u z m) 0 ((pr_l (wo_n w)).length ^ m)) hr] at h0
      rcases hx with rfl | ⟨n, hn, rfl⟩
      · rw [sk_r_1] at h0; rw [if_neg (by decide)]; exact h0
      · rw [if_pos (nI_pos' (by omega))]
        by_cases q : m ≤ n
        · rw [sk_r_2 q hn] at h0; rw [if_pos (nI_le q (by omega))]; exact h0
        · rw [sk_r_3 (by omega) (by omega)] at h0
          rw [if_neg (show ¬ nI m ≤ nI n from nI_ge (by omega) (by omega)), nI_clamp (by omega)]
          refine ⟨vp_in_nI (by omega) (by omega), ?_⟩
          rw [hsx n (by omega) (by omega)]
          exact h0
/-! the reference's -/
theorem ml_pairOf {v : pa_S} {P r m k : Nat} {po : Int32 → Prop} (hP : 0 < P) (hP2 : P ≤ 10) (hm : m ≤ 3) (hr : r ≤ 1000) (h1 : pa_I v 24 0 35 = nI P) :
    ∀ (j f i : Nat), i + j = m → k + 1 ≤ i → j < f → wl_X7_pairOf_8 po v f (nI r) (nI m) (nI (P ^ (i - (k + 1)))) (nI i) = po (nI (r / P ^ (m - 1 - k) % P))
  | 0, f + 1, i, eq, hi, _ => by
    have p0 : 0 < P ^ (i - (k + 1)) := Nat.pow_pos hP
    have p1 := pw_powle hP2 (i - (k + 1)) (by omega)
    have d1 : r / P ^ (i - (k + 1)) ≤ r := Nat.div_le_self _ _
    unfold wl_X7_pairOf_8 wb_X7_pairOf_8
    rw [if_pos (nI_le (by omega) (by omega)), h1, pw_and (nI_ne0 p0 (by omega)), pw_and (nI_ne0 hP (by omega)), pk_div (by omega) p0 (by omega), pw_rem (by omega) hP (by omega), show i - (k + 1) = m - 1 - k by omega]
  | j + 1, f + 1, i, eq, hi, hlt => by
    unfold wl_X7_pairOf_8 wb_X7_pairOf_8
    rw [if_neg (nI_ge (by omega) (by omega)), h1, pk_mul, ← Nat.pow_succ, show (i - (k + 1)).succ = i + 1 - (k + 1) by omega]
    simp only [forall_eq, pw_n1, nI_add]
    exact ml_pairOf hP hP2 hm hr h1 j f (i + 1) (by omega) (by omega) (by omega)
theorem mp_pairOf {v : pa_S} {P r m k : Nat} {po : Int32 → Prop} (hP : 0 < P) (hP2 : P ≤ 10) (hm : m ≤ 3) (hr : r ≤ 1000) (h1 : pa_I v 24 0 35 = nI P) (hk : k < m) :
    wp_X7_pairOf v (nI r) (nI m) (nI k) po = po (nI (r / P ^ (m - 1 - k) % P)) := by
  unfold wp_X7_pairOf wb_X7_pairOf_0
  simp only [forall_eq, pw_n1, nI_add]
  have := ml_pairOf (k := k) (po := po) hP hP2 hm hr h1 (m - (k + 1)) 5000 (k + 1) (by omega) (by omega) (by omega)
  rw [Nat.sub_self, Nat.pow_zero] at this
  exact this
theorem pr_Mg {v : pa_S} {L : List (Nat × Nat)} {q : Nat} (h : pr_M v L) (hq : q < L.length) : pa_A v 44 0 q = nI (sk_g L q).1 ∧ pa_A v 45 0 q = nI (sk_g L q).2 := by
  refine h.2 q (sk_g L q) ?_
  unfold sk_g
  rw [List.getD_eq_getElem?_getD, List.getElem?_eq_getElem hq]
  rfl
theorem ml_book {u : pa_S} {z m r : Nat} {po : Int32 → pa_S → Prop} (hu : iv_at u w e N) (hs : bk_z u z (wo_n w)) (hm : m ≤ 3) (hr : r ≤ 1000) (hM : pr_M u (pr_l (wo_n w))) (h0 : m = 0 ∨ 0 < (pr_l (wo_n w)).length)
    (hk : ∀ x, iv_at x w e N → fr_of fp_h u x → po (if sk_q e w (pr_l (wo_n w)) u z m r = -5 then 1 else 0) x) :
    ∀ (j f k : Nat) (v : pa_S), k + j = m → j < f → fr_of fp_h u v → wo_K v w → wo_M v (sk_w e w (pr_l (wo_n w)) k (r / (pr_l (wo_n w)).length ^ (m - k))) → wl_X7_isBookBy_6 po f v (nI r) (nI m) (nI k)
  | 0, f + 1, k, v, eq, _, gv, hK, hv => by
    obtain rfl : k = m := by omega
    have h5 := (iv_F hu).1
    have hfe : wo_WF (sk_w e w (pr_l (wo_n w)) k r) ∧ wo_eq w (sk_w e w (pr_l (wo_n w)) k r) := by
      rcases h0 with h0 | h0
      · subst h0; exact ⟨iv_F hu, ⟨rfl, rfl, rfl, rfl, rfl⟩⟩
      · exact sk_ok (iv_F hu) (iv_EW hu) (iv_B hu) pr_in h0 k r
    rw [Nat.sub_self, Nat.pow_zero, Nat.div_one] at hv
    have gM := fr_mono (fun _ _ _ z => fp_hM z) gv
    unfold wl_X7_isBookBy_6 wb_X7_isBookBy_6
    rw [if_pos (nI_le (Nat.le_refl _) (by omega)), mp_looked hfe.1 hv hfe.2.1 (bk_M0 gM hs), lk_M0 gM]
    have fin : ∀ y : Int32, y &&& 1 = y → (∀ x, iv_at x w e N → fr_of fp_h u x → po y x) → wb_X7_isBookBy_60 v y po := fun y hy hpy => by
      unfold wb_X7_isBookBy_60
      refine mp_putBack (iv_F hu) hv hfe.2 hK (fun x hx _ hgx => ⟨hy, ?_⟩)
      have g2 := fr_trans gv (fr_mono (fun _ _ _ z => fp_wh z) hgx)
      exact hpy x (iv_at_m hu (fr_mono (fun _ _ _ z => fp_hM z) g2) hx) g2
    unfold sk_q at hk
    by_cases q : wo_lk (sk_w e w (pr_l (wo_n w)) k r) u z 0 = -5
    · rw [if_pos q] at hk ⊢
      exact fin 1 (by decide) hk
    · rw [if_neg q] at hk ⊢
      exact fin 0 (by decide) hk
  | j + 1, f + 1, k, v, eq, hlt, gv, hK, hv => by
    have h5 := (iv_F hu).1
    have hP : 0 < (pr_l (wo_n w)).length := by
      rcases h0 with h0 | h0
      · omega
      · exact h0
    have hP2 := pr_len _ h5
    have hfe := sk_ok (iv_F hu) (iv_EW hu) (iv_B hu) pr_in hP k (r / (pr_l (wo_n w)).length ^ (m - k))
    have gM := fr_mono (fun _ _ _ z => fp_hM z) gv
    have hM' := pr_M_h gv hM
    have hq := Nat.mod_lt (r / (pr_l (wo_n w)).length ^ (m - 1 - k)) hP
    have hpg := pr_Mg hM' hq
    have hpi := pr_in _ (sk_gm hq)
    unfold wl_X7_isBookBy_6 wb_X7_isBookBy_6
    rw [if_neg (nI_ge (by omega) (by omega)), mp_pairOf hP hP2 hm hr hM'.1 (by omega), pw_and (vp_in_nI (by omega) (by omega)), mp_pairOf hP hP2 hm hr hM'.1 (by omega), pw_and (vp_in_nI (by omega) (by omega)), nI_clamp (by omega), hpg.1, hpg.2]
    refine mp_prints hfe.1 hv (en_M_M0 gM (iv_EM hu)) (iv_EW hu) (by rw [hfe.2.2.2.2.2]; exact iv_B hu) (by rw [hfe.2.1]; omega) (by rw [hfe.2.1]; exact hpi.2) (by omega) (fun v2 hv2 hg2 => ?_)
    simp only [forall_eq, pw_n1, nI_add]
    refine ml_book hu hs hm hr hM h0 hk j f (k + 1) v2 (by omega) (by omega) (fr_trans gv (fr_mono (fun _ _ _ z => fp_wh z) hg2)) (wo_K_frw hg2 hK) ?_
    have e1 : sk_w e w (pr_l (wo_n w)) (k + 1) (r / (pr_l (wo_n w)).length ^ (m - (k + 1))) = wo_hw e (sk_w e w (pr_l (wo_n w)) k (r / (pr_l (wo_n w)).length ^ (m - k))) (sk_g (pr_l (wo_n w)) (r / (pr_l (wo_n w)).length ^ (m - 1 - k) % (pr_l (wo_n w)).length)).1 (sk_g (pr_l (wo_n w)) (r / (pr_l (wo_n w)).length ^ (m - 1 - k) % (pr_l (wo_n w)).length)).2 := by
      show wo_hw e (sk_w e w (pr_l (wo_n w)) k (r / (pr_l (wo_n w)).length ^ (m - (k + 1)) / (pr_l (wo_n w)).length)) _ _ = _
      rw [Nat.div_div_eq_div_mul, ← Nat.pow_succ, show (m - (k + 1)).succ = m - k by omega, show m - (k + 1) = m - 1 - k by omega]
    rw [e1]
    exact hv2
theorem mp_book {u : pa_S} {z m r : Nat} {po : Int32 → pa_S → Prop} (hu : iv_at u w e N) (hs : bk_z u z (wo_n w)) (hm : m ≤ 3) (hr : r < (pr_l (wo_n w)).length ^ m) (hM : pr_M u (pr_l (wo_n w)))
    (hk : ∀ x, iv_at x w e N → fr_of fp_h u x → po (if sk_q e w (pr_l (wo_n w)) u z m r = -5 then 1 else 0) x) : wp_X7_isBookBy u (nI r) (nI m) po := by
  have h5 := (iv_F hu).1
  have r1 := pw_powle (pr_len _ h5) m hm
  have h0 : m = 0 ∨ 0 < (pr_l (wo_n w)).length := by
    rcases Nat.eq_zero_or_pos m with q | q
    · exact Or.inl q
    · rcases Nat.eq_zero_or_pos (pr_l (wo_n w)).length with q2 | q2
      · rw [q2, Nat.zero_pow q] at hr; omega
      · exact Or.inr q2
  unfold wp_X7_isBookBy wb_X7_isBookBy_0
  refine mp_save (iv_F hu) (iv_M hu) (fun v1 hv1 hK hg1 => ?_)
  rw [pw_n0]
  exact ml_book hu hs hm (by omega) hM h0 hk m 5000 0 v1 (by omega) (by omega) (fr_mono (fun _ _ _ z => fp_kh z) hg1) hK hv1
theorem ml_shakenI {u : pa_S} {z m : Nat} {x1 : Int32} {k20 : pa_S → Int32 → Int32 → Int32 → Prop} {po : Int32 → pa_S → Prop} (hu : iv_at u w e N) (hs : bk_z u z (wo_n w)) (hM : pr_M u (pr_l (wo_n w))) (hm : m ≤ 3) (hx : x1 = -1 ∨ ∃ n, n ≤ 2 ∧ x1 = nI n) :
    ∀ (c f s : Nat) (v : pa_S), s + c = (pr_l (wo_n w)).length ^ m → c < f → iv_at v w e N → fr_of fp_h u v →
      (sk_s (sk_q e w (pr_l (wo_n w)) u z m) s c = none → ∀ x, iv_at x w e N → fr_of fp_h u x → k20 x x1 (nI ((pr_l (wo_n w)).length ^ (m + 1))) (nI (m + 1))) →
      (∀ r, sk_s (sk_q e w (pr_l (wo_n w)) u z m) s c = some r → ∀ x, iv_at x w e N → po (sk_r (pr_l (wo_n w)) x1 (some (m, r))) x) →
      wl_X7_shaken_28 k20 po f v x1 (nI ((pr_l (wo_n w)).length ^ m)) (nI m) (nI s)
  | 0, f + 1, s, v, eq, _, hv, gv, hk0, hk1 => by
    have h5 := (iv_F hu).1
    have r1 := pw_powle (pr_len _ h5) m hm
    unfold wl_X7_shaken_28 wb_X7_shaken_28
    rw [if_pos (nI_le (by omega) (by omega)), (pr_M_h gv hM).1, pk_mul, ← Nat.pow_succ]
    simp only [forall_eq, pw_n1, nI_add]
    exact hk0 rfl v hv gv
  | c + 1, f + 1, s, v, eq, hlt, hv, gv, hk0, hk1 => by
    have h5 := (iv_F hu).1
    have r1 := pw_powle (pr_len _ h5) m hm
    have gM := fr_mono (fun _ _ _ z => fp_hM z) gv
    unfold wl_X7_shaken_28 wb_X7_shaken_28
    rw [if_neg (nI_ge (by omega) (by omega))]
    refine mp_book hv (bk_M0 gM hs) hm (by omega) (pr_M_h gv hM) (fun x hxx gx => ?_)
    have gx2 := fr_trans gv gx
    have eq1 : sk_q e w (pr_l (wo_n w)) v z m s = sk_q e w (pr_l (wo_n w)) u z m s := lk_M0 gM z 0
    rw [eq1]
    rw [sk_s_t] at hk0 hk1
    by_cases q : sk_q e w (pr_l (wo_n w)) u z m s = -5
    · rw [if_pos q, if_neg (by decide)]
      rw [if_pos q] at hk1
      have h0 := hk1 s rfl x hxx
      rcases hx with rfl | ⟨n, hn, rfl⟩
      · rw [sk_r_1] at h0; rw [if_neg (by decide)]; exact h0
      · rw [if_pos (nI_pos' (by omega))]
        by_cases q2 : m ≤ n
        · rw [sk_r_2 q2 hn] at h0; rw [if_pos (nI_le q2 (by omega))]; exact h0
        · rw [sk_r_3 (by omega) (by omega)] at h0
          rw [if_neg (show ¬ nI m ≤ nI n from nI_ge (by omega) (by omega))]
          have hP : 0 < (pr_l (wo_n w)).length := by
            rcases Nat.eq_zero_or_pos (pr_l (wo_n w)).length with q3 | q3
            · rw [q3, Nat.zero_pow (by omega)] at eq; omega
            · exact q3
          have hP2 := pr_len _ h5
          have hMx := pr_M_h gx2 hM
          have hq := Nat.mod_lt (s / (pr_l (wo_n w)).length ^ (m - 1 - n)) hP
          have hpg := pr_Mg hMx hq
          rw [mp_pairOf hP hP2 hm (by omega) hMx.1 (by omega), pw_and (vp_in_nI (by omega) (by omega)), mp_pairOf hP hP2 hm (by omega) hMx.1 (by omega), pw_and (vp_in_nI (by omega) (by omega)), nI_clamp (by omega), hpg.1, hpg.2, pw_n10, pk_mul, nI_add]
          exact h0
    · rw [if_neg q, if_pos rfl]
      rw [if_neg q] at hk0 hk1
      simp only [forall_eq, pw_n1, nI_add]
      exact ml_shakenI hu hs hM hm hx c f (s + 1) x (by omega) (by omega) hxx gx2 hk0 hk1
theorem ml_shaken {u : pa_S} {z : Nat} {x1 : Int32} {po : Int32 → pa_S → Prop} (hu : iv_at u w e N) (hs : bk_z u z (wo_n w)) (hM : pr_M u (pr_l (wo_n w))) (hx : x1 = -1 ∨ ∃ n, n ≤ 2 ∧ x1 = nI n) :
    ∀ (k f m : Nat) (v : pa_S), m + k = 4 → k < f → iv_at v w e N → fr_of fp_h u v →
      (∀ x, iv_at x w e N → po (sk_r (pr_l (wo_n w)) x1 (sk_a (fun m => sk_s (sk_q e w (pr_l (wo_n w)) u z m) 0 ((pr_l (wo_n w)).length ^ m)) k m)) x) →
      wl_X7_shaken_20 po f v x1 (nI ((pr_l (wo_n w)).length ^ m)) (nI m)
  | 0, f + 1, m, v, eq, _, hv, gv, hk => by
    obtain rfl : m = 4 := by omega
    unfold wl_X7_shaken_20 wb_X7_shaken_20
    rw [if_pos (by decide)]
    exact hk v hv
  | k + 1, f + 1, m, v, eq, hlt, hv, gv, hk => by
    have r1 := pw_powle (pr_len _ (iv_F hu).1) m (by omega)
    unfold wl_X7_shaken_20 wb_X7_shaken_20
    rw [if_neg (show ¬ (4 : Int32) ≤ nI m from nI_ge (b := 4) (by omega) (by omega)), pw_n0]
    refine ml_shakenI hu hs hM (by omega) hx ((pr_l (wo_n w)).length ^ m) 5000 0 v (by omega) (by omega) hv gv (fun hn x hxx gx => ?_) (fun r hr x hxx => ?_)
    · rw [sk_a_n (S := fun m => sk_s (sk_q e w (pr_l (wo_n w)) u z m) 0 ((pr_l (wo_n w)).length ^ m)) hn] at hk
      exact ml_shaken hu hs hM hx k f (m + 1) x (by omega) (by omega) hxx gx hk
    · rw [sk_a_s (S := fun m => sk_s (sk_q e w (pr_l (wo_n w)) u z m) 0 ((pr_l (wo_n w)).length ^ m)) hr] at hk
      exact hk x hxx
end SHAKEN
theorem case_k18 {u : pa_S} {a1 a2 a3 a4 a5 : Int32} (hi : iv_I u) : pa_case iv_I u a1 a2 a3 a4 a5 18 := by
  have hi0 := hi
  obtain ⟨w, e, N, hw⟩ := hi
  have hf := iv_F hw
  obtain ⟨z, hs⟩ := hw.2.2.1.2.2
  have hs : bk_z u z (wo_n w) := hs
  show wp_X6_shaken u a1 _
  have X : ∀ (v : pa_S) po, wp_X7_shaken v a1 po = wb_X7_shaken_0 v a1 po := fun _ _ => rfl
  simp only [X]
  unfold wp_X6_shaken wb_X6_shaken_0 wb_X7_shaken_0
  have hx3 : ((∀ (u : pa_S) (po : Int32 → Prop), wp_X6_within u a1 (-1) 2 po = po 0 ∧ wp_X7_in u a1 (-1) 2 po = po 0)) ∨ ((a1 = -1 ∨ ∃ n, n ≤ 2 ∧ a1 = nI n) ∧ ∀ (u : pa_S) (po : Int32 → Prop), wp_X6_within u a1 (-1) 2 po = po 1 ∧ wp_X7_in u a1 (-1) 2 po = po 1) := by
    rcases rg_m1 a1 2 (by omega) with rfl | ⟨n, hn, rfl⟩ | h
    · exact Or.inr ⟨Or.inl rfl, fun u po => ⟨wim_m (hi := 2) rfl (by omega), inm_m (hi := 2) rfl (by omega)⟩⟩
    · exact Or.inr ⟨Or.inr ⟨n, hn, rfl⟩, fun u po => ⟨wim_1 (hi := 2) rfl hn (by omega), inm_1 (hi := 2) rfl hn (by omega)⟩⟩
    · exact Or.inl (fun u po => ⟨wim_0 (hi := 2) rfl h, inm_0 (hi := 2) rfl h⟩)
  rcases hx3 with q3 | ⟨hx, q3⟩
  · rw [(q3 _ _).1, if_pos rfl]; dsimp only
    rw [(q3 _ _).2, if_pos rfl]
    exact ⟨rfl, hi0⟩
  rw [(q3 _ _).1, if_neg (by decide)]
  refine qc_start hw (by omega) (fun v qv hv => ?_)
  rw [pw_n0]
  refine sl_shaken hw hs hx 4 5000 0 v (by omega) (by omega) qv hv (fun v1 q1 => ?_)
  have hw1 := iv_at_qc hw q1
  dsimp only
  rw [(q3 _ _).2, if_neg (by decide)]
  refine mp_layPairs hw1 (fun x hxx gx hM => ?_)
  have gxM := fr_mono (fun _ _ _ z => fp_pM z) gx
  have E : ∀ (po : Int32 → pa_S → Prop), wl_X7_shaken_20 po 5000 x a1 (nI ((pr_l (wo_n w)).length ^ 0)) (nI 0) → wl_X7_shaken_20 po 5000 x a1 1 0 := fun po q => by rw [Nat.pow_zero] at q; exact q
  refine E _ (ml_shaken (x1 := a1) hxx (bk_M0 gxM (bk_qc q1 hs)) hM hx 4 5000 0 x (by omega) (by omega) hxx (fr_refl x) (fun y hy => ⟨?_, iv_at_I hy⟩))
  rw [show (fun m => sk_s (sk_q e w (pr_l (wo_n w)) x z m) 0 ((pr_l (wo_n w)).length ^ m)) = (fun m => sk_s (sk_q e w (pr_l (wo_n w)) u z m) 0 ((pr_l (wo_n w)).length ^ m)) from funext (fun m => by
    rw [show sk_q e w (pr_l (wo_n w)) x z m = sk_q e w (pr_l (wo_n w)) u z m from funext (fun r => (lk_M0 gxM z 0).trans (lk_qc q1 z 0))])]
