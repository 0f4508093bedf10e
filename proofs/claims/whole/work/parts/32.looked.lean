/-! looked, ends -/
theorem sp_at {u : pa_S} {i r p : Nat} {po : Int32 → Prop} (hr : r < 10) (hp : p < 4) : wp_X2_at u i (nI r) (nI p) po = po (pa_A u 9 i (4 * r + p)) := by
  unfold wp_X2_at wb_X2_at_0
  rw [if_neg (nI_pos (by omega)), if_neg (show ¬ (10 : Int32) ≤ nI r from nI_ge (b := 10) (by omega) (by omega)), if_neg (nI_pos (by omega)), if_neg (show ¬ (4 : Int32) ≤ nI p from nI_ge (b := 4) (by omega) (by omega))]
  unfold wb_X2_at_24
  rw [if_neg (by decide), pw_n4, pk_mul, nI_add, pw_and (vp_in_nI (by omega) (by omega)), nI_clamp (by omega), show r * 4 + p = 4 * r + p by omega]
section LOOKED
variable {w : pw_W} {e : pw_E} {N : Nat}
/-- the first row of the book that is otherwise in w -/
def wo_lk (w : pw_W) (u : pa_S) : Nat → Nat → Int32
  | 0, _ => -5
  | k + 1, r => if nI (wo_l w (pa_A u 42 0 r).toNatClampNeg) = pa_A u 43 0 r then wo_lk w u k (r + 1) else nI r
theorem sl_first {u : pa_S} {s z n : Nat} {po : Int32 → Prop} (hf : wo_WF w) (hc : wo_C u s w) (hn : wo_n w = n) (hz : z ≤ 8) (h1 : pa_I u 8 2 1 = nI z)
    (hb : ∀ r, r < z → ∃ h l x, h < n ∧ l < 3 ∧ x ≤ 60 ∧ pa_A u 9 2 (4 * r) = nI h ∧ pa_A u 9 2 (4 * r + 1) = nI l ∧ pa_A u 9 2 (4 * r + 2) = nI x ∧ pa_A u 42 0 r = nI (3 * h + l) ∧ pa_A u 43 0 r = nI x) :
    ∀ (k f r : Nat), r + k = z → k < f → wl_X6_firstOtherwise_2 s po u f (nI r) = po (wo_lk w u k r)
  | 0, f + 1, r, eq, _ => by
    unfold wl_X6_firstOtherwise_2 wb_X6_firstOtherwise_2
    rw [h1, if_pos (nI_le (by omega) (by omega))]
    rfl
  | k + 1, f + 1, r, eq, hlt => by
    have h5 := hf.1
    obtain ⟨h, l, x, hh, hl, hx, e1, e2, e3, e4, e5⟩ := hb r (by omega)
    have lx := hf.2.2.1 (3 * h + l) (by omega)
    unfold wl_X6_firstOtherwise_2 wb_X6_firstOtherwise_2
    rw [h1, if_neg (nI_ge (by omega) (by omega)), pw_n0, sp_at (by omega) (by omega), pw_n1, sp_at (by omega) (by omega), Nat.add_zero, e1, e2, sp_lengthOf hf hc (by omega) hl, pw_n2, sp_at (by omega) (by omega), e3]
    unfold wo_lk
    rw [e4, e5, nI_clamp (by omega)]
    by_cases q : nI (wo_l w (3 * h + l)) = nI x
    · rw [if_pos q, if_pos q]
      simp only [forall_eq, nI_add]
      exact sl_first hf hc hn hz h1 hb k f (r + 1) (by omega) (by omega)
    · rw [if_neg q, if_neg q]
theorem ml_looked {u : pa_S} {z n : Nat} {po : Int32 → Prop} (hf : wo_WF w) (hm : wo_M u w) (hn : wo_n w = n) (hz : z ≤ 8) (h1 : pa_I u 24 0 30 = nI z)
    (hb : ∀ r, r < z → ∃ h l x, h < n ∧ l < 3 ∧ x ≤ 60 ∧ pa_A u 9 2 (4 * r) = nI h ∧ pa_A u 9 2 (4 * r + 1) = nI l ∧ pa_A u 9 2 (4 * r + 2) = nI x ∧ pa_A u 42 0 r = nI (3 * h + l) ∧ pa_A u 43 0 r = nI x) :
    ∀ (k f r : Nat), r + k = z → k < f → wl_X7_looked_2 po u f (nI r) = po (wo_lk w u k r)
  | 0, f + 1, r, eq, _ => by
    unfold wl_X7_looked_2 wb_X7_looked_2
    rw [h1, if_pos (nI_le (by omega) (by omega))]
    rfl
  | k + 1, f + 1, r, eq, hlt => by
    have h5 := hf.1
    obtain ⟨h, l, x, hh, hl, hx, e1, e2, e3, e4, e5⟩ := hb r (by omega)
    have lx := hf.2.2.1 (3 * h + l) (by omega)
    unfold wl_X7_looked_2 wb_X7_looked_2
    rw [h1, if_neg (nI_ge (by omega) (by omega)), pw_and (vp_in_nI (by omega) (by omega)), nI_clamp (by omega), e4, pw_and (vp_in_nI (by omega) (by omega)), pw_and (vp_in_nI (by omega) (by omega)), nI_clamp (by omega), hm.2.2.2.2.2.1 _ (show 3 * h + l < 3 * wo_n w by omega), e5]
    unfold wo_lk
    rw [e4, e5, nI_clamp (by omega)]
    by_cases q : nI (wo_l w (3 * h + l)) = nI x
    · rw [if_pos q, if_pos q]
      simp only [forall_eq, pw_n1, nI_add]
      exact ml_looked hf hm hn hz h1 hb k f (r + 1) (by omega) (by omega)
    · rw [if_neg q, if_neg q]
end LOOKED
theorem case_k17 {u : pa_S} {a1 a2 a3 a4 a5 : Int32} (hi : iv_I u) : pa_case iv_I u a1 a2 a3 a4 a5 17 := by
  have hi0 := hi
  obtain ⟨w, e, N, hw⟩ := hi
  obtain ⟨z, hz, z1, z2, hb⟩ := hw.2.2.1.2.2
  show wp_X6_looked u _
  unfold wp_X6_looked wb_X6_looked_0 wp_X6_firstOtherwise wb_X6_firstOtherwise_0 wp_X7_looked wb_X7_looked_0
  rw [pw_n0, sl_first (iv_F hw) (iv_C hw) rfl hz z1 hb z 5000 0 (by omega) (by omega)]
  dsimp only
  rw [ml_looked (iv_F hw) (iv_M hw) rfl hz z2 hb z 5000 0 (by omega) (by omega)]
  exact ⟨rfl, hi0⟩
/-! ends -/
section ENDS
variable {w : pw_W} {e : pw_E} {N : Nat}
/-- a row of the fair: a day, or a shake -/
def wo_fe (e : pw_E) (u : pa_S) (r : Nat) (x : pw_W) : pw_W := if pa_A u 49 0 r = nI 5 then wo_go x 1 else wo_hw e x (pa_A u 49 0 r).toNatClampNeg (pa_A u 50 0 r).toNatClampNeg
def wo_fs (e : pw_E) (w : pw_W) (u : pa_S) : Nat → pw_W
  | 0 => w
  | r + 1 => wo_fe e u r (wo_fs e w u r)
theorem wo_eq_trans {a b c : pw_W} (h1 : wo_eq a b) (h2 : wo_eq b c) : wo_eq a c := ⟨h2.1.trans h1.1, h2.2.1.trans h1.2.1, h2.2.2.1.trans h1.2.2.1, h2.2.2.2.1.trans h1.2.2.2.1, h2.2.2.2.2.trans h1.2.2.2.2⟩
theorem wo_fs_ok {u : pa_S} {z : Nat} (hf : wo_WF w) (hd : wo_d w ≤ 9999) (hw : en_WF e N) (hb : wo_b w < N) (hz : z ≤ 10)
    (hr : ∀ r, r < z → (pa_A u 9 1 (4 * r) = nI 5 ∧ pa_A u 49 0 r = nI 5) ∨ ∃ h l, h < wo_n w ∧ l < wo_n w ∧ h ≠ l ∧ pa_A u 9 1 (4 * r) = nI h ∧ pa_A u 9 1 (4 * r + 1) = nI l ∧ pa_A u 49 0 r = nI h ∧ pa_A u 50 0 r = nI l) :
    ∀ r, r ≤ z → wo_WF (wo_fs e w u r) ∧ wo_eq w (wo_fs e w u r) ∧ wo_d (wo_fs e w u r) ≤ 9999 + r
  | 0, _ => ⟨hf, ⟨rfl, rfl, rfl, rfl, rfl⟩, hd⟩
  | r + 1, h => by
    obtain ⟨a, b, c⟩ := wo_fs_ok hf hd hw hb hz hr r (by omega)
    have h5 := hf.1
    unfold wo_fs wo_fe
    rcases hr r (by omega) with ⟨_, q⟩ | ⟨x, l, hx, hl, hxl, _, _, q, q2⟩
    · rw [if_pos q]
      exact ⟨wo_WF_go a (by omega), wo_eq_trans b wo_eq_set, by show wo_d (wo_fs e w u r) + 1 ≤ _; omega⟩
    · rw [if_neg (by rw [q]; exact fun z => by have := (nI_eq (b := 5) (by omega) (by omega)).mp z; omega), q, q2, nI_clamp (by omega), nI_clamp (by omega)]
      refine ⟨wo_WF_hw a hw (by rw [b.2.2.2.2]; exact hb) (by rw [b.1]; exact hx) (by rw [b.1]; exact hl), wo_eq_trans b wo_hw_eq, ?_⟩
      have : wo_d (wo_hw e (wo_fs e w u r) x l) = wo_d (wo_fs e w u r) := by unfold wo_hw; split <;> rfl
      omega
/-- the fair, row by row -/
theorem sl_ends {u : pa_S} {z : Nat} {x1 : Int32} {po : Int32 → pa_S → Prop} (hu : iv_at u w e N) (hz : z ≤ 10) (h1 : pa_I u 8 1 1 = nI z)
    (hr : ∀ r, r < z → (pa_A u 9 1 (4 * r) = nI 5 ∧ pa_A u 49 0 r = nI 5) ∨ ∃ h l, h < wo_n w ∧ l < wo_n w ∧ h ≠ l ∧ pa_A u 9 1 (4 * r) = nI h ∧ pa_A u 9 1 (4 * r + 1) = nI l ∧ pa_A u 49 0 r = nI h ∧ pa_A u 50 0 r = nI l)
    (hk : ∀ v, iv_at v w e N → fr_of fp_t u v → po (if x1 = 0 then nI (wo_fa e (wo_fs e w u z) (wo_n w)) else nI (wo_la (wo_fs e w u z) (3 * wo_n w))) v) :
    ∀ (k f r : Nat) (v : pa_S), r + k = z → k < f → qc_r N u v → wo_C v 2 (wo_fs e w u r) → wl_X6_ends_28 po f v x1 (nI r)
  | 0, f + 1, r, v, eq, _, qv, hc => by
    obtain rfl : r = z := by omega
    have hv := iv_at_qc hu qv
    have ok := wo_fs_ok (u := u) (iv_F hu) hu.1.2.1 (iv_EW hu) (iv_B hu) hz hr r (Nat.le_refl _)
    unfold wl_X6_ends_28 wb_X6_ends_28
    rw [qv.1.1 8 1 1 (by unfold fp_t; omega), h1, if_pos (nI_le (by omega) (by omega))]
    by_cases y : x1 = 0
    · rw [if_pos y]
      rw [if_pos y] at hk
      refine sp_fortuneOfAll ok.1 hc (iv_EC hv) (iv_EW hu) (by rw [ok.2.1.2.2.2.2]; exact iv_B hu) (fun v2 hv2 => ?_)
      rw [ok.2.1.1]
      have q2 := qc_trans qv (qc_v (N := N) hv2)
      exact hk v2 (iv_at_qc hu q2) q2.1
    · rw [if_neg y]
      rw [if_neg y] at hk
      rw [sp_lengthOfAll ok.1 hc, ok.2.1.1]
      exact hk v hv qv.1
  | k + 1, f + 1, r, v, eq, hlt, qv, hc => by
    have h5 := (iv_F hu).1
    have hv := iv_at_qc hu qv
    obtain ⟨ok1, ok2, ok3⟩ := wo_fs_ok (u := u) (iv_F hu) hu.1.2.1 (iv_EW hu) (iv_B hu) hz hr r (by omega)
    unfold wl_X6_ends_28 wb_X6_ends_28
    rw [qv.1.1 8 1 1 (by unfold fp_t; omega), h1, if_neg (nI_ge (by omega) (by omega)), pw_n0, sp_at (by omega) (by omega), pw_n1, Nat.add_zero, qv.1.2.1 9 1 (by unfold fp_t; omega)]
    rcases hr r (by omega) with ⟨q, q'⟩ | ⟨x, l, hx, hl, hxl, c1, c2, q, q2⟩
    · rw [if_pos (show pa_A u 9 1 (4 * r) = 5 from q)]
      refine sp_goDays (n := 1) ok1 (by omega) hc (fun v2 hv2 hg2 => ?_)
      unfold wb_X6_ends_83
      simp only [forall_eq, pw_n1, nI_add]
      refine sl_ends hu hz h1 hr hk k f (r + 1) v2 (by omega) (by omega) (qc_trans qv (qc_d (by omega) hg2)) ?_
      unfold wo_fs wo_fe
      rw [if_pos q']
      exact hv2
    · rw [if_neg (show ¬ pa_A u 9 1 (4 * r) = 5 by rw [c1]; exact fun z => by have := (nI_eq (b := 5) (by omega) (by omega)).mp z; omega), sp_at (by omega) (by omega), sp_at (by omega) (by omega), Nat.add_zero, qv.1.2.1 9 1 (by unfold fp_t; omega), c1, c2]
      refine sp_shakeHands ok1 hc (iv_EC hv) (iv_EW hu) (by rw [ok2.2.2.2.2]; exact iv_B hu) (by rw [ok2.1]; exact hx) (by rw [ok2.1]; exact hl) hxl (fun v2 hv2 hg2 _ => ?_)
      unfold wb_X6_ends_83
      simp only [forall_eq, pw_n1, nI_add]
      refine sl_ends hu hz h1 hr hk k f (r + 1) v2 (by omega) (by omega) (qc_trans qv (qc_o (by omega) hg2)) ?_
      unfold wo_fs wo_fe
      rw [if_neg (by rw [q]; exact fun z => by have := (nI_eq (b := 5) (by omega) (by omega)).mp z; omega), q, q2, nI_clamp (by omega), nI_clamp (by omega)]
      exact hv2
theorem ml_ends {u : pa_S} {z : Nat} {x1 : Int32} {po : Int32 → pa_S → Prop} (hu : iv_at u w e N) (hz : z ≤ 10) (h1 : pa_I u 24 0 40 = nI z)
    (hr : ∀ r, r < z → (pa_A u 9 1 (4 * r) = nI 5 ∧ pa_A u 49 0 r = nI 5) ∨ ∃ h l, h < wo_n w ∧ l < wo_n w ∧ h ≠ l ∧ pa_A u 9 1 (4 * r) = nI h ∧ pa_A u 9 1 (4 * r + 1) = nI l ∧ pa_A u 49 0 r = nI h ∧ pa_A u 50 0 r = nI l)
    (hk : ∀ v, iv_at v w e N → po (if x1 = 0 then nI (wo_fa e (wo_fs e w u z) (wo_n w)) else nI (wo_la (wo_fs e w u z) (3 * wo_n w))) v) :
    ∀ (k f r : Nat) (v : pa_S), r + k = z → k < f → fr_of fp_M0 u v → wo_K v w → wo_M v (wo_fs e w u r) → wl_X7_ends_18 po f v x1 (nI r)
  | 0, f + 1, r, v, eq, _, gv, hK, hc => by
    obtain rfl : r = z := by omega
    have ok := wo_fs_ok (u := u) (iv_F hu) hu.1.2.1 (iv_EW hu) (iv_B hu) hz hr r (Nat.le_refl _)
    have back : ∀ v2 y, fr_of fp_g v v2 → (∀ x, iv_at x w e N → po y x) → wb_X7_ends_81 v2 y po := by
      intro v2 y g2 hp
      unfold wb_X7_ends_81
      exact mp_putBack (iv_F hu) (wo_M_frg g2 hc) ok.2.1 (wo_K_frw (fr_mono (fun _ _ _ z => fp_gw z) g2) hK) (fun x hx _ hgx => hp x (iv_at_m hu (fr_trans gv (fr_trans (fr_mono (fun _ _ _ z => fp_gM z) g2) (fr_mono (fun _ _ _ z => fp_wM z) hgx))) hx))
    unfold wl_X7_ends_18 wb_X7_ends_18
    rw [gv.1 24 0 40 (by unfold fp_M0; omega), h1, if_pos (nI_le (by omega) (by omega))]
    by_cases y : x1 = 0
    · rw [if_pos y]
      rw [if_pos y] at hk
      refine mp_allFortunes ok.1 hc (en_M_M0 gv (iv_EM hu)) (iv_EW hu) (by rw [ok.2.1.2.2.2.2]; exact iv_B hu) (fun v2 hv2 => ?_)
      rw [ok.2.1.1]
      exact back v2 _ hv2 hk
    · rw [if_neg y]
      rw [if_neg y] at hk
      rw [mp_allLengths ok.1 hc, ok.2.1.1]
      exact back v _ (fr_refl v) hk
  | k + 1, f + 1, r, v, eq, hlt, gv, hK, hc => by
    have h5 := (iv_F hu).1
    obtain ⟨ok1, ok2, ok3⟩ := wo_fs_ok (u := u) (iv_F hu) hu.1.2.1 (iv_EW hu) (iv_B hu) hz hr r (by omega)
    unfold wl_X7_ends_18 wb_X7_ends_18
    rw [gv.1 24 0 40 (by unfold fp_M0; omega), h1, if_neg (nI_ge (by omega) (by omega)), pw_and (vp_in_nI (by omega) (by omega)), nI_clamp (by omega), gv.2.1 49 0 (by unfold fp_M0; omega)]
    rcases hr r (by omega) with ⟨q, q'⟩ | ⟨x, l, hx, hl, hxl, c1, c2, q, q2⟩
    · rw [if_pos (show pa_A u 49 0 r = 5 from q')]
      refine mp_goDay ok1 hc (fun v2 hv2 hg2 => ?_)
      unfold wb_X7_ends_60
      simp only [forall_eq, pw_n1, nI_add]
      refine ml_ends hu hz h1 hr hk k f (r + 1) v2 (by omega) (by omega) (fr_trans gv (fr_mono (fun _ _ _ z => fp_wM z) hg2)) (wo_K_frw hg2 hK) ?_
      unfold wo_fs wo_fe
      rw [if_pos q']
      exact hv2
    · rw [if_neg (show ¬ pa_A u 49 0 r = 5 by rw [q]; exact fun z => by have := (nI_eq (b := 5) (by omega) (by omega)).mp z; omega), pw_and (vp_in_nI (by omega) (by omega)), pw_and (vp_in_nI (by omega) (by omega)), gv.2.1 50 0 (by unfold fp_M0; omega), q, q2]
      refine mp_prints ok1 hc (en_M_M0 gv (iv_EM hu)) (iv_EW hu) (by rw [ok2.2.2.2.2]; exact iv_B hu) (by rw [ok2.1]; exact hx) (by rw [ok2.1]; exact hl) hxl (fun v2 hv2 hg2 => ?_)
      unfold wb_X7_ends_60
      simp only [forall_eq, pw_n1, nI_add]
      refine ml_ends hu hz h1 hr hk k f (r + 1) v2 (by omega) (by omega) (fr_trans gv (fr_mono (fun _ _ _ z => fp_wM z) hg2)) (wo_K_frw hg2 hK) ?_
      unfold wo_fs wo_fe
      rw [if_neg (by rw [q]; exact fun z => by have := (nI_eq (b := 5) (by omega) (by omega)).mp z; omega), q, q2, nI_clamp (by omega), nI_clamp (by omega)]
      exact hv2
theorem wo_fs_fr {u v : pa_S} (h1 : pa_A v 49 0 = pa_A u 49 0) (h2 : pa_A v 50 0 = pa_A u 50 0) : ∀ r, wo_fs e w v r = wo_fs e w u r
  | 0 => rfl
  | r + 1 => by unfold wo_fs wo_fe; rw [wo_fs_fr h1 h2 r, h1, h2]
end ENDS
theorem case_k25 {u : pa_S} {a1 a2 a3 a4 a5 : Int32} (hi : iv_I u) : pa_case iv_I u a1 a2 a3 a4 a5 25 := by
  have hi0 := hi
  obtain ⟨w, e, N, hw⟩ := hi
  obtain ⟨z, hz, z1, z2, hb⟩ := hw.2.2.1.2.1
  show wp_X6_ends u a1 _
  have X : ∀ (v : pa_S) po, wp_X7_ends v a1 po = wb_X7_ends_0 v a1 po := fun _ _ => rfl
  simp only [X]
  unfold wp_X6_ends wb_X6_ends_0 wb_X7_ends_0
  rcases rg_01 a1 0 1 (by omega) (by omega) with ⟨q, _, hq, rfl⟩ | hq
  rotate_left
  · rw [wi_0 (A := 0) (B := 1) (lo := 0) (hi := 1) rfl rfl hq, if_pos rfl]; dsimp only
    rw [in_0 (A := 0) (B := 1) (lo := 0) (hi := 1) rfl rfl hq, if_pos rfl]
    exact ⟨rfl, hi0⟩
  rw [wi_1 (A := 0) (B := 1) (lo := 0) (hi := 1) rfl rfl (by omega) hq (by omega), if_neg (by decide)]
  refine qc_start hw (by omega) (fun v qv hv => ?_)
  rw [pw_n0]
  refine sl_ends hw hz z1 hb (fun v1 hv1 g1 => ?_) z 5000 0 v (by omega) (by omega) qv hv
  dsimp only
  rw [in_1 (A := nI 0) (B := 1) (lo := 0) (hi := 1) rfl rfl (by omega) hq (by omega), if_neg (show ¬ (1 : Int32) = nI 0 by decide)]
  refine mp_save (iv_F hw) (iv_M hv1) (fun v2 hv2 hK hg2 => ?_)
  have e49 : pa_A v1 49 0 = pa_A u 49 0 := g1.2.1 49 0 (by unfold fp_t; omega)
  have e50 : pa_A v1 50 0 = pa_A u 50 0 := g1.2.1 50 0 (by unfold fp_t; omega)
  obtain ⟨y, hy, y1, y2, yb⟩ := hv1.2.2.1.2.1
  have ey : y = z := by
    have a := g1.1 24 0 40 (by unfold fp_t; omega)
    rw [y2, z2] at a
    exact (nI_eq (by omega) (by omega)).mp a
  subst ey
  refine ml_ends hv1 hy y2 yb (fun x hx => ?_) y 5000 0 v2 (by omega) (by omega) (fr_mono (fun _ _ _ z => fp_kM z) hg2) hK hv2
  rw [wo_fs_fr e49 e50]
  exact ⟨rfl, iv_at_I hx⟩
