/-! whether all that is seen is so -/
def wo_sn (w : pw_W) (u : pa_S) : Nat → Nat → Int32
  | 0, _ => 1
  | k + 1, r => if nI (wo_l w (pa_A u 46 0 r).toNatClampNeg - wo_fo w ((pa_A u 46 0 r).toNatClampNeg / 3) (wo_d w) (pa_A u 48 0 r).toNatClampNeg) = pa_A u 47 0 r then wo_sn w u k (r + 1) else 0
section SEEN
variable {u : pa_S} {w : pw_W} {n z : Nat}
theorem sl_seen {v : pa_S} {s : Nat} {po : Int32 → Prop} (hf : wo_WF w) (hc : wo_C v s w) (hn : n ≤ wo_n w) (hz : z ≤ 5) (h1 : pa_I v 8 0 1 = nI z)
    (hb : ∀ r, r < z → ∃ h l x t, h < n ∧ l < 3 ∧ x ≤ 60 ∧ t ≤ 20 ∧ pa_A v 9 0 (4 * r) = nI h ∧ pa_A v 9 0 (4 * r + 1) = nI l ∧ pa_A v 9 0 (4 * r + 2) = nI x ∧ pa_A v 9 0 (4 * r + 3) = nI t ∧ pa_A v 46 0 r = nI (3 * h + l) ∧ pa_A v 47 0 r = nI x ∧ pa_A v 48 0 r = nI t) :
    ∀ (k f r : Nat), r + k = z → k < f → wl_X6_isAllSeenSo_2 s po v f (nI r) = po (wo_sn w v k r)
  | 0, f + 1, r, eq, _ => by
    unfold wl_X6_isAllSeenSo_2 wb_X6_isAllSeenSo_2
    rw [h1, if_pos (nI_le (by omega) (by omega))]
    rfl
  | k + 1, f + 1, r, eq, hlt => by
    have h5 := hf.1
    obtain ⟨h, l, x, t, hh, hl, hx, ht, e1, e2, e3, e4, e5, e6, e7⟩ := hb r (by omega)
    have lx := hf.2.2.1 (3 * h + l) (by omega)
    unfold wl_X6_isAllSeenSo_2 wb_X6_isAllSeenSo_2
    rw [h1, if_neg (nI_ge (by omega) (by omega)), pw_n0, sp_at (by omega) (by omega), pw_n1, sp_at (by omega) (by omega), pw_n3, sp_at (by omega) (by omega), Nat.add_zero, e1, e2, e4, sp_lengthBehind hf hc (by omega) hl (by omega), pw_n2, sp_at (by omega) (by omega), e3]
    unfold wo_sn
    rw [e5, e6, e7, nI_clamp (by omega), nI_clamp (by omega), show (3 * h + l) / 3 = h by omega]
    by_cases q : nI (wo_l w (3 * h + l) - wo_fo w h (wo_d w) t) = nI x
    · rw [if_pos q, if_pos q]
      simp only [forall_eq, nI_add]
      exact sl_seen hf hc hn hz h1 hb k f (r + 1) (by omega) (by omega)
    · rw [if_neg q, if_neg q]
      rfl
theorem ml_seen {po : Int32 → pa_S → Prop} (hf : wo_WF w) (hd : wo_d w ≤ 9999) (hn : n ≤ wo_n w) (hz : z ≤ 5) (h1 : pa_I u 24 0 36 = nI z)
    (hb : ∀ r, r < z → ∃ h l x t, h < n ∧ l < 3 ∧ x ≤ 60 ∧ t ≤ 20 ∧ pa_A u 46 0 r = nI (3 * h + l) ∧ pa_A u 47 0 r = nI x ∧ pa_A u 48 0 r = nI t) (res : Int32) 
    (hk : ∀ x, wo_M x w → fr_of fp_q u x → po res x) :
    ∀ (k f r : Nat) (v : pa_S) (is : Int32), r + k = z → k < f → wo_M v w → fr_of fp_q u v → ((is = 1 ∧ wo_sn w u k r = res) ∨ (is = 0 ∧ res = 0)) → wl_X7_isSeen_4 po f v is (nI r)
  | 0, f + 1, r, v, is, eq, _, hv, hg, hr => by
    unfold wl_X7_isSeen_4 wb_X7_isSeen_4
    rw [hg.1 24 0 36 (by unfold fp_q; omega), h1, if_pos (nI_le (by omega) (by omega))]
    rcases hr with ⟨rfl, hr⟩ | ⟨rfl, hr⟩
    · subst hr; exact ⟨by decide, hk v hv hg⟩
    · subst hr; exact ⟨by decide, hk v hv hg⟩
  | k + 1, f + 1, r, v, is, eq, hlt, hv, hg, hr => by
    have h5 := hf.1
    unfold wl_X7_isSeen_4 wb_X7_isSeen_4
    rw [hg.1 24 0 36 (by unfold fp_q; omega), h1, if_neg (nI_ge (by omega) (by omega))]
    rcases hr with ⟨rfl, hr⟩ | ⟨rfl, hr⟩
    rotate_left
    · subst hr
      rw [if_pos rfl]
      exact ⟨by decide, hk v hv hg⟩
    rw [if_neg (by decide)]
    obtain ⟨h, l, x, t, hh, hl, hx, ht, e5, e6, e7⟩ := hb r (by omega)
    refine mp_save hf hv (fun v1 hv1 hK hg1 => ?_)
    have g1 : fr_of fp_q u v1 := fr_trans hg (fr_mono (fun _ _ _ z => fp_kq z) hg1)
    rw [pw_and (vp_in_nI (by omega) (by omega)), nI_clamp (by omega), g1.2.1 48 0 (by unfold fp_q; omega), e7]
    refine mp_goDays hf hv1 (by omega) (by omega) (fun v2 hv2 hg2 => ?_)
    have g2 : fr_of fp_q u v2 := fr_trans g1 (fr_mono (fun _ _ _ z => fp_wq z) hg2)
    rw [pw_and (vp_in_nI (by omega) (by omega)), g2.2.1 46 0 (by unfold fp_q; omega), g2.2.1 47 0 (by unfold fp_q; omega), e5, e6, pw_and (vp_in_nI (by omega) (by omega)), pw_and (vp_in_nI (by omega) (by omega)), nI_clamp (by omega), hv2.2.2.2.2.2.1 _ (show 3 * h + l < 3 * wo_n w by omega)]
    have el : wo_l (wo_go w t) (3 * h + l) = wo_l w (3 * h + l) - wo_fo w h (wo_d w) t := by
      show wo_l w (3 * h + l) - wo_fo w ((3 * h + l) / 3) (wo_d w) t = _
      rw [show (3 * h + l) / 3 = h by omega]
    rw [el]
    unfold wo_sn at hr
    rw [e5, e6, e7, nI_clamp (by omega), nI_clamp (by omega), show (3 * h + l) / 3 = h by omega] at hr
    by_cases q : nI (wo_l w (3 * h + l) - wo_fo w h (wo_d w) t) = nI x
    · rw [if_pos q]
      rw [if_pos q] at hr
      unfold wb_X7_isSeen_55
      refine mp_putBack hf hv2 wo_eq_set (wo_K_frw hg2 hK) (fun y hy _ hgy => ?_)
      simp only [forall_eq, pw_n1, nI_add]
      exact ml_seen hf hd hn hz h1 hb res hk k f (r + 1) y _ (by omega) (by omega) hy (fr_trans g2 (fr_mono (fun _ _ _ z => fp_wq z) hgy)) (Or.inl ⟨rfl, hr⟩)
    · rw [if_neg q]
      rw [if_neg q] at hr
      unfold wb_X7_isSeen_55
      refine mp_putBack hf hv2 wo_eq_set (wo_K_frw hg2 hK) (fun y hy _ hgy => ?_)
      simp only [forall_eq, pw_n1, nI_add]
      exact ml_seen hf hd hn hz h1 hb res hk k f (r + 1) y _ (by omega) (by omega) hy (fr_trans g2 (fr_mono (fun _ _ _ z => fp_wq z) hgy)) (Or.inr ⟨rfl, hr.symm⟩)
end SEEN
