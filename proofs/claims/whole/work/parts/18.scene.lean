/-! frames: which cells may differ (100: a row of ints, 101: of longs, 102: a length) -/
def fr_of (P : Nat → Nat → Nat → Prop) (u u' : pa_S) : Prop :=
  (∀ t i k, ¬ P t i k → pa_I u' t i k = pa_I u t i k) ∧ (∀ t i, ¬ P t i 100 → pa_A u' t i = pa_A u t i) ∧
  (∀ t i, ¬ P t i 101 → pa_L u' t i = pa_L u t i) ∧ (∀ t i, ¬ P t i 102 → pa_N u' t i = pa_N u t i)
theorem fr_refl {P : Nat → Nat → Nat → Prop} (u : pa_S) : fr_of P u u := ⟨fun _ _ _ _ => rfl, fun _ _ _ => rfl, fun _ _ _ => rfl, fun _ _ _ => rfl⟩
theorem fr_trans {P : Nat → Nat → Nat → Prop} {u v w : pa_S} (a : fr_of P u v) (b : fr_of P v w) : fr_of P u w :=
  ⟨fun t i k h => (b.1 t i k h).trans (a.1 t i k h), fun t i h => (b.2.1 t i h).trans (a.2.1 t i h), fun t i h => (b.2.2.1 t i h).trans (a.2.2.1 t i h), fun t i h => (b.2.2.2 t i h).trans (a.2.2.2 t i h)⟩
theorem fr_mono {P Q : Nat → Nat → Nat → Prop} {u v : pa_S} (h : ∀ t i k, P t i k → Q t i k) (a : fr_of P u v) : fr_of Q u v :=
  ⟨fun t i k z => a.1 t i k (fun y => z (h _ _ _ y)), fun t i z => a.2.1 t i (fun y => z (h _ _ _ y)), fun t i z => a.2.2.1 t i (fun y => z (h _ _ _ y)), fun t i z => a.2.2.2 t i (fun y => z (h _ _ _ y))⟩
theorem fr_sI {P : Nat → Nat → Nat → Prop} {u v : pa_S} {t i k : Nat} {x : Int32} (h : P t i k) (a : fr_of P u v) : fr_of P u (pa_sI v t i k x) := by
  refine fr_trans a ⟨fun t' i' k' z => ?_, fun _ _ _ => rfl, fun _ _ _ => rfl, fun _ _ _ => rfl⟩
  rw [pI_sI, if_neg (fun ⟨p, q, r⟩ => z (by subst p q r; exact h))]
theorem fr_sA {P : Nat → Nat → Nat → Prop} {u v : pa_S} {t i : Nat} {x : Nat → Int32} (h : P t i 100) (a : fr_of P u v) : fr_of P u (pa_sA v t i x) := by
  refine fr_trans a ⟨fun _ _ _ _ => rfl, fun t' i' z => ?_, fun _ _ _ => rfl, fun _ _ _ => rfl⟩
  rw [pA_sA, if_neg (fun ⟨p, q⟩ => z (by subst p q; exact h))]
theorem fr_sL {P : Nat → Nat → Nat → Prop} {u v : pa_S} {t i : Nat} {x : Nat → Int64} (h : P t i 101) (a : fr_of P u v) : fr_of P u (pa_sL v t i x) := by
  refine fr_trans a ⟨fun _ _ _ _ => rfl, fun _ _ _ => rfl, fun t' i' z => ?_, fun _ _ _ => rfl⟩
  rw [pL_sL, if_neg (fun ⟨p, q⟩ => z (by subst p q; exact h))]
theorem fr_sN {P : Nat → Nat → Nat → Prop} {u v : pa_S} {t i : Nat} {x : Nat} (h : P t i 102) (a : fr_of P u v) : fr_of P u (pa_sN v t i x) := by
  refine fr_trans a ⟨fun _ _ _ _ => rfl, fun _ _ _ => rfl, fun _ _ _ => rfl, fun t' i' z => ?_⟩
  rw [pN_sN, if_neg (fun ⟨p, q⟩ => z (by subst p q; exact h))]
/-- the cells of the class's scene s; those of its lines alone; all of trials; -/
def fp_s (s : Nat) (t i k : Nat) : Prop := 1 ≤ t ∧ t ≤ 7 ∧ i = s
def fp_o (s : Nat) (t i k : Nat) : Prop := ((t = 1 ∧ (k = 7 ∨ k = 8)) ∨ t = 4 ∨ t = 5 ∨ t = 7) ∧ i = s
def fp_5 (s : Nat) (t i k : Nat) : Prop := t = 5 ∧ i = s
def fp_d (s : Nat) (t i k : Nat) : Prop := ((t = 1 ∧ (k = 7 ∨ k = 8)) ∨ t = 5) ∧ i = s
theorem fp_do {s t i k : Nat} (h : fp_d s t i k) : fp_o s t i k := by unfold fp_d at h; unfold fp_o; omega
theorem fp_os {s t i k : Nat} (h : fp_o s t i k) : fp_s s t i k := by unfold fp_o at h; unfold fp_s; omega
theorem fp_5o {s t i k : Nat} (h : fp_5 s t i k) : fp_o s t i k := by unfold fp_5 at h; unfold fp_o; omega
def fp_v (s : Nat) (t i k : Nat) : Prop := t = 7 ∧ i = s
theorem fp_vo {s t i k : Nat} (h : fp_v s t i k) : fp_o s t i k := by unfold fp_v at h; unfold fp_o; omega
theorem fp_vs {s t i k : Nat} (h : fp_v s t i k) : fp_s s t i k := by unfold fp_v at h; unfold fp_s; omega
/-- a scene stays what it is if none of its cells changes -/
theorem wo_C_fr {P : Nat → Nat → Nat → Prop} {u v : pa_S} {s : Nat} {w : pw_W} (h : ∀ t k, 1 ≤ t → t ≤ 6 → ¬ P t s k) (h7 : ¬ P 70 0 102) (a : fr_of P u v) (c : wo_C u s w) : wo_C v s w := by
  obtain ⟨c1, c2, c3, c4, c5, c6, c7, c8⟩ := c
  obtain ⟨aI, aA, aL, aN⟩ := a
  refine ⟨(aI _ _ _ (h _ _ (by omega) (by omega))).trans c1, (aI _ _ _ (h _ _ (by omega) (by omega))).trans c2, (aI _ _ _ (h _ _ (by omega) (by omega))).trans c3, (aN _ _ (h _ _ (by omega) (by omega))).trans c4, by rw [aN _ _ h7]; exact c5, fun k hk => ?_, fun j hj => ?_, fun j hj => ?_⟩
  · rw [aA 2 s (h _ _ (by omega) (by omega)), aA 3 s (h _ _ (by omega) (by omega)), aA 4 s (h _ _ (by omega) (by omega))]; exact c6 k hk
  · rw [aA 5 s (h _ _ (by omega) (by omega))]; exact c7 j hj
  · rw [aA 6 s (h _ _ (by omega) (by omega))]; exact c8 j hj
theorem wo_C_frs {u v : pa_S} {s s' : Nat} {w : pw_W} (h : s ≠ s') (a : fr_of (fp_s s') u v) (c : wo_C u s w) : wo_C v s w :=
  wo_C_fr (fun t k _ _ z => h z.2.2) (fun z => by unfold fp_s at z; omega) a c
theorem wo_C_frv {u v : pa_S} {s s' : Nat} {w : pw_W} (a : fr_of (fp_v s') u v) (c : wo_C u s w) : wo_C v s w :=
  wo_C_fr (fun t k _ _ z => by unfold fp_v at z; omega) (fun z => by unfold fp_v at z; omega) a c
section SCENE2
variable {u : pa_S} {s : Nat} {w : pw_W}
/-- w with its lengths given -/
def wo_wl (w : pw_W) (l : Nat → Nat) : pw_W := wo_set w (wo_s w) l (wo_i w) (wo_d w)
theorem wo_C_wl {l l' : Nat → Nat} {f : Nat → Int32} (hc : wo_C u s (wo_wl w l)) (hl : ∀ j, j < 3 * wo_n w → f j = nI (l' j)) : wo_C (pa_sA u 5 s f) s (wo_wl w l') := by
  obtain ⟨c1, c2, c3, c4, c5, c6, c7, c8⟩ := hc
  refine ⟨c1, c2, c3, c4, c5, fun h hh => ?_, fun j hj => ?_, fun j hj => ?_⟩
  · rw [pA_sA, pA_sA, pA_sA, if_neg (by omega), if_neg (by omega), if_neg (by omega)]; exact c6 h hh
  · rw [pA_sA, if_pos ⟨rfl, rfl⟩]; exact hl j hj
  · rw [pA_sA, if_neg (by omega)]; exact c8 j hj
theorem wo_C_congr {w' : pw_W} (hc : wo_C u s w) (h1 : wo_n w' = wo_n w) (h2 : ∀ h, h < wo_n w → wo_k w' h = wo_k w h ∧ wo_v w' h = wo_v w h ∧ wo_s w' h = wo_s w h) (h3 : ∀ j, j < 3 * wo_n w → wo_l w' j = wo_l w j) (h4 : ∀ j, j < 4 * wo_n w → wo_r w' j = wo_r w j) (h5 : wo_i w' = wo_i w) (h6 : wo_d w' = wo_d w) (h7 : wo_b w' = wo_b w) : wo_C u s w' := by
  obtain ⟨c1, c2, c3, c4, c5, c6, c7, c8⟩ := hc
  refine ⟨by rw [h1]; exact c1, by rw [h5]; exact c2, by rw [h6]; exact c3, by rw [h7]; exact c4, by rw [h7]; exact c5, fun h hh => ?_, fun j hj => ?_, fun j hj => ?_⟩
  · rw [h1] at hh
    rw [(h2 h hh).1, (h2 h hh).2.1, (h2 h hh).2.2]
    exact c6 h hh
  · rw [h1] at hj
    rw [h3 j hj]; exact c7 j hj
  · rw [h1] at hj
    rw [h4 j hj]; exact c8 j hj
/-- the lengths after n days; so far only those below e -/
def wo_gl (w : pw_W) (n e : Nat) (j : Nat) : Nat := if j < e then wo_l w j - wo_fo w (j / 3) (wo_d w) n else wo_l w j
def wo_gp (w : pw_W) (n e : Nat) : pw_W := wo_wl w (wo_gl w n e)
def wo_go (w : pw_W) (n : Nat) : pw_W := wo_set w (wo_s w) (fun j => wo_l w j - wo_fo w (j / 3) (wo_d w) n) (wo_i w) (wo_d w + n)
theorem wo_WF_wl {l : Nat → Nat} (hf : wo_WF w) (h : ∀ j, j < 3 * wo_n w → l j ≤ 60) : wo_WF (wo_wl w l) := ⟨hf.1, hf.2.1, h, hf.2.2.2.1, hf.2.2.2.2.1, hf.2.2.2.2.2⟩
theorem wo_WF_gp {n e : Nat} (hf : wo_WF w) : wo_WF (wo_gp w n e) := wo_WF_wl hf (fun j hj => by
  have a := hf.2.2.1 j hj
  unfold wo_gl
  split <;> omega)
theorem wo_WF_go {n : Nat} (hf : wo_WF w) (hd : wo_d w + n ≤ 20000) : wo_WF (wo_go w n) := ⟨hf.1, hf.2.1, fun j hj => Nat.le_trans (Nat.sub_le _ _) (hf.2.2.1 j hj), hf.2.2.2.1, hf.2.2.2.2.1, hd⟩
theorem wo_fo_set {a b : Nat → Nat} {i d h e : Nat} : ∀ m, wo_fo (wo_set w a b i d) h e m = wo_fo w h e m
  | 0 => rfl
  | m + 1 => congrArg (· + wo_fade w h (e + m)) (wo_fo_set m)
theorem wo_fo_gp {h d n e m : Nat} : wo_fo (wo_gp w n e) h d m = wo_fo w h d m := wo_fo_set m
/-- one line of one hand less -/
theorem sl_goLine {n h : Nat} {k2 : pa_S → Int32 → Int32 → Prop} {po : pa_S → Prop} (hf : wo_WF w) (hh : h < wo_n w) (hn : n ≤ 60) :
    ∀ (k f l : Nat) (u : pa_S), l + k = 3 → k < f → wo_C u s (wo_gp w n (3 * h + l)) →
      (∀ v, wo_C v s (wo_gp w n (3 * (h + 1))) → fr_of (fp_d s) u v → k2 v (nI n) (nI (h + 1))) →
      wl_X3_goDays_20 k2 s po f u (nI n) (nI h) (nI (wo_fo w h (wo_d w) n)) (nI l)
  | 0, f + 1, l, u, e, _, hc, hk => by
    obtain rfl : l = 3 := by omega
    unfold wl_X3_goDays_20 wb_X3_goDays_20
    rw [if_pos (show (3 : Int32) ≤ nI 3 by decide)]
    simp only [forall_eq, pw_n1, nI_add]
    exact hk u hc (fr_refl u)
  | k + 1, f + 1, l, u, e, hlt, hc, hk => by
    have a := hf.2.2.1 (3 * h + l) (by omega)
    have b := wo_fo_le (d := wo_d w) hf hh n
    unfold wl_X3_goDays_20 wb_X3_goDays_20
    rw [if_neg (show ¬ (3 : Int32) ≤ nI l from nI_ge (b := 3) (by omega) (by omega)), sp_lengthOf (wo_WF_gp hf) hc hh (by omega), sp_putLength (wo_WF_gp hf) hc hh (by omega)]
    simp only [forall_eq, pw_n1, nI_add]
    have e1 : wo_l (wo_gp w n (3 * h + l)) (3 * h + l) = wo_l w (3 * h + l) := if_neg (by omega)
    rw [e1, pw_sub0 (by omega) (by omega)]
    refine sl_goLine hf hh hn k f (l + 1) _ (by omega) (by omega) ?_ (fun v hv hg => hk v hv (fr_trans (fr_sA (by unfold fp_d; omega) (fr_refl u)) hg))
    refine wo_C_wl (l := wo_gl w n (3 * h + l)) hc (fun j hj => ?_)
    rw [pw_upd]
    by_cases hj2 : j = 3 * h + l
    · subst hj2
      rw [if_pos rfl]
      unfold wo_gl
      rw [if_pos (by omega), show (3 * h + l) / 3 = h by omega]
    · rw [if_neg hj2, hc.2.2.2.2.2.2.1 j hj]
      show nI (wo_gl w n (3 * h + l) j) = _
      unfold wo_gl
      by_cases h3 : j < 3 * h + l
      · rw [if_pos h3, if_pos (by omega)]
      · rw [if_neg h3, if_neg (by omega)]
theorem sl_goHand {n : Nat} {po : pa_S → Prop} (hf : wo_WF w) (hn : n ≤ 60) :
    ∀ (k f h : Nat) (u : pa_S), h + k = wo_n w → k < f → wo_C u s (wo_gp w n (3 * h)) →
      (∀ v, wo_C v s (wo_go w n) → fr_of (fp_d s) u v → po v) →
      wl_X3_goDays_2 s po f u (nI n) (nI h)
  | 0, f + 1, h, u, e, _, hc, hk => by
    have h5 := hf.1
    have hd := hf.2.2.2.2.2
    obtain rfl : h = wo_n w := by omega
    unfold wl_X3_goDays_2 wb_X3_goDays_2
    rw [show pa_I u 1 s 6 = nI (wo_n w) from hc.1, if_pos (nI_le (Nat.le_refl _) (show wo_n w < 2 ^ 31 by omega))]
    simp only [forall_eq]
    refine hk _ ?_ (fr_sI (by unfold fp_d; omega) (fr_refl u))
    obtain ⟨c1, c2, c3, c4, c5, c6, c7, c8⟩ := hc
    refine ⟨?_, ?_, ?_, c4, c5, c6, fun j hj => ?_, c8⟩
    · rw [pI_sI, if_neg (by omega)]; exact c1
    · rw [pI_sI, if_neg (by omega)]; exact c2
    · rw [pI_sI, if_pos ⟨rfl, rfl, rfl⟩, c3]; exact nI_add _ _
    · rw [pA_sI, c7 j hj]
      exact congrArg nI (if_pos hj)
  | k + 1, f + 1, h, u, e, hlt, hc, hk => by
    have h5 := hf.1
    unfold wl_X3_goDays_2 wb_X3_goDays_2
    rw [show pa_I u 1 s 6 = nI (wo_n w) from hc.1, if_neg (nI_ge (show h < wo_n w by omega) (show wo_n w < 2 ^ 31 by omega)), sp_fadesOver (wo_WF_gp hf) hc (show h < wo_n w by omega) hn, wo_fo_gp]
    rw [pw_n0]
    exact sl_goLine hf (show h < wo_n w by omega) hn 3 5000 0 u (by omega) (by omega) hc (fun v hv hg => sl_goHand hf hn k f (h + 1) v (by omega) (by omega) hv (fun v2 hv2 hg2 => hk v2 hv2 (fr_trans hg hg2)))
theorem sp_goDays {n : Nat} {po : pa_S → Prop} (hf : wo_WF w) (hn : n ≤ 60) (hc : wo_C u s w) (hk : ∀ v, wo_C v s (wo_go w n) → fr_of (fp_d s) u v → po v) : wp_X3_goDays u s (nI n) po := by
  have h5 := hf.1
  unfold wp_X3_goDays wb_X3_goDays_0
  rw [pw_n0]
  exact sl_goHand hf hn (wo_n w) 5000 0 u (by omega) (by omega) (wo_C_congr hc rfl (fun _ _ => ⟨rfl, rfl, rfl⟩) (fun j _ => (show wo_gl w n 0 j = wo_l w j from if_neg (Nat.not_lt_zero j))) (fun _ _ => rfl) rfl rfl rfl) hk
end SCENE2
