/-! what is asked of a scene: grace, worth, fortune, pens, shakes -/
def nS (x : Int) : Int32 := Int32.ofInt x
def wo_f (w : pw_W) (h l : Nat) (j : Nat) : Nat :=
  if j = 0 then h else if j = 1 then l else if j = 2 then wo_k w h else if j = 3 then wo_v w h else if j = 4 then wo_l w (3 * h + l) else wo_d w % 10
/-- booths: what they say of grace, room, press -/
abbrev pw_E : Type := (Nat → (Nat → Nat) → Int) × (Nat → Nat) × (Nat → Nat)
def en_g (e : pw_E) : Nat → (Nat → Nat) → Int := e.1
def en_r (e : pw_E) : Nat → Nat := e.2.1
def en_q (e : pw_E) : Nat → Nat := e.2.2
def en_WF (e : pw_E) (n : Nat) : Prop := ∀ b, b < n → en_r e b ≤ 60 ∧ 1 ≤ en_q e b ∧ en_q e b ≤ 99 ∧ ∀ F, -990 ≤ en_g e b F ∧ en_g e b F ≤ 990
def en_C1 (u : pa_S) (e : pw_E) (b : Nat) : Prop :=
  pa_I u 14 b 2 = nI (en_r e b) ∧ pa_I u 14 b 3 = nI (en_q e b) ∧
  ∀ (v : pa_S) (s : Nat) (F : Nat → Nat) (po : Int32 → Prop), pa_A v 15 b = pa_A u 15 b → pa_A v 16 b = pa_A u 16 b → pa_N v 15 b = pa_N u 15 b → pa_N v 16 b = pa_N u 16 b →
    (∀ j, j < 6 → pa_A v 7 s j = nI (F j)) → (∀ j, j < 6 → F j ≤ 99) → wp_X1_grace v b s po = po (nS (en_g e b F))
def en_C (u : pa_S) (e : pw_E) : Prop := ∀ b, b < pa_N u 70 0 → en_C1 u e b
theorem en_C_fr {P : Nat → Nat → Nat → Prop} {u v : pa_S} {e : pw_E} (h : ∀ t i k, 14 ≤ t → t ≤ 16 → ¬ P t i k) (h7 : ¬ P 70 0 102) (a : fr_of P u v) (c : en_C u e) : en_C v e := by
  intro b hb
  rw [a.2.2.2 _ _ h7] at hb
  obtain ⟨c1, c2, c3⟩ := c b hb
  refine ⟨(a.1 _ _ _ (h _ _ _ (by omega) (by omega))).trans c1, (a.1 _ _ _ (h _ _ _ (by omega) (by omega))).trans c2, fun x s F po z1 z2 z3 z4 => c3 x s F po ?_ ?_ ?_ ?_⟩
  · rw [z1]; exact a.2.1 _ _ (h _ _ _ (by omega) (by omega))
  · rw [z2]; exact a.2.1 _ _ (h _ _ _ (by omega) (by omega))
  · rw [z3]; exact a.2.2.2 _ _ (h _ _ _ (by omega) (by omega))
  · rw [z4]; exact a.2.2.2 _ _ (h _ _ _ (by omega) (by omega))
theorem en_C_frs {u v : pa_S} {s : Nat} {e : pw_E} (a : fr_of (fp_s s) u v) (c : en_C u e) : en_C v e :=
  en_C_fr (fun t i k _ _ z => by unfold fp_s at z; omega) (fun z => by unfold fp_s at z; omega) a c
theorem en_C_fro {u v : pa_S} {s : Nat} {e : pw_E} (a : fr_of (fp_o s) u v) (c : en_C u e) : en_C v e := en_C_frs (s := s) (fr_mono (fun t i k h => fp_os h) a) c
theorem en_C_frd {u v : pa_S} {s : Nat} {e : pw_E} (a : fr_of (fp_d s) u v) (c : en_C u e) : en_C v e := en_C_fro (s := s) (fr_mono (fun t i k h => fp_do h) a) c
theorem en_C_frv {u v : pa_S} {s : Nat} {e : pw_E} (a : fr_of (fp_v s) u v) (c : en_C u e) : en_C v e := en_C_frs (s := s) (fr_mono (fun t i k h => fp_vs h) a) c
theorem pw_sgn {L : Nat} {G : Int} (hL : L ≤ 60) (h1 : -990 ≤ G) (h2 : G ≤ 990) : pa_max 0 (nI L + nS G) = nI ((L : Int) + G).toNat := by
  have e : (nI L + nS G).toInt = (L : Int) + G := by
    rw [Int32.toInt_add, nI_toInt (by omega)]
    unfold nS
    rw [Int32.toInt_ofInt]
    have e1 : G.bmod Int32.size = G := Int.bmod_eq_of_le (by show -(2147483648 : Int) ≤ G; omega) (by show G < (2147483648 : Int); omega)
    rw [e1]
    exact Int.bmod_eq_of_le (by omega) (by omega)
  unfold pa_max
  by_cases h : 0 < (L : Int) + G
  · rw [if_pos (by rw [Int32.lt_iff_toInt_lt, e]; exact h)]
    apply Int32.toInt_inj.mp
    rw [e, nI_toInt (by omega)]
    omega
  · rw [if_neg (by rw [Int32.lt_iff_toInt_lt, e]; exact h), show ((L : Int) + G).toNat = 0 by omega]
    rfl
/-- worth of a line, fortune of a hand, of all -/
def wo_w (e : pw_E) (w : pw_W) (h l : Nat) : Nat := if wo_l w (3 * h + l) = 0 then 0 else ((wo_l w (3 * h + l) : Int) + en_g e (wo_b w) (wo_f w h l)).toNat
def wo_fu (e : pw_E) (w : pw_W) (h : Nat) : Nat := if wo_k w h = 4 then 0 else (if wo_k w h = 1 then wo_v w h else 0) + wo_w e w h 0 + wo_w e w h 1 + wo_w e w h 2
def wo_fa (e : pw_E) (w : pw_W) : Nat → Nat
  | 0 => 0
  | n + 1 => wo_fa e w n + wo_fu e w n
def wo_la (w : pw_W) : Nat → Nat
  | 0 => 0
  | n + 1 => wo_la w n + wo_l w n
section OPS
variable {u : pa_S} {s N : Nat} {w : pw_W} {e : pw_E}
theorem wo_w_le {h l : Nat} (hf : wo_WF w) (he : en_WF e N) (hb : wo_b w < N) (hh : h < wo_n w) (hl : l < 3) : wo_w e w h l ≤ 1050 := by
  have a := hf.2.2.1 (3 * h + l) (by omega)
  have b := (he _ hb).2.2.2 (wo_f w h l)
  unfold wo_w
  split <;> omega
theorem wo_fu_le {h : Nat} (hf : wo_WF w) (he : en_WF e N) (hb : wo_b w < N) (hh : h < wo_n w) : wo_fu e w h ≤ 3200 := by
  have a := (hf.2.1 h hh).2.1
  have a0 := wo_w_le hf he hb hh (show 0 < 3 by omega)
  have a1 := wo_w_le hf he hb hh (show 1 < 3 by omega)
  have a2 := wo_w_le hf he hb hh (show 2 < 3 by omega)
  unfold wo_fu
  repeat' split
  all_goals omega
theorem wo_fa_le (hf : wo_WF w) (he : en_WF e N) (hb : wo_b w < N) : ∀ n, n ≤ wo_n w → wo_fa e w n ≤ 3200 * n
  | 0, _ => Nat.le_refl _
  | n + 1, h => by
    have a := wo_fa_le hf he hb n (by omega)
    have b := wo_fu_le hf he hb (show n < wo_n w by omega)
    unfold wo_fa
    omega
theorem wo_la_le (hf : wo_WF w) : ∀ n, n ≤ 3 * wo_n w → wo_la w n ≤ 60 * n
  | 0, _ => Nat.le_refl _
  | n + 1, h => by
    have a := wo_la_le hf n (by omega)
    have b := hf.2.2.1 n (by omega)
    unfold wo_la
    omega
theorem wo_f_le {h l j : Nat} (hf : wo_WF w) (hh : h < wo_n w) (hl : l < 3) : wo_f w h l j ≤ 99 := by
  have a := hf.2.2.1 (3 * h + l) (by omega)
  have b := hf.2.1 h hh
  have c := hf.1
  unfold wo_f
  repeat' split
  all_goals omega
theorem sp_graceOf {h l : Nat} {po : Int32 → pa_S → Prop} (hf : wo_WF w) (hc : wo_C u s w) (he : en_C u e) (hh : h < wo_n w) (hl : l < 3)
    (hk : ∀ v, fr_of (fp_v s) u v → po (nS (en_g e (wo_b w) (wo_f w h l))) v) : wp_X3_graceOf u s (nI h) (nI l) po := by
  have hd := hf.2.2.2.2.2
  have k1 : ∀ f, wo_C (pa_sA u 7 s f) s w := fun f => wo_C_frv (s' := s) (fr_sA ⟨rfl, rfl⟩ (fr_refl u)) hc
  have e1 : ∀ f po, wp_X3_kindOf (pa_sA u 7 s f) s (nI h) po = po (nI (wo_k w h)) := fun f po => sp_kindOf hf (k1 f) hh
  have e2 : ∀ f po, wp_X3_vOf (pa_sA u 7 s f) s (nI h) po = po (nI (wo_v w h)) := fun f po => sp_vOf hf (k1 f) hh
  have e3 : ∀ f po, wp_X3_lengthOf (pa_sA u 7 s f) s (nI h) (nI l) po = po (nI (wo_l w (3 * h + l))) := fun f po => sp_lengthOf hf (k1 f) hh hl
  unfold wp_X3_graceOf wb_X3_graceOf_0
  simp only [forall_eq, pw_sA_sA, pA_sA, and_self, if_true, e1, e2, e3, pI_sA, hc.2.2.1, pw_n10, pN_sA, hc.2.2.2.1]
  rw [pw_rem (by omega) (by omega) (by omega)]
  refine ⟨hc.2.2.2.2.1, ?_⟩
  have kg : ∀ f po', (∀ j, j < 6 → f j = nI (wo_f w h l j)) → wp_X1_grace (pa_sA u 7 s f) (wo_b w) s po' = po' (nS (en_g e (wo_b w) (wo_f w h l))) := fun f po' z =>
    (he _ hc.2.2.2.2.1).2.2 _ s (wo_f w h l) po' (by rw [pA_sA, if_neg (by omega)]) (by rw [pA_sA, if_neg (by omega)]) rfl rfl (fun j hj => by rw [pA_sA, if_pos ⟨rfl, rfl⟩]; exact z j hj) (fun j _ => wo_f_le hf hh hl)
  rw [kg]
  · exact hk _ (fr_sA ⟨rfl, rfl⟩ (fr_refl u))
  · intro j hj
    simp only [pw_upd]
    unfold wo_f
    rcases (show j = 0 ∨ j = 1 ∨ j = 2 ∨ j = 3 ∨ j = 4 ∨ j = 5 by omega) with rfl | rfl | rfl | rfl | rfl | rfl <;> rfl
theorem sp_worthOf {h l : Nat} {po : Int32 → pa_S → Prop} (hf : wo_WF w) (hc : wo_C u s w) (he : en_C u e) (hw : en_WF e N) (hb : wo_b w < N) (hh : h < wo_n w) (hl : l < 3)
    (hk : ∀ v, fr_of (fp_v s) u v → po (nI (wo_w e w h l)) v) : wp_X3_worthOf u s (nI h) (nI l) po := by
  have a := hf.2.2.1 (3 * h + l) (by omega)
  have g := (hw _ hb).2.2.2 (wo_f w h l)
  unfold wp_X3_worthOf wb_X3_worthOf_0
  rw [sp_lengthOf hf hc hh hl]
  by_cases h0 : wo_l w (3 * h + l) = 0
  · rw [if_pos (show nI (wo_l w (3 * h + l)) = 0 by rw [h0]; rfl)]
    have := hk u (fr_refl u)
    unfold wo_w at this
    rw [if_pos h0] at this
    exact this
  · rw [if_neg (show ¬ nI (wo_l w (3 * h + l)) = 0 from nI_ne0 (by omega) (by omega))]
    refine sp_graceOf hf hc he hh hl (fun v hv => ?_)
    rw [pw_sgn a g.1 g.2]
    have := hk v hv
    unfold wo_w at this
    rw [if_neg h0] at this
    exact this
theorem sp_fortuneOf {h : Nat} {po : Int32 → pa_S → Prop} (hf : wo_WF w) (hc : wo_C u s w) (he : en_C u e) (hw : en_WF e N) (hb : wo_b w < N) (hh : h < wo_n w)
    (hk : ∀ v, fr_of (fp_v s) u v → po (nI (wo_fu e w h)) v) : wp_X3_fortuneOf u s (nI h) po := by
  have a := (hf.2.1 h hh).2.1
  have ak := (hf.2.1 h hh).1
  have key : ∀ y : Nat, (∀ v, fr_of (fp_v s) u v → po (nI (y + wo_w e w h 0 + wo_w e w h 1 + wo_w e w h 2)) v) → wb_X3_fortuneOf_27 u s (nI h) (nI y) po := by
    intro y hy
    unfold wb_X3_fortuneOf_27
    unfold wl_X3_fortuneOf_31 wb_X3_fortuneOf_31
    rw [if_neg (by decide), pw_n0]
    refine sp_worthOf hf hc he hw hb hh (by omega) (fun v1 h1 => ?_)
    simp only [forall_eq, pw_n1, nI_add]
    unfold wl_X3_fortuneOf_31 wb_X3_fortuneOf_31
    rw [if_neg (by decide)]
    refine sp_worthOf hf (wo_C_frv h1 hc) (en_C_frv h1 he) hw hb hh (by omega) (fun v2 h2 => ?_)
    simp only [forall_eq, pw_n1, nI_add]
    unfold wl_X3_fortuneOf_31 wb_X3_fortuneOf_31
    rw [if_neg (by decide)]
    refine sp_worthOf hf (wo_C_frv h2 (wo_C_frv h1 hc)) (en_C_frv h2 (en_C_frv h1 he)) hw hb hh (by omega) (fun v3 h3 => ?_)
    simp only [forall_eq, pw_n1, nI_add]
    unfold wl_X3_fortuneOf_31 wb_X3_fortuneOf_31
    rw [if_pos (by decide)]
    exact hy v3 (fr_trans (fr_trans h1 h2) h3)
  unfold wp_X3_fortuneOf wb_X3_fortuneOf_0
  rw [sp_kindOf hf hc hh]
  unfold wo_fu at hk
  by_cases h4 : wo_k w h = 4
  · rw [if_pos (show nI (wo_k w h) = 4 by rw [h4]; rfl)]
    rw [if_pos h4] at hk
    exact hk u (fr_refl u)
  · rw [if_neg (show ¬ nI (wo_k w h) = 4 from fun z => h4 ((nI_eq (b := 4) (by omega) (by omega)).mp z))]
    rw [if_neg h4] at hk
    by_cases h1 : wo_k w h = 1
    · rw [if_pos (show nI (wo_k w h) = 1 by rw [h1]; rfl), sp_vOf hf hc hh]
      rw [if_pos h1] at hk
      exact key _ hk
    · rw [if_neg (show ¬ nI (wo_k w h) = 1 from fun z => h1 ((nI_eq (b := 1) (by omega) (by omega)).mp z))]
      rw [if_neg h1] at hk
      exact key 0 hk
theorem sl_fortuneOfAll {po : Int32 → pa_S → Prop} (hf : wo_WF w) (hw : en_WF e N) (hb : wo_b w < N) : ∀ (k f h : Nat) (u : pa_S), h + k = wo_n w → k < f → wo_C u s w → en_C u e →
    (∀ v, fr_of (fp_v s) u v → po (nI (wo_fa e w (wo_n w))) v) → wl_X3_fortuneOfAll_4 s po f u (nI (wo_fa e w h)) (nI h)
  | 0, f + 1, h, u, eq, _, hc, he, hk => by
    have h5 := hf.1
    unfold wl_X3_fortuneOfAll_4 wb_X3_fortuneOfAll_4
    rw [hc.1, if_pos (nI_le (by omega) (by omega)), show h = wo_n w by omega]
    exact hk u (fr_refl u)
  | k + 1, f + 1, h, u, eq, hlt, hc, he, hk => by
    have h5 := hf.1
    unfold wl_X3_fortuneOfAll_4 wb_X3_fortuneOfAll_4
    rw [hc.1, if_neg (nI_ge (by omega) (by omega))]
    refine sp_fortuneOf hf hc he hw hb (by omega) (fun v hv => ?_)
    simp only [forall_eq, pw_n1, nI_add]
    exact sl_fortuneOfAll hf hw hb k f (h + 1) v (by omega) (by omega) (wo_C_frv hv hc) (en_C_frv hv he) (fun v2 h2 => hk v2 (fr_trans hv h2))
theorem sp_fortuneOfAll {po : Int32 → pa_S → Prop} (hf : wo_WF w) (hc : wo_C u s w) (he : en_C u e) (hw : en_WF e N) (hb : wo_b w < N)
    (hk : ∀ v, fr_of (fp_v s) u v → po (nI (wo_fa e w (wo_n w))) v) : wp_X3_fortuneOfAll u s po := by
  have h5 := hf.1
  unfold wp_X3_fortuneOfAll wb_X3_fortuneOfAll_0
  rw [pw_n0]
  exact sl_fortuneOfAll hf hw hb (wo_n w) 5000 0 u (by omega) (by omega) hc he hk
theorem sl_lengthOfAll {po : Int32 → Prop} (hf : wo_WF w) (hc : wo_C u s w) : ∀ (k f h : Nat), h + k = wo_n w → k < f →
    wl_X3_lengthOfAll_4 s po u f (nI (wo_la w (3 * h))) (nI h) = po (nI (wo_la w (3 * wo_n w)))
  | 0, f + 1, h, eq, _ => by
    have h5 := hf.1
    unfold wl_X3_lengthOfAll_4 wb_X3_lengthOfAll_4
    rw [hc.1, if_pos (nI_le (by omega) (by omega)), show h = wo_n w by omega]
  | k + 1, f + 1, h, eq, hlt => by
    have h5 := hf.1
    unfold wl_X3_lengthOfAll_4 wb_X3_lengthOfAll_4
    rw [hc.1, if_neg (nI_ge (by omega) (by omega))]
    unfold wl_X3_lengthOfAll_14 wb_X3_lengthOfAll_14
    rw [if_neg (by decide), pw_n0, sp_lengthOf hf hc (by omega) (by omega)]
    simp only [forall_eq, pw_n1, nI_add]
    unfold wl_X3_lengthOfAll_14 wb_X3_lengthOfAll_14
    rw [if_neg (by decide), sp_lengthOf hf hc (by omega) (by omega)]
    simp only [forall_eq, pw_n1, nI_add]
    unfold wl_X3_lengthOfAll_14 wb_X3_lengthOfAll_14
    rw [if_neg (by decide), sp_lengthOf hf hc (by omega) (by omega)]
    simp only [forall_eq, pw_n1, nI_add]
    unfold wl_X3_lengthOfAll_14 wb_X3_lengthOfAll_14
    rw [if_pos (by decide)]
    simp only [forall_eq, pw_n1, nI_add]
    exact sl_lengthOfAll hf hc k f (h + 1) (by omega) (by omega)
theorem sp_lengthOfAll {po : Int32 → Prop} (hf : wo_WF w) (hc : wo_C u s w) : wp_X3_lengthOfAll u s po = po (nI (wo_la w (3 * wo_n w))) := by
  have h5 := hf.1
  unfold wp_X3_lengthOfAll wb_X3_lengthOfAll_0
  rw [pw_n0]
  exact sl_lengthOfAll hf hc (wo_n w) 5000 0 (by omega) (by omega)
/-- a pen of n on a line: how much longer, and the world after -/
def wo_dm (e : pw_E) (w : pw_W) (h l n : Nat) : Nat := min (min n (wo_i w)) (en_r e (wo_b w) - wo_l w (3 * h + l))
def wo_dw (e : pw_E) (w : pw_W) (h l n : Nat) : pw_W :=
  wo_set w (wo_s w) (fun j => if j = 3 * h + l then wo_l w j + wo_dm e w h l n else wo_l w j) (wo_i w - wo_dm e w h l n) (wo_d w)
theorem wo_dm_le {h l n : Nat} (hf : wo_WF w) (hw : en_WF e N) (hb : wo_b w < N) (hh : h < wo_n w) (hl : l < 3) :
    wo_dm e w h l n ≤ n ∧ wo_dm e w h l n ≤ wo_i w ∧ wo_l w (3 * h + l) + wo_dm e w h l n ≤ 60 := by
  have a := hf.2.2.1 (3 * h + l) (by omega)
  have b := (hw _ hb).1
  unfold wo_dm
  omega
theorem wo_WF_dw {h l n : Nat} (hf : wo_WF w) (hw : en_WF e N) (hb : wo_b w < N) (hh : h < wo_n w) (hl : l < 3) : wo_WF (wo_dw e w h l n) := by
  have a := wo_dm_le (n := n) hf hw hb hh hl
  refine ⟨hf.1, hf.2.1, fun j hj => ?_, hf.2.2.2.1, Nat.le_trans (Nat.sub_le _ _) hf.2.2.2.2.1, hf.2.2.2.2.2⟩
  show (if j = 3 * h + l then wo_l w j + wo_dm e w h l n else wo_l w j) ≤ 60
  have b := hf.2.2.1 j hj
  by_cases z : j = 3 * h + l
  · subst z; rw [if_pos rfl]; omega
  · rw [if_neg z]; exact b
theorem sp_drawOn {h l n : Nat} {po : Int32 → pa_S → Prop} (hf : wo_WF w) (hc : wo_C u s w) (he : en_C u e) (hw : en_WF e N) (hb : wo_b w < N) (hh : h < wo_n w) (hl : l < 3) (hn : n ≤ 60)
    (hk : ∀ v, wo_C v s (wo_dw e w h l n) → fr_of (fp_d s) u v → po (nI (wo_dm e w h l n)) v) : wp_X3_drawOn u s (nI h) (nI l) (nI n) po := by
  have a := hf.2.2.1 (3 * h + l) (by omega)
  have i9 := hf.2.2.2.2.1
  have r := (hw _ hb).1
  have m := wo_dm_le (n := n) hf hw hb hh hl
  unfold wp_X3_drawOn wb_X3_drawOn_0
  rw [sp_lengthOf hf hc hh hl]
  simp only [forall_eq]
  rw [hc.2.2.2.1]
  refine ⟨hc.2.2.2.2.1, ?_⟩
  rw [(he _ hc.2.2.2.2.1).1, hc.2.1, pw_sub0 (by omega) (by omega), pw_min (by omega) (by omega), pw_min (by omega) (by omega), sp_putLength hf hc hh hl, nI_add]
  show po (nI (wo_dm e w h l n)) _
  have hkk := hk (pa_sI (pa_sA u 5 s (upd (pa_A u 5 s) (3 * h + l) (nI (wo_l w (3 * h + l) + wo_dm e w h l n)))) 1 s 7 (pa_I (pa_sA u 5 s (upd (pa_A u 5 s) (3 * h + l) (nI (wo_l w (3 * h + l) + wo_dm e w h l n)))) 1 s 7 - nI (wo_dm e w h l n)))
  refine hkk ?_ (fr_sI (by unfold fp_d; omega) (fr_sA (by unfold fp_d; omega) (fr_refl u)))
  obtain ⟨c1, c2, c3, c4, c5, c6, c7, c8⟩ := hc
  refine ⟨?_, ?_, ?_, c4, c5, fun k hk => ?_, fun j hj => ?_, fun j hj => ?_⟩
  · rw [pI_sI, if_neg (by omega), pI_sA]; exact c1
  · rw [pI_sI, if_pos ⟨rfl, rfl, rfl⟩, pI_sA, c2, pk_sub m.2.1]; rfl
  · rw [pI_sI, if_neg (by omega), pI_sA]; exact c3
  · rw [pA_sI, pA_sA, pA_sA, pA_sA, if_neg (by omega), if_neg (by omega), if_neg (by omega)]; exact c6 k hk
  · rw [pA_sI, pA_sA, if_pos ⟨rfl, rfl⟩, pw_upd]
    show _ = nI (if j = 3 * h + l then wo_l w j + wo_dm e w h l n else wo_l w j)
    by_cases z : j = 3 * h + l
    · rw [if_pos z, if_pos z, z]
    · rw [if_neg z, if_neg z]; exact c7 j hj
  · rw [pA_sI, pA_sA, if_neg (by omega)]; exact c8 j hj
/-- a shake: what it prints on x by y with a press q; a line's part of the sum -/
def wo_pf (q x y : Nat) : Nat := if x < y then x + (y - x) / q else x
def wo_pm (q x y : Nat) : Nat := if x < y then (y - x) / q else (x - y) / q
def wo_cov (w : pw_W) (h : Nat) : Prop := wo_k w h = 3 ∨ wo_k w h = 6
def wo_ps (w : pw_W) (a b h : Nat) : Nat := if h = a ∨ h = b then min 9999 (wo_s w h + 1) else wo_s w h
/-- the lengths after the lines below c -/
def wo_pl (q : Nat) (w : pw_W) (a b c j : Nat) : Nat :=
  if j % 3 < c ∧ j / 3 = a then wo_pf q (wo_l w j) (wo_l w (3 * b + j % 3)) else if j % 3 < c ∧ j / 3 = b then wo_pf q (wo_l w j) (wo_l w (3 * a + j % 3)) else wo_l w j
def wo_pg (q : Nat) (w : pw_W) (a b : Nat) : Nat → Nat
  | 0 => 0
  | c + 1 => wo_pg q w a b c + wo_pm q (wo_l w (3 * a + c)) (wo_l w (3 * b + c))
def wo_pp (e : pw_E) (w : pw_W) (a b c : Nat) : pw_W := wo_set w (wo_ps w a b) (wo_pl (en_q e (wo_b w)) w a b c) (wo_i w) (wo_d w)
theorem wo_pf_le {q x y : Nat} (hx : x ≤ 60) (hy : y ≤ 60) (hq : 1 ≤ q) : wo_pf q x y ≤ 60 := by
  unfold wo_pf
  split
  · have : (y - x) / q ≤ y - x := Nat.div_le_self _ _
    omega
  · exact hx
theorem wo_pm_le {q x y : Nat} (hx : x ≤ 60) (hy : y ≤ 60) : wo_pm q x y ≤ 60 := by
  have a : (y - x) / q ≤ y - x := Nat.div_le_self _ _
  have b : (x - y) / q ≤ x - y := Nat.div_le_self _ _
  unfold wo_pm
  split <;> omega
theorem wo_pg_le {q a b : Nat} (hf : wo_WF w) (ha : a < wo_n w) (hb : b < wo_n w) : ∀ c, c ≤ 3 → wo_pg q w a b c ≤ 60 * c
  | 0, _ => Nat.le_refl _
  | c + 1, h => by
    have x := wo_pg_le (q := q) hf ha hb c (by omega)
    have y := wo_pm_le (q := q) (hf.2.2.1 (3 * a + c) (by omega)) (hf.2.2.1 (3 * b + c) (by omega))
    unfold wo_pg
    omega
theorem wo_WF_pp {a b c : Nat} (hf : wo_WF w) (hw : en_WF e N) (hb : wo_b w < N) (ha : a < wo_n w) (hbb : b < wo_n w) : wo_WF (wo_pp e w a b c) := by
  have q := (hw _ hb).2.1
  refine ⟨hf.1, fun h hh => ⟨(hf.2.1 h hh).1, (hf.2.1 h hh).2.1, ?_⟩, fun j hj => ?_, hf.2.2.2.1, hf.2.2.2.2.1, hf.2.2.2.2.2⟩
  · show wo_ps w a b h ≤ 9999
    have z := (hf.2.1 h hh).2.2
    unfold wo_ps
    split <;> omega
  · have z := hf.2.2.1 j hj
    have za := hf.2.2.1 (3 * a + j % 3) (by omega)
    have zb := hf.2.2.1 (3 * b + j % 3) (by omega)
    show wo_pl _ w a b c j ≤ 60
    unfold wo_pl
    split
    · exact wo_pf_le z zb q
    · split
      · exact wo_pf_le z za q
      · exact z
end OPS
