/-! share -/
theorem rg_m1 (x : Int32) (hi : Nat) (hh : hi < 2 ^ 30) : x = -1 ∨ (∃ n, n ≤ hi ∧ x = nI n) ∨ (x < -1 ∨ nI hi < x) := by
  have e1 : (-1 : Int32).toInt = -1 := by decide
  by_cases h1 : x < -1
  · exact Or.inr (Or.inr (Or.inl h1))
  · by_cases h2 : nI hi < x
    · exact Or.inr (Or.inr (Or.inr h2))
    · by_cases h3 : x = -1
      · exact Or.inl h3
      · refine Or.inr (Or.inl ⟨x.toInt.toNat, ?_, ?_⟩)
        · rw [Int32.lt_iff_toInt_lt, nI_toInt (by omega)] at h2; omega
        · rw [Int32.lt_iff_toInt_lt] at h1 h2
          rw [nI_toInt (by omega)] at h2
          rw [e1] at h1
          have h4 : ¬ x.toInt = -1 := fun z => h3 (Int32.toInt_inj.mp (by rw [z, e1]))
          apply Int32.toInt_inj.mp
          rw [nI_toInt (by omega)]
          omega
section M1
variable {u : pa_S} {x B : Int32} {n hi : Nat} {po : Int32 → Prop}
theorem pw_m1lt {n : Nat} (h : n < 2 ^ 31) : ¬ nI n < -1 := by
  rw [Int32.lt_iff_toInt_lt, nI_toInt h, show (-1 : Int32).toInt = -1 by decide]; omega
theorem pw_m1gt {n : Nat} (h : n < 2 ^ 31) : ¬ nI n < (-1 : Int32) ∧ (-1 : Int32) < nI n := by
  constructor
  · exact pw_m1lt h
  · rw [Int32.lt_iff_toInt_lt, nI_toInt h, show (-1 : Int32).toInt = -1 by decide]; omega
theorem wim_m (hB : B = nI hi) (hh : hi < 2 ^ 30) : wp_X6_within u (-1) (-1) B po = po 1 := by
  unfold wp_X6_within wb_X6_within_0
  rw [hB, if_neg (by decide), if_neg (by rw [Int32.not_lt]; exact Int32.le_of_lt (pw_m1gt (by omega)).2)]
theorem wim_1 (hB : B = nI hi) (h : n ≤ hi) (hh : hi < 2 ^ 30) : wp_X6_within u (nI n) (-1) B po = po 1 := by
  unfold wp_X6_within wb_X6_within_0
  rw [hB, if_neg (pw_m1lt (by omega)), if_neg (nI_nlt h (by omega))]
theorem wim_0 (hB : B = nI hi) (h : x < -1 ∨ nI hi < x) : wp_X6_within u x (-1) B po = po 0 := by
  unfold wp_X6_within wb_X6_within_0
  rw [hB]
  rcases h with h | h
  · rw [if_pos h]
  · by_cases z : x < -1
    · rw [if_pos z]
    · rw [if_neg z, if_pos h]
theorem inm_m (hB : B = nI hi) (hh : hi < 2 ^ 30) : wp_X7_in u (-1) (-1) B po = po 1 := by
  unfold wp_X7_in wb_X7_in_0
  rw [hB, if_neg (by decide), if_neg (by rw [Int32.not_lt]; exact Int32.le_of_lt (pw_m1gt (by omega)).2)]
theorem inm_1 (hB : B = nI hi) (h : n ≤ hi) (hh : hi < 2 ^ 30) : wp_X7_in u (nI n) (-1) B po = po 1 := by
  unfold wp_X7_in wb_X7_in_0
  rw [hB, if_neg (pw_m1lt (by omega)), if_neg (nI_nlt h (by omega))]
theorem inm_0 (hB : B = nI hi) (h : x < -1 ∨ nI hi < x) : wp_X7_in u x (-1) B po = po 0 := by
  unfold wp_X7_in wb_X7_in_0
  rw [hB]
  rcases h with h | h
  · rw [if_pos h]
  · by_cases z : x < -1
    · rw [if_pos z]
    · rw [if_neg z, if_pos h]
end M1
/-- the best so far -/
def sh_i (F : Nat → Nat → Nat) (a : Nat) : Nat → Int32 → Option (Nat × Nat) → Int32 × Option (Nat × Nat)
  | 0, m, r => (m, r)
  | k + 1, m, r => if nI (F a k) ≤ m then sh_i F a k m r else sh_i F a k (nI (F a k)) (some (a, k))
def sh_o (F : Nat → Nat → Nat) (n : Nat) : Nat → Int32 → Option (Nat × Nat) → Int32 × Option (Nat × Nat)
  | 0, m, r => (m, r)
  | k + 1, m, r => sh_o F n k (sh_i F k (n - k + 1) m r).1 (sh_i F k (n - k + 1) m r).2
def sh_k (n : Nat) (r : Option (Nat × Nat)) : Prop := ∀ p, r = some p → p.1 + p.2 ≤ n
theorem sh_i_k {F : Nat → Nat → Nat} {n a : Nat} (ha : a ≤ n) : ∀ k m r, k ≤ n - a + 1 → sh_k n r → sh_k n (sh_i F a k m r).2
  | 0, m, r, _, h => h
  | k + 1, m, r, hk, h => by
    unfold sh_i
    by_cases z : nI (F a k) ≤ m
    · rw [if_pos z]; exact sh_i_k ha k m r (by omega) h
    · rw [if_neg z]
      exact sh_i_k ha k _ _ (by omega) (fun p hp => by
        obtain rfl : (a, k) = p := Option.some.inj hp
        show a + k ≤ n
        omega)
theorem sh_o_k {F : Nat → Nat → Nat} {n : Nat} : ∀ k m r, k ≤ n + 1 → sh_k n r → sh_k n (sh_o F n k m r).2
  | 0, m, r, _, h => h
  | k + 1, m, r, hk, h => by
    unfold sh_o
    exact sh_o_k k _ _ (by omega) (sh_i_k (by omega) _ _ _ (by omega) h)
theorem sh_i_s {F : Nat → Nat → Nat} {a : Nat} : ∀ k m r, (∃ p, r = some p) → ∃ p, (sh_i F a k m r).2 = some p
  | 0, m, r, h => h
  | k + 1, m, r, h => by
    unfold sh_i
    by_cases z : nI (F a k) ≤ m
    · rw [if_pos z]; exact sh_i_s k m r h
    · rw [if_neg z]; exact sh_i_s k _ _ ⟨_, rfl⟩
theorem sh_o_s {F : Nat → Nat → Nat} {n : Nat} : ∀ k m r, (∃ p, r = some p) → ∃ p, (sh_o F n k m r).2 = some p
  | 0, m, r, h => h
  | k + 1, m, r, h => by
    unfold sh_o
    exact sh_o_s k _ _ (sh_i_s _ _ _ h)
theorem sh_o_f {F : Nat → Nat → Nat} {n : Nat} (hF : F n 0 < 2 ^ 31) : ∃ p, (sh_o F n (n + 1) (-1) none).2 = some p := by
  unfold sh_o
  refine sh_o_s _ _ _ ?_
  rw [show n - n + 1 = 0 + 1 by omega]
  unfold sh_i
  rw [if_neg (by rw [Int32.not_le]; exact (pw_m1gt hF).2)]
  exact sh_i_s _ _ _ ⟨_, rfl⟩
def sh_a (x3 : Int32) (n : Nat) : Option (Nat × Nat) → Int32
  | none => 0
  | some p => if x3 = 0 then nI p.1 else if x3 = 1 then nI p.2 else nI (n - p.1 - p.2)
def sh_f : Option (Nat × Nat) → Int32
  | none => 0
  | some p => nI (100 * p.1 + p.2)
def wo_d3 (e : pw_E) (w : pw_W) (h a b c : Nat) : pw_W := wo_dw e (wo_dw e (wo_dw e w h 0 a) h 1 b) h 2 c
def sh_F (e : pw_E) (w : pw_W) (h n a b : Nat) : Nat := wo_fu e (wo_d3 e w h a b (n - a - b)) h
section SHARE
variable {w : pw_W} {e : pw_E} {N : Nat}
theorem d3_ok {h a b c : Nat} (hf : wo_WF w) (hw : en_WF e N) (hb : wo_b w < N) (hh : h < wo_n w) :
    wo_WF (wo_dw e w h 0 a) ∧ wo_WF (wo_dw e (wo_dw e w h 0 a) h 1 b) ∧ wo_WF (wo_d3 e w h a b c) := by
  have h1 := wo_WF_dw (e := e) (n := a) hf hw hb hh (show 0 < 3 by omega)
  have h2 := wo_WF_dw (e := e) (n := b) h1 hw (show wo_b (wo_dw e w h 0 a) < N from hb) (show h < wo_n (wo_dw e w h 0 a) from hh) (show 1 < 3 by omega)
  exact ⟨h1, h2, wo_WF_dw (e := e) (n := c) h2 hw (show wo_b (wo_dw e (wo_dw e w h 0 a) h 1 b) < N from hb) (show h < wo_n (wo_dw e (wo_dw e w h 0 a) h 1 b) from hh) (show 2 < 3 by omega)⟩
theorem sp_d3 {u : pa_S} {h a b c : Nat} {po : pa_S → Prop} (hu : iv_at u w e N) (hh : h < wo_n w) (ha : a ≤ 60) (hbb : b ≤ 60) (hcc : c ≤ 60)
    (hk : ∀ v, iv_at v w e N → wo_C v 2 (wo_d3 e w h a b c) → po v) : wp_X6_ifDrawn u (nI h) (nI a) (nI b) (nI c) po := by
  have hb0 := iv_B hu
  have ok := d3_ok (a := a) (b := b) (c := c) (iv_F hu) (iv_EW hu) hb0 hh
  unfold wp_X6_ifDrawn wb_X6_ifDrawn_0
  refine qc_start hu (by omega) (fun v1 q1 hv1 => ?_)
  have hw1 := iv_at_qc hu q1
  refine sp_drawOn (l := 0) (iv_F hu) hv1 (iv_EC hw1) (iv_EW hu) hb0 hh (by omega) ha (fun v2 hv2 hg2 => ?_)
  have hw2 := iv_at_qc hw1 (qc_d (N := N) (by omega) hg2)
  refine sp_drawOn (l := 1) ok.1 hv2 (iv_EC hw2) (iv_EW hu) hb0 hh (by omega) hbb (fun v3 hv3 hg3 => ?_)
  have hw3 := iv_at_qc hw2 (qc_d (N := N) (by omega) hg3)
  refine sp_drawOn (l := 2) ok.2.1 hv3 (iv_EC hw3) (iv_EW hu) hb0 hh (by omega) hcc (fun v4 hv4 hg4 => ?_)
  exact hk v4 (iv_at_qc hw3 (qc_d (N := N) (by omega) hg4)) hv4
theorem sl_shareI {h n a : Nat} {x3 : Int32} {k44 : pa_S → Int32 → Int32 → Int32 → Int32 → Int32 → Int32 → Prop} {po : Int32 → pa_S → Prop} (hh : h < wo_n w) (hn : n ≤ 12) (ha : a ≤ n) :
    ∀ (k f : Nat) (m : Int32) (r : Option (Nat × Nat)) (v : pa_S) (x7 : Int32), x7 = nI k + (-1) → k ≤ n - a + 1 → k < f → iv_at v w e N →
      (∀ x, iv_at x w e N → k44 x (nI h) (nI n) x3 (sh_i (sh_F e w h n) a k m r).1 (sh_a x3 n (sh_i (sh_F e w h n) a k m r).2) (nI a + (-1))) →
      wl_X6_share_55 k44 po f v (nI h) (nI n) x3 m (sh_a x3 n r) (nI a) x7 := by
  intro k
  induction k with
  | zero =>
    intro f m r v x7 hx7 hk1 hlt hv hk
    obtain ⟨f, rfl⟩ : ∃ g, f = g + 1 := ⟨f - 1, by omega⟩
    subst hx7
    unfold wl_X6_share_55 wb_X6_share_55
    rw [if_pos (show nI 0 + (-1) < 0 by decide)]
    simp only [forall_eq]
    exact hk v hv
  | succ k ih =>
    intro f m r v x7 hx7 hk1 hlt hv hk
    obtain ⟨f, rfl⟩ : ∃ g, f = g + 1 := ⟨f - 1, by omega⟩
    subst hx7
    have hb0 := iv_B hv
    have ok := d3_ok (a := a) (b := k) (c := n - a - k) (iv_F hv) (iv_EW hv) hb0 hh
    unfold wl_X6_share_55 wb_X6_share_55
    rw [pk_m1, if_neg (nI_pos (by omega)), pk_sub (by omega), pk_sub (by omega)]
    simp only [forall_eq]
    refine sp_d3 hv hh (by omega) (by omega) (by omega) (fun v1 hv1 hc1 => ?_)
    refine sp_fortuneOf ok.2.2 hc1 (iv_EC hv1) (iv_EW hv) (show wo_b (wo_d3 e w h a k (n - a - k)) < N from hb0) hh (fun v2 hv2 => ?_)
    have hw2 := iv_at_qc hv1 (qc_v (N := N) hv2)
    unfold sh_i at hk
    by_cases z : nI (sh_F e w h n a k) ≤ m
    · rw [if_pos (show nI (wo_fu e (wo_d3 e w h a k (n - a - k)) h) ≤ m from z)]
      rw [if_pos z] at hk
      unfold wb_X6_share_120
      simp only [forall_eq]
      exact ih f m r v2 _ rfl (by omega) (by omega) hw2 hk
    · rw [if_neg (show ¬ nI (wo_fu e (wo_d3 e w h a k (n - a - k)) h) ≤ m from z)]
      rw [if_neg z] at hk
      have fin : ∀ y, y = sh_a x3 n (some (a, k)) → wl_X6_share_55 k44 po f v2 (nI h) (nI n) x3 (nI (sh_F e w h n a k)) y (nI a) (nI k + (-1)) := fun y hy => by
        subst hy
        exact ih f (nI (sh_F e w h n a k)) (some (a, k)) v2 _ rfl (by omega) (by omega) hw2 hk
      unfold wb_X6_share_118 wb_X6_share_120
      simp only [forall_eq]
      by_cases q0 : x3 = 0
      · rw [if_pos q0]
        exact fin _ (if_pos q0).symm
      · rw [if_neg q0]
        by_cases q1 : x3 = 1
        · rw [if_pos q1]
          refine fin _ ?_
          show nI k = (if x3 = 0 then nI a else if x3 = 1 then nI k else nI (n - a - k))
          rw [if_neg q0, if_pos q1]
        · rw [if_neg q1]
          refine fin _ ?_
          show nI (n - a - k) = (if x3 = 0 then nI a else if x3 = 1 then nI k else nI (n - a - k))
          rw [if_neg q0, if_neg q1]
theorem sl_shareO {h n : Nat} {x3 : Int32} {po : Int32 → pa_S → Prop} (hh : h < wo_n w) (hn : n ≤ 12) :
    ∀ (k f : Nat) (m : Int32) (r : Option (Nat × Nat)) (v : pa_S) (x7 : Int32), x7 = nI k + (-1) → k ≤ n + 1 → k < f → iv_at v w e N →
      (∀ x, iv_at x w e N → po (if 0 ≤ x3 then sh_a x3 n (sh_o (sh_F e w h n) n k m r).2 else (sh_o (sh_F e w h n) n k m r).1) x) →
      wl_X6_share_44 po f v (nI h) (nI n) x3 m (sh_a x3 n r) x7 := by
  intro k
  induction k with
  | zero =>
    intro f m r v x7 hx7 hk1 hlt hv hk
    obtain ⟨f, rfl⟩ : ∃ g, f = g + 1 := ⟨f - 1, by omega⟩
    subst hx7
    unfold wl_X6_share_44 wb_X6_share_44
    rw [if_pos (show nI 0 + (-1) < 0 by decide)]
    have h0 := hk v hv
    unfold sh_o at h0
    by_cases q : 0 ≤ x3
    · rw [if_pos q] at h0 ⊢; exact h0
    · rw [if_neg q] at h0 ⊢; exact h0
  | succ k ih =>
    intro f m r v x7 hx7 hk1 hlt hv hk
    obtain ⟨f, rfl⟩ : ∃ g, f = g + 1 := ⟨f - 1, by omega⟩
    subst hx7
    unfold wl_X6_share_44 wb_X6_share_44
    rw [pk_m1, if_neg (nI_pos (by omega)), pk_sub (by omega)]
    simp only [forall_eq]
    unfold sh_o at hk
    refine sl_shareI hh hn (show k ≤ n by omega) (n - k + 1) 5000 m r v _ (pk_m1 (n - k)).symm (Nat.le_refl _) (by omega) hv ?_
    intro x hx
    exact ih f _ _ x _ rfl (by omega) (by omega) hx hk
theorem ml_shareI {h n a : Nat} {x3 : Int32} {k43 : pa_S → Int32 → Int32 → Int32 → Int32 → Int32 → Int32 → Prop} {po : Int32 → pa_S → Prop} (hh : h < wo_n w) (hn : n ≤ 12) (ha : a ≤ n) :
    ∀ (k f : Nat) (m : Int32) (r : Option (Nat × Nat)) (v : pa_S) (x7 : Int32), x7 = nI k + (-1) → k ≤ n - a + 1 → k < f → iv_at v w e N →
      (∀ x, iv_at x w e N → k43 x (nI h) (nI n) x3 (sh_f (sh_i (sh_F e w h n) a k m r).2) (sh_i (sh_F e w h n) a k m r).1 (nI a + (-1))) →
      wl_X7_share_54 k43 po f v (nI h) (nI n) x3 (sh_f r) m (nI a) x7 := by
  intro k
  induction k with
  | zero =>
    intro f m r v x7 hx7 hk1 hlt hv hk
    obtain ⟨f, rfl⟩ : ∃ g, f = g + 1 := ⟨f - 1, by omega⟩
    subst hx7
    unfold wl_X7_share_54 wb_X7_share_54
    rw [if_pos (show nI 0 + (-1) < 0 by decide)]
    simp only [forall_eq]
    exact hk v hv
  | succ k ih =>
    intro f m r v x7 hx7 hk1 hlt hv hk
    obtain ⟨f, rfl⟩ : ∃ g, f = g + 1 := ⟨f - 1, by omega⟩
    subst hx7
    have hf := iv_F hv
    have hb0 := iv_B hv
    have ok := d3_ok (a := a) (b := k) (c := n - a - k) hf (iv_EW hv) hb0 hh
    unfold wl_X7_share_54 wb_X7_share_54
    rw [pk_m1, if_neg (nI_pos (by omega)), pk_sub (by omega), pk_sub (by omega)]
    refine mp_save hf (iv_M hv) (fun v1 hv1 hK hg1 => ?_)
    have g1 : fr_of fp_M0 v v1 := fr_mono (fun _ _ _ z => fp_kM z) hg1
    refine mp_draws (l := 0) hf hv1 (en_M_M0 g1 (iv_EM hv)) (iv_EW hv) hb0 hh (by omega) (show a ≤ 60 by omega) (fun v2 hv2 hg2 => ?_)
    have g2 : fr_of fp_M0 v v2 := fr_trans g1 (fr_mono (fun _ _ _ z => fp_wM z) hg2)
    refine mp_draws (l := 1) ok.1 hv2 (en_M_M0 g2 (iv_EM hv)) (iv_EW hv) hb0 hh (by omega) (show k ≤ 60 by omega) (fun v3 hv3 hg3 => ?_)
    have g3 : fr_of fp_M0 v v3 := fr_trans g2 (fr_mono (fun _ _ _ z => fp_wM z) hg3)
    refine mp_draws (l := 2) ok.2.1 hv3 (en_M_M0 g3 (iv_EM hv)) (iv_EW hv) hb0 hh (by omega) (show n - a - k ≤ 60 by omega) (fun v4 hv4 hg4 => ?_)
    have g4 : fr_of fp_M0 v v4 := fr_trans g3 (fr_mono (fun _ _ _ z => fp_wM z) hg4)
    refine mp_fortune ok.2.2 hv4 (en_M_M0 g4 (iv_EM hv)) (iv_EW hv) (show wo_b (wo_d3 e w h a k (n - a - k)) < N from hb0) hh (fun v5 hv5 => ?_)
    have g5 : fr_of fp_M0 v v5 := fr_trans g4 (fr_mono (fun _ _ _ z => fp_gM z) hv5)
    have hK5 := wo_K_frw (fr_mono (fun _ _ _ z => fp_gw z) hv5) (wo_K_frw hg4 (wo_K_frw hg3 (wo_K_frw hg2 hK)))
    refine mp_putBack hf (wo_M_frg hv5 hv4) (w' := wo_d3 e w h a k (n - a - k)) ⟨rfl, rfl, rfl, rfl, rfl⟩ hK5 (fun x hx _ hgx => ?_)
    have hw3 := iv_at_m hv (fr_trans g5 (fr_mono (fun _ _ _ z => fp_wM z) hgx)) hx
    unfold sh_i at hk
    by_cases z : nI (sh_F e w h n a k) ≤ m
    · rw [if_neg (show ¬ m < nI (wo_fu e (wo_d3 e w h a k (n - a - k)) h) by rw [Int32.not_lt]; exact z)]
      rw [if_pos z] at hk
      unfold wb_X7_share_130
      simp only [forall_eq]
      exact ih f m r x _ rfl (by omega) (by omega) hw3 hk
    · rw [if_pos (show m < nI (wo_fu e (wo_d3 e w h a k (n - a - k)) h) by rw [← Int32.not_le]; exact z)]
      rw [if_neg z] at hk
      unfold wb_X7_share_130
      simp only [forall_eq, pw_n100, pk_mul, nI_add]
      exact ih f (nI (sh_F e w h n a k)) (some (a, k)) x _ rfl (by omega) (by omega) hw3 hk
theorem ml_shareO {h n : Nat} {x3 : Int32} {po : Int32 → pa_S → Prop} (hh : h < wo_n w) (hn : n ≤ 12) :
    ∀ (k f : Nat) (m : Int32) (r : Option (Nat × Nat)) (v : pa_S) (x7 : Int32), x7 = nI k + (-1) → k ≤ n + 1 → k < f → iv_at v w e N → (∃ p, (sh_o (sh_F e w h n) n k m r).2 = some p ∧ p.1 + p.2 ≤ n) →
      (∀ x, iv_at x w e N → po (if 0 ≤ x3 then sh_a x3 n (sh_o (sh_F e w h n) n k m r).2 else (sh_o (sh_F e w h n) n k m r).1) x) →
      wl_X7_share_43 po f v (nI h) (nI n) x3 (sh_f r) m x7 := by
  intro k
  induction k with
  | zero =>
    intro f m r v x7 hx7 hk1 hlt hv hs hk
    obtain ⟨f, rfl⟩ : ∃ g, f = g + 1 := ⟨f - 1, by omega⟩
    subst hx7
    unfold wl_X7_share_43 wb_X7_share_43
    rw [if_pos (show nI 0 + (-1) < 0 by decide)]
    have h0 := hk v hv
    obtain ⟨p, hp, hpn⟩ := hs
    unfold sh_o at h0 hp
    obtain rfl : r = some p := hp
    by_cases q : 0 ≤ x3
    · rw [if_pos q] at h0 ⊢
      have e1 : sh_f (some p) / 100 = nI p.1 := by
        show nI (100 * p.1 + p.2) / 100 = _
        rw [pw_n100, pk_div (by omega) (by omega) (by omega), show (100 * p.1 + p.2) / 100 = p.1 by omega]
      have e2 : pa_rem (sh_f (some p)) 100 = nI p.2 := by
        show pa_rem (nI (100 * p.1 + p.2)) 100 = _
        rw [pw_n100, pw_rem (by omega) (by omega) (by omega), show (100 * p.1 + p.2) % 100 = p.2 by omega]
      rw [e1, e2]
      have h0 : po (if x3 = 0 then nI p.1 else if x3 = 1 then nI p.2 else nI (n - p.1 - p.2)) v := h0
      by_cases q0 : x3 = 0
      · rw [if_pos q0] at h0 ⊢; exact h0
      · rw [if_neg q0] at h0 ⊢
        by_cases q1 : x3 = 1
        · rw [if_pos q1] at h0 ⊢; exact h0
        · rw [if_neg q1] at h0 ⊢
          rw [pk_sub (by omega), pk_sub (by omega)]
          exact h0
    · rw [if_neg q] at h0 ⊢; exact h0
  | succ k ih =>
    intro f m r v x7 hx7 hk1 hlt hv hs hk
    obtain ⟨f, rfl⟩ : ∃ g, f = g + 1 := ⟨f - 1, by omega⟩
    subst hx7
    unfold wl_X7_share_43 wb_X7_share_43
    rw [pk_m1, if_neg (nI_pos (by omega)), pk_sub (by omega)]
    simp only [forall_eq]
    unfold sh_o at hk hs
    refine ml_shareI hh hn (show k ≤ n by omega) (n - k + 1) 5000 m r v _ (pk_m1 (n - k)).symm (Nat.le_refl _) (by omega) hv ?_
    intro x hx
    exact ih f _ _ x _ rfl (by omega) (by omega) hx hs hk
end SHARE
theorem case_k14 {u : pa_S} {a1 a2 a3 a4 a5 : Int32} (hi : iv_I u) : pa_case iv_I u a1 a2 a3 a4 a5 14 := by
  have hi0 := hi
  obtain ⟨w, e, N, hw⟩ := hi
  have hf := iv_F hw
  have h5 := hf.1
  show wp_X6_share u a1 a2 a3 _
  have X : ∀ (v : pa_S) po, wp_X7_share v a1 a2 a3 po = wb_X7_share_0 v a1 a2 a3 po := fun _ _ => rfl
  simp only [X]
  unfold wp_X6_share wb_X6_share_0 wb_X7_share_0
  rcases rg_h w a1 hf with ⟨h, hh, rfl⟩ | h
  rotate_left
  · rw [has_0 (iv_C hw) h, if_pos rfl]; dsimp only
    rw [ih_0 hf (iv_M hw) h, if_pos rfl]
    exact ⟨rfl, hi0⟩
  rw [sp_has hf (iv_C hw) hh, if_neg (by decide)]
  have hx3 : (∀ (u : pa_S) (po : Int32 → Prop), wp_X6_within u a3 (-1) 2 po = po 0 ∧ wp_X7_in u a3 (-1) 2 po = po 0) ∨ (∀ (u : pa_S) (po : Int32 → Prop), wp_X6_within u a3 (-1) 2 po = po 1 ∧ wp_X7_in u a3 (-1) 2 po = po 1) := by
    rcases rg_m1 a3 2 (by omega) with rfl | ⟨n, hn, rfl⟩ | h
    · exact Or.inr (fun u po => ⟨wim_m (hi := 2) rfl (by omega), inm_m (hi := 2) rfl (by omega)⟩)
    · exact Or.inr (fun u po => ⟨wim_1 (hi := 2) rfl hn (by omega), inm_1 (hi := 2) rfl hn (by omega)⟩)
    · exact Or.inl (fun u po => ⟨wim_0 (hi := 2) rfl h, inm_0 (hi := 2) rfl h⟩)
  rcases hx3 with q3 | q3
  · rw [(q3 _ _).1, if_pos rfl]; dsimp only
    rw [ih_1 hf (iv_M hw) hh, if_neg (by decide), (q3 _ _).2, if_pos rfl]
    exact ⟨rfl, hi0⟩
  rw [(q3 _ _).1, if_neg (by decide)]
  rcases rg_01 a2 0 12 (by omega) (by omega) with ⟨n, _, hn, rfl⟩ | hn
  rotate_left
  · rw [wi_0 (A := 0) (B := 12) (lo := 0) (hi := 12) rfl rfl hn, if_pos rfl]; dsimp only
    rw [ih_1 hf (iv_M hw) hh, if_neg (by decide), (q3 _ _).2, if_neg (by decide), in_0 (A := 0) (B := 12) (lo := 0) (hi := 12) rfl rfl hn, if_pos rfl]
    exact ⟨rfl, hi0⟩
  rw [wi_1 (A := 0) (B := 12) (lo := 0) (hi := 12) rfl rfl (by omega) hn (by omega), if_neg (by decide)]
  have hB3 : wo_b (wo_d3 e w h n 0 (n - n - 0)) < N := (iv_B hw : wo_b w < N)
  have okF : sh_F e w h n n 0 < 2 ^ 31 := by
    have := wo_fu_le (d3_ok (a := n) (b := 0) (c := n - n - 0) hf (iv_EW hw) (iv_B hw) hh).2.2 (iv_EW hw) hB3 (show h < wo_n (wo_d3 e w h n 0 (n - n - 0)) from hh)
    show wo_fu e (wo_d3 e w h n 0 (n - n - 0)) h < 2 ^ 31
    omega
  obtain ⟨p, hp⟩ := sh_o_f okF
  have hpk : p.1 + p.2 ≤ n := sh_o_k (F := sh_F e w h n) (n + 1) (-1) none (by omega) (fun _ q => absurd q (by simp)) p hp
  refine sl_shareO (x3 := a3) hh hn (n + 1) 5000 (-1) none u _ (pk_m1 n).symm (by omega) (by omega) hw (fun v hv => ?_)
  dsimp only
  rw [ih_1 hf (iv_M hv) hh, if_neg (by decide), (q3 _ _).2, if_neg (by decide), in_1 (A := 0) (B := 12) (lo := 0) (hi := 12) rfl rfl (by omega) hn (by omega), if_neg (by decide)]
  exact ml_shareO (x3 := a3) hh hn (n + 1) 5000 (-1) none v _ (pk_m1 n).symm (by omega) (by omega) hv ⟨p, hp, hpk⟩ (fun x hx => ⟨rfl, iv_at_I hx⟩)
