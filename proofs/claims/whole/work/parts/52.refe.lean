/-! the reference reads -/
def enc_t (t : Nat × Nat) : Int32 := if t.1 < 18 then nI (1000 * (t.1 / 3) + 100 * (t.1 % 3) + t.2) else if t.1 = 18 then -33 else if t.1 = 19 then -38 else -124
def fp_n (t i k : Nat) : Prop := t = 24 ∧ (k = 11 ∨ k = 12)
def fp_e7 (t i k : Nat) : Prop := (t = 24 ∧ (k = 11 ∨ k = 12 ∨ k = 21 ∨ k = 22 ∨ k = 23)) ∨ t = 36 ∨ t = 37
def fp_e8 (t i k : Nat) : Prop := (t = 24 ∧ (k = 11 ∨ k = 12 ∨ k = 21 ∨ k = 22 ∨ k = 23)) ∨ t = 35 ∨ t = 36 ∨ t = 37
theorem fp_n7 {t i k : Nat} (h : fp_n t i k) : fp_e7 t i k := by unfold fp_n at h; unfold fp_e7; omega
theorem fp_78 {t i k : Nat} (h : fp_e7 t i k) : fp_e8 t i k := by unfold fp_e7 at h; unfold fp_e8; omega
theorem fp_n8 {t i k : Nat} (h : fp_n t i k) : fp_e8 t i k := fp_78 (fp_n7 h)
def rx_T (v : pa_S) (T : Nat → Nat) (S : Nat) : Prop := pa_I v 24 0 10 = nI S ∧ S ≤ 100 ∧ (∀ j, j < S → T j ≤ 127 ∧ pa_A v 30 0 j = nI (T j)) ∧ pa_A v 38 0 = pa_A pa_s0 38 0
def rx (v : pa_S) (T : Nat → Nat) (S p : Nat) : Prop := rx_T v T S ∧ pa_I v 24 0 11 = nI p ∧ p ≤ S
theorem rx_T_fr {P : Nat → Nat → Nat → Prop} {u v : pa_S} {T : Nat → Nat} {S : Nat} (g : fr_of P u v) (h1 : ¬ P 24 0 10) (h2 : ¬ P 30 0 100) (h3 : ¬ P 38 0 100) (h : rx_T u T S) : rx_T v T S := by
  unfold rx_T
  rw [g.1 _ _ _ h1, g.2.1 _ _ h2, g.2.1 _ _ h3]
  exact h
def nxv (T : Nat → Nat) (S p : Nat) : Int32 := if p < S then nI (T p) else -1
section REFT
variable {v : pa_S} {T : Nat → Nat} {S p : Nat}
theorem nx {po : Int32 → Prop} (h : rx v T S p) : wp_X7_next v po = po (nxv T S p) := by
  obtain ⟨⟨h1, h2, h3, h4⟩, h5, h6⟩ := h
  unfold wp_X7_next wb_X7_next_0 nxv
  rw [h1, h5]
  by_cases q : p < S
  · rw [if_neg (nI_ge q (by omega)), if_pos q, pw_and (vp_in_nI (by omega) (by omega)), nI_clamp (by omega), (h3 p q).2]
  · rw [if_pos (nI_le (by omega) (by omega)), if_neg q]
theorem nx_eq {c : Nat} (h : rx v T S p) (hc : c ≤ 127) : (nxv T S p = nI c) = (tch T S p = c) := by
  obtain ⟨⟨h1, h2, h3, h4⟩, h5, h6⟩ := h
  unfold nxv tch
  by_cases q : p < S
  · have := (h3 p q).1
    rw [if_pos q, if_pos q, pw_eqI (by omega) (by omega)]
  · rw [if_neg q, if_neg q]
    exact propext ⟨fun y => absurd y.symm (by intro y; have := (pw_m1gt (n := c) (by omega)).2; rw [y] at this; exact absurd this (by decide)), fun y => by omega⟩
theorem nx_in {lo hi : Nat} {A B : Int32} {po : Int32 → Prop} {w : pa_S} (h : rx v T S p) (hA : A = nI lo) (hB : B = nI hi) (hl : lo ≤ 127) (hh : hi ≤ 127) : wp_X7_in w (nxv T S p) A B po = po (if lo ≤ tch T S p ∧ tch T S p ≤ hi then 1 else 0) := by
  obtain ⟨⟨h1, h2, h3, h4⟩, h5, h6⟩ := h
  unfold nxv tch
  subst hA hB
  by_cases q : p < S
  · have := (h3 p q).1
    rw [if_pos q, if_pos q, mp_in (by omega) (by omega) (by omega)]
  · rw [if_neg q, if_neg q, if_neg (by omega)]
    refine in_0 (lo := lo) (hi := hi) rfl rfl (Or.inl ?_)
    rw [Int32.lt_iff_toInt_lt, show (-1 : Int32).toInt = -1 by decide, nI_toInt (by omega)]
    omega
theorem rx_at (h : rx v T S p) {x : pa_S} {q : Nat} (e : x = pa_sI v 24 0 11 (nI q)) (hq : q ≤ S) : rx x T S q ∧ fr_of (fun t _ k => t = 24 ∧ k = 11) v x := by
  have g : fr_of (fun t _ k => t = 24 ∧ k = 11) v x := by rw [e]; exact fr_sI ⟨rfl, rfl⟩ (fr_refl v)
  exact ⟨⟨rx_T_fr g (by omega) (by omega) (by omega) h.1, by rw [e, pI_sI, if_pos ⟨rfl, rfl, rfl⟩], hq⟩, g⟩
theorem rk_1 {c : Nat} {x : Int32} {po : Int32 → pa_S → Prop} (h : rx v T S p) (hx : x = nI c) (hc : tch T S p = c) (h127 : c ≤ 127) (hk : ∀ y, rx y T S (p + 1) → fr_of (fun t _ k => t = 24 ∧ k = 11) v y → po 1 y) : wp_X7_takes v x po := by
  obtain ⟨l1, l2⟩ := tch_lt hc h127
  unfold wp_X7_takes wb_X7_takes_0
  rw [nx h, if_pos (by rw [hx, nx_eq h h127]; exact hc), h.2.1, pw_n1, nI_add]
  intro y e
  have := rx_at h e (by omega)
  exact hk y this.1 this.2
theorem rk_0 {c : Nat} {x : Int32} {po : Int32 → pa_S → Prop} (h : rx v T S p) (hx : x = nI c) (hc : tch T S p ≠ c) (h127 : c ≤ 127) : wp_X7_takes v x po = po 0 v := by
  unfold wp_X7_takes wb_X7_takes_0
  rw [nx h, if_neg (by rw [hx, nx_eq h h127]; exact hc)]
def rl_s : List Nat := [98, 108, 101, 115, 115, 98, 108, 105, 103, 104, 116, 114, 111, 111, 109, 112, 114, 101, 115, 115]
theorem rl_ok : ∀ j, j < 20 → pa_A pa_s0 38 0 j = nI (rl_s.getD j 0) := by decide
theorem ml_word {a : Nat} {L : List Nat} {po : Int32 → pa_S → Prop} (hL : ∀ j, j < L.length → a + j < 20 ∧ rl_s.getD (a + j) 0 = L.getD j 0 ∧ L.getD j 0 ≤ 127) (hl : L.length ≤ 20) :
    ∀ (k f j p : Nat) (v : pa_S), j + k = L.length → k < f → rx v T S p →
    (∀ q x, gwd T S (L.drop j ++ [32]) p = (false, q) → rx x T S q → fr_of (fun t _ k => t = 24 ∧ k = 11) v x → po 0 x) → (∀ q x, gwd T S (L.drop j ++ [32]) p = (true, q) → rx x T S q → fr_of (fun t _ k => t = 24 ∧ k = 11) v x → po 1 x) → wl_X7_takesWord_2 po f v (nI a) (nI L.length) (nI j) := by
  intro k
  induction k with
  | zero =>
    intro f j p v eq hlt h h0 h1
    obtain ⟨f, rfl⟩ : ∃ g, f = g + 1 := ⟨f - 1, by omega⟩
    rw [List.drop_eq_nil_of_le (by omega)] at h0 h1
    unfold wl_X7_takesWord_2 wb_X7_takesWord_2
    rw [if_pos (nI_le (by omega) (by omega))]
    by_cases q : tch T S p = 32
    · refine rk_1 h rfl q (by decide) (fun y hy gy => ⟨by decide, h1 (p + 1) y ?_ hy gy⟩)
      show (if tch T S p = 32 then (true, p + 1) else (false, p)) = _
      rw [if_pos q]
    · rw [rk_0 (x := 32) h rfl q (by decide)]
      refine ⟨by decide, h0 p v ?_ h (fr_refl v)⟩
      show (if tch T S p = 32 then (true, p + 1) else (false, p)) = _
      rw [if_neg q]
  | succ k ih =>
    intro f j p v eq hlt h h0 h1
    obtain ⟨f, rfl⟩ : ∃ g, f = g + 1 := ⟨f - 1, by omega⟩
    have hj : j < L.length := by omega
    have hd : L.drop j = L.getD j 0 :: L.drop (j + 1) := by
      rw [List.drop_eq_getElem_cons hj, List.getD_eq_getElem?_getD, List.getElem?_eq_getElem hj]
      rfl
    rw [hd, List.cons_append] at h0 h1
    have hc := hL j hj
    unfold wl_X7_takesWord_2 wb_X7_takesWord_2
    rw [if_neg (nI_ge hj (by omega)), nI_add, pw_and (vp_in_nI hc.1 (by omega)), nI_clamp (by omega), h.1.2.2.2, rl_ok _ hc.1, hc.2.1]
    by_cases q : tch T S p = L.getD j 0
    · refine rk_1 h rfl q hc.2.2 (fun y hy gy => ?_)
      rw [if_neg (by decide)]
      simp only [forall_eq, pw_n1, nI_add]
      refine ih f (j + 1) (p + 1) y (by omega) (by omega) hy (fun q2 x hq hx gx => h0 q2 x ?_ hx (fr_trans gy gx)) (fun q2 x hq hx gx => h1 q2 x ?_ hx (fr_trans gy gx))
      all_goals (unfold gwd; rw [if_pos q]; exact hq)
    · rw [rk_0 h rfl q hc.2.2, if_pos rfl]
      exact h0 p v (by unfold gwd; rw [if_neg q]) h (fr_refl v)
theorem mp_word {a : Nat} {x1 x2 : Int32} {L : List Nat} {po : Int32 → pa_S → Prop} (h1' : x1 = nI a) (h2' : x2 = nI L.length) (hL : ∀ j, j < L.length → a + j < 20 ∧ rl_s.getD (a + j) 0 = L.getD j 0 ∧ L.getD j 0 ≤ 127) (hl : L.length ≤ 20) (h : rx v T S p)
    (h0 : ∀ q x, gwd T S (L ++ [32]) p = (false, q) → rx x T S q → fr_of (fun t _ k => t = 24 ∧ k = 11) v x → po 0 x) (h1 : ∀ q x, gwd T S (L ++ [32]) p = (true, q) → rx x T S q → fr_of (fun t _ k => t = 24 ∧ k = 11) v x → po 1 x) : wp_X7_takesWord v x1 x2 po := by
  subst h1' h2'
  unfold wp_X7_takesWord wb_X7_takesWord_0
  exact ml_word hL hl L.length 5000 0 p v (by omega) (by omega) h h0 h1
theorem isd {po : Int32 → Prop} (h : rx v T S p) : wp_X7_isDigit v po = po (if 48 ≤ tch T S p ∧ tch T S p ≤ 57 then 1 else 0) := by
  unfold wp_X7_isDigit wb_X7_isDigit_0
  rw [nx h, nx_in (A := 48) (B := 57) (lo := 48) (hi := 57) h rfl rfl (by omega) (by omega)]
  by_cases q : 48 ≤ tch T S p ∧ tch T S p ≤ 57
  · rw [if_pos q]; exact pw_and (by decide)
  · rw [if_neg q]; exact pw_and (by decide)
/-- one digit more, or none -/
theorem rn_1 {i f d : Nat} {po : Int32 → pa_S → Prop} (h : rx v T S p) (hi : i < 2) (hd : pa_I v 24 0 12 = nI d) (hc : 48 ≤ tch T S p ∧ tch T S p ≤ 57) (hk : ∀ y, rx y T S (p + 1) → pa_I y 24 0 12 = nI (10 * d + (tch T S p - 48)) → fr_of fp_n v y → wl_X7_takesNumber_16 po f y (nI (i + 1))) : wl_X7_takesNumber_16 po (f + 1) v (nI i) := by
  obtain ⟨l1, l2⟩ := tch_lt rfl (show tch T S p ≤ 127 by omega)
  unfold wl_X7_takesNumber_16 wb_X7_takesNumber_16
  rw [if_neg (show ¬ (2 : Int32) ≤ nI i from nI_ge (b := 2) (by omega) (by omega)), isd h, if_pos hc, if_neg (by decide), nx h]
  intro u8 e8 u9 e9 v10 e10
  subst e10
  rw [pw_n1, nI_add]
  have g8 : fr_of (fun t _ k => t = 24 ∧ k = 12) v u8 := by rw [e8]; exact fr_sI ⟨rfl, rfl⟩ (fr_refl v)
  rw [g8.1 24 0 11 (by omega), h.2.1, pw_n1, nI_add] at e9
  have h8 : rx u8 T S p := ⟨rx_T_fr g8 (by omega) (by omega) (by omega) h.1, by rw [g8.1 24 0 11 (by omega)]; exact h.2.1, h.2.2⟩
  have h9 := rx_at h8 e9 (by omega)
  have en : nxv T S p = nI (tch T S p) := by unfold nxv tch; rw [if_pos l1, if_pos l1]
  refine hk u9 h9.1 ?_ (fr_trans (fr_mono (fun t i k y => ⟨y.1, Or.inr y.2⟩) g8) (fr_mono (fun t i k y => ⟨y.1, Or.inl y.2⟩) h9.2))
  rw [h9.2.1 24 0 12 (by omega), e8, pI_sI, if_pos ⟨rfl, rfl, rfl⟩, hd, en, pw_n10, pk_mul, nI_add, show nI (10 * d + tch T S p) - 48 = nI (10 * d + tch T S p - 48) from pk_sub (b := 48) (by omega), show 10 * d + tch T S p - 48 = 10 * d + (tch T S p - 48) by omega]
theorem rn_0 {i f : Nat} {po : Int32 → pa_S → Prop} (h : rx v T S p) (hc : 2 ≤ i ∨ ¬ (48 ≤ tch T S p ∧ tch T S p ≤ 57)) (hi : i ≤ 2) : wl_X7_takesNumber_16 po (f + 1) v (nI i) = po 1 v := by
  unfold wl_X7_takesNumber_16 wb_X7_takesNumber_16
  by_cases q : 2 ≤ i
  · rw [if_pos (show (2 : Int32) ≤ nI i from nI_le (a := 2) (by omega) (by omega))]
  · have hc : ¬ (48 ≤ tch T S p ∧ tch T S p ≤ 57) := by rcases hc with y | y; exact absurd y q; exact y
    rw [if_neg (show ¬ (2 : Int32) ≤ nI i from nI_ge (b := 2) (by omega) (by omega)), isd h, if_neg hc, if_pos rfl]
theorem mp_num {po : Int32 → pa_S → Prop} (h : rx v T S p) (h0 : nu_k T S p = 0 → po 0 v) (hk : nu_k T S p ≠ 0 → ∀ y, rx y T S (p + nu_k T S p) → pa_I y 24 0 12 = nI (nu_v T S p) → fr_of fp_n v y → po 1 y) : wp_X7_takesNumber v po := by
  unfold wp_X7_takesNumber wb_X7_takesNumber_0
  rw [isd h]
  unfold nu_v at hk
  unfold nu_k at h0 hk
  by_cases a : 48 ≤ tch T S p ∧ tch T S p ≤ 57
  · rw [if_pos a] at hk ⊢
    rw [if_neg (by decide)]
    intro u3 e3
    have g3 : fr_of (fun t _ k => t = 24 ∧ k = 12) v u3 := by rw [e3]; exact fr_sI ⟨rfl, rfl⟩ (fr_refl v)
    have h3 : rx u3 T S p := ⟨rx_T_fr g3 (by omega) (by omega) (by omega) h.1, by rw [g3.1 24 0 11 (by omega)]; exact h.2.1, h.2.2⟩
    have d3 : pa_I u3 24 0 12 = nI 0 := by rw [e3, pI_sI, if_pos ⟨rfl, rfl, rfl⟩]; rfl
    show wl_X7_takesNumber_16 po (4997 + 1 + 1 + 1) u3 (nI 0)
    refine rn_1 h3 (by omega) d3 a (fun y hy dy gy => ?_)
    have gG := fr_trans (fr_mono (fun t i k y => ⟨y.1, Or.inr y.2⟩) g3) gy
    by_cases b : 48 ≤ tch T S (p + 1) ∧ tch T S (p + 1) ≤ 57
    · rw [if_pos b, if_pos rfl] at hk
      refine rn_1 hy (by omega) dy b (fun y2 hy2 dy2 gy2 => ?_)
      rw [rn_0 hy2 (Or.inl (by omega)) (by omega)]
      refine hk (by omega) y2 hy2 ?_ (fr_trans gG gy2)
      rw [dy2]
      exact congrArg nI (by omega)
    · rw [if_neg b, if_neg (by decide)] at hk
      rw [rn_0 hy (Or.inr b) (by omega)]
      refine hk (by omega) y hy ?_ gG
      rw [dy]
      exact congrArg nI (by omega)
  · rw [if_neg a] at h0 ⊢
    rw [if_pos rfl]
    exact h0 rfl
theorem mp_place {po : Int32 → Prop} {w : pa_S} (h : rx v T S p) : wp_X7_place w (nxv T S p) po = po (if le_i (tch T S p) < 6 then nI (le_i (tch T S p)) else -1) := by
  have ne : ∀ c : Nat, c ≤ 127 → (nxv T S p = nI c) = (tch T S p = c) := fun c hc => nx_eq h hc
  unfold wp_X7_place wb_X7_place_0 le_i
  by_cases h0 : tch T S p = 100
  · rw [if_pos (show nxv T S p = 100 by rw [show (100 : Int32) = nI 100 from rfl, ne 100 (by decide)]; exact h0), h0]
    rfl
  rw [if_neg (show ¬ nxv T S p = 100 by rw [show (100 : Int32) = nI 100 from rfl, ne 100 (by decide)]; exact h0)]
  by_cases h1 : tch T S p = 104
  · rw [if_pos (show nxv T S p = 104 by rw [show (104 : Int32) = nI 104 from rfl, ne 104 (by decide)]; exact h1), h1]
    rfl
  rw [if_neg (show ¬ nxv T S p = 104 by rw [show (104 : Int32) = nI 104 from rfl, ne 104 (by decide)]; exact h1)]
  by_cases h2 : tch T S p = 107
  · rw [if_pos (show nxv T S p = 107 by rw [show (107 : Int32) = nI 107 from rfl, ne 107 (by decide)]; exact h2), h2]
    rfl
  rw [if_neg (show ¬ nxv T S p = 107 by rw [show (107 : Int32) = nI 107 from rfl, ne 107 (by decide)]; exact h2)]
  by_cases h3 : tch T S p = 108
  · rw [if_pos (show nxv T S p = 108 by rw [show (108 : Int32) = nI 108 from rfl, ne 108 (by decide)]; exact h3), h3]
    rfl
  rw [if_neg (show ¬ nxv T S p = 108 by rw [show (108 : Int32) = nI 108 from rfl, ne 108 (by decide)]; exact h3)]
  by_cases h4 : tch T S p = 118
  · rw [if_pos (show nxv T S p = 118 by rw [show (118 : Int32) = nI 118 from rfl, ne 118 (by decide)]; exact h4), h4]
    rfl
  rw [if_neg (show ¬ nxv T S p = 118 by rw [show (118 : Int32) = nI 118 from rfl, ne 118 (by decide)]; exact h4)]
  by_cases h5 : tch T S p = 120
  · rw [if_pos (show nxv T S p = 120 by rw [show (120 : Int32) = nI 120 from rfl, ne 120 (by decide)]; exact h5), h5]
    rfl
  rw [if_neg (show ¬ nxv T S p = 120 by rw [show (120 : Int32) = nI 120 from rfl, ne 120 (by decide)]; exact h5), if_neg h1, if_neg h3, if_neg h2, if_neg h4, if_neg h5, if_neg h0, if_neg (by decide)]
/-! signs and what waits -/
def rB (v : pa_S) (b : Nat) (B : List (Nat × Nat)) : Prop := pa_I v 24 0 21 = nI (b + B.length) ∧ ∀ j t, B[j]? = some t → pa_A v 36 0 (b + j) = enc_t t
def rst (v : pa_S) : List Nat → Prop
  | [] => True
  | c :: W => pa_A v 37 0 W.length = nI c ∧ rst v W
def rW (v : pa_S) (W : List Nat) : Prop := pa_I v 24 0 22 = nI W.length ∧ rst v W ∧ pa_I v 24 0 23 = nI (gop W) ∧ ∀ c, c ∈ W → c = 33 ∨ c = 40 ∨ c = 38 ∨ c = 124
/-- signs below b stay -/
def lo_f (b : Nat) (v x : pa_S) : Prop := ∀ j, j < b → pa_A x 36 0 j = pa_A v 36 0 j
theorem lo_fr {P : Nat → Nat → Nat → Prop} {b : Nat} {v x : pa_S} (g : fr_of P v x) (h : ¬ P 36 0 100) : lo_f b v x := fun j _ => by rw [g.2.1 _ _ h]
theorem lo_trans {b : Nat} {v x y : pa_S} (h : lo_f b v x) (h2 : lo_f b x y) : lo_f b v y := fun j hj => (h2 j hj).trans (h j hj)
theorem rst_fr {v x : pa_S} (h : pa_A x 37 0 = pa_A v 37 0) : ∀ {W}, rst v W → rst x W
  | [], _ => trivial
  | c :: W, hr => ⟨by rw [h]; exact hr.1, rst_fr h hr.2⟩
theorem rst_up {v x : pa_S} {k : Nat} {c : Int32} (h : pa_A x 37 0 = upd (pa_A v 37 0) k c) : ∀ {W : List Nat}, W.length ≤ k → rst v W → rst x W
  | [], _, _ => trivial
  | d :: W, hk, hr => ⟨by rw [h, pw_upd, if_neg (by rw [List.length_cons] at hk; omega)]; exact hr.1, rst_up h (by rw [List.length_cons] at hk; omega) hr.2⟩
theorem rW_fr {P : Nat → Nat → Nat → Prop} {v x : pa_S} {W : List Nat} (g : fr_of P v x) (h1 : ¬ P 24 0 22) (h2 : ¬ P 24 0 23) (h3 : ¬ P 37 0 100) (h : rW v W) : rW x W :=
  ⟨by rw [g.1 _ _ _ h1]; exact h.1, rst_fr (g.2.1 _ _ h3) h.2.1, by rw [g.1 _ _ _ h2]; exact h.2.2.1, h.2.2.2⟩
theorem rB_fr {P : Nat → Nat → Nat → Prop} {v x : pa_S} {b : Nat} {B : List (Nat × Nat)} (g : fr_of P v x) (h1 : ¬ P 24 0 21) (h3 : ¬ P 36 0 100) (h : rB v b B) : rB x b B :=
  ⟨by rw [g.1 _ _ _ h1]; exact h.1, by rw [g.2.1 _ _ h3]; exact h.2⟩
theorem rx_fr {P : Nat → Nat → Nat → Prop} {v x : pa_S} (g : fr_of P v x) (h1 : ¬ P 24 0 10) (h2 : ¬ P 30 0 100) (h3 : ¬ P 38 0 100) (h4 : ¬ P 24 0 11) (h : rx v T S p) : rx x T S p :=
  ⟨rx_T_fr g h1 h2 h3 h.1, by rw [g.1 _ _ _ h4]; exact h.2.1, h.2.2⟩
theorem mp_emits {b : Nat} {B : List (Nat × Nat)} {t : Nat × Nat} {x : Int32} {po : pa_S → Prop} (h : rB v b B) (hx : x = enc_t t) (hb : b ≤ 500) (hB : B.length < 100)
    (hk : ∀ y, rB y b (B ++ [t]) → lo_f b v y → fr_of (fun t _ k => (t = 24 ∧ k = 21) ∨ t = 36) v y → po y) : wp_X7_emits v x po := by
  unfold wp_X7_emits wb_X7_emits_0
  rw [h.1, pw_and (vp_in_nI (by omega) (by omega)), nI_clamp (by omega)]
  intro u2 e2
  have g2 : fr_of (fun t _ _ => t = 36) v u2 := by rw [e2]; exact fr_sA rfl (fr_refl v)
  rw [g2.1 24 0 21 (by omega), h.1, pw_n1, nI_add]
  intro u3 e3
  have g3 : fr_of (fun t _ k => t = 24 ∧ k = 21) u2 u3 := by rw [e3]; exact fr_sI ⟨rfl, rfl⟩ (fr_refl u2)
  have a36 : pa_A u3 36 0 = upd (pa_A v 36 0) (b + B.length) x := by rw [g3.2.1 36 0 (by omega), e2, pa_A_sA_self]
  refine hk u3 ⟨?_, fun j s hj => ?_⟩ (fun j hj => ?_) (fr_trans (fr_mono (fun _ _ _ y => Or.inr y) g2) (fr_mono (fun _ _ _ y => Or.inl y) g3))
  · rw [e3, pI_sI, if_pos ⟨rfl, rfl, rfl⟩, List.length_append, List.length_singleton, Nat.add_assoc]
  · rw [a36, pw_upd]
    by_cases q : j = B.length
    · subst q
      rw [List.getElem?_append_right (Nat.le_refl _), Nat.sub_self] at hj
      obtain rfl : t = s := Option.some.inj hj
      rw [if_pos rfl, hx]
    · rw [if_neg (by omega)]
      by_cases q2 : j < B.length
      · rw [List.getElem?_append_left q2] at hj
        exact h.2 j s hj
      · rw [List.getElem?_eq_none (by rw [List.length_append, List.length_singleton]; omega)] at hj
        exact absurd hj (by simp)
  · rw [a36, pw_upd, if_neg (by omega)]
/-- all that reading an E rests on -/
def rE (v : pa_S) (T : Nat → Nat) (S p b : Nat) (B : List (Nat × Nat)) (W : List Nat) : Prop := rx v T S p ∧ rB v b B ∧ rW v W
theorem rE_pop {b : Nat} {B : List (Nat × Nat)} {c : Nat} {W : List Nat} {x : pa_S} (h : rE v T S p b B (c :: W)) (g : fr_of (fun t _ k => t = 24 ∧ k = 22) v x) (hx : pa_I x 24 0 22 = nI W.length) (hc : c = 38 ∨ c = 124) : rE x T S p b B W := by
  obtain ⟨h1, h2, h3, h4, h5, h6⟩ := h
  refine ⟨rx_fr g (by omega) (by omega) (by omega) (by omega) h1, rB_fr g (by omega) (by omega) h2, hx, rst_fr (g.2.1 37 0 (by omega)) h4.2, ?_, fun d hd => h6 d (List.mem_cons_of_mem _ hd)⟩
  rw [g.1 24 0 23 (by omega), h5]
  show nI ((if c = 33 ∨ c = 40 then 1 else 0) + gop W) = _
  rw [if_neg (by omega), Nat.zero_add]
theorem rE_pop1 {b : Nat} {B : List (Nat × Nat)} {c : Nat} {W : List Nat} {x y : pa_S} (h : rE v T S p b B (c :: W)) (g : fr_of (fun t _ k => t = 24 ∧ k = 22) v x) (hx : pa_I x 24 0 22 = nI W.length) (e : y = pa_sI x 24 0 23 (nI (gop W))) : rE y T S p b B W ∧ fr_of (fun t _ k => t = 24 ∧ (k = 22 ∨ k = 23)) v y := by
  obtain ⟨h1, h2, h3, h4, h5, h6⟩ := h
  have g2 : fr_of (fun t _ k => t = 24 ∧ k = 23) x y := by rw [e]; exact fr_sI ⟨rfl, rfl⟩ (fr_refl x)
  have G : fr_of (fun t _ k => t = 24 ∧ (k = 22 ∨ k = 23)) v y := fr_trans (fr_mono (fun _ _ _ y => ⟨y.1, Or.inl y.2⟩) g) (fr_mono (fun _ _ _ y => ⟨y.1, Or.inr y.2⟩) g2)
  exact ⟨⟨rx_fr G (by omega) (by omega) (by omega) (by omega) h1, rB_fr G (by omega) (by omega) h2, by rw [g2.1 24 0 22 (by omega)]; exact hx, rst_fr (G.2.1 37 0 (by omega)) h4.2, by rw [e, pI_sI, if_pos ⟨rfl, rfl, rfl⟩], fun d hd => h6 d (List.mem_cons_of_mem _ hd)⟩, G⟩
theorem rE_emit {b : Nat} {B : List (Nat × Nat)} {t : Nat × Nat} {W : List Nat} {x : Int32} {po : pa_S → Prop} (h : rE v T S p b B W) (hx : x = enc_t t) (hb : b ≤ 500) (hB : B.length < 100)
    (hk : ∀ y, rE y T S p b (B ++ [t]) W → lo_f b v y → fr_of fp_e7 v y → po y) : wp_X7_emits v x po :=
  mp_emits h.2.1 hx hb hB (fun y h1 h2 h3 => hk y ⟨rx_fr h3 (by omega) (by omega) (by omega) (by omega) h.1, h1, rW_fr h3 (by omega) (by omega) (by omega) h.2.2⟩ h2 (fr_mono (fun t i k y => by unfold fp_e7; omega) h3))
theorem r_settle {b s : Nat} {x1 : Int32} {po : pa_S → Prop} (hs : x1 = nI s) (hs2 : s = 38 ∨ s = 124) (hb : b ≤ 500) (B1 : List (Nat × Nat)) : ∀ (W : List Nat) (o : List (Nat × Nat)) (f : Nat) (v : pa_S), W.length < f → B1.length + o.length + W.length ≤ 100 → rE v T S p b (B1 ++ o) W →
    (∀ x, rE x T S p b (B1 ++ (gse s W o).2) (gse s W o).1 → (gse s W o).2.length + (gse s W o).1.length = o.length + W.length → lo_f b v x → fr_of fp_e7 v x → po x) → wl_X7_settle_0 po f v x1 := by
  intro W
  subst hs
  induction W with
  | nil =>
    intro o f v hf hl h hk
    obtain ⟨f, rfl⟩ : ∃ g, f = g + 1 := ⟨f - 1, by omega⟩
    unfold wl_X7_settle_0 wb_X7_settle_0
    rw [h.2.2.1, if_pos (by decide)]
    exact hk v h rfl (fun _ _ => rfl) (fr_refl v)
  | cons c W ih =>
    intro o f v hf hl h hk
    rw [List.length_cons] at hf hl
    obtain ⟨f, rfl⟩ : ∃ g, f = g + 1 := ⟨f - 1, by omega⟩
    have hc := h.2.2.2.2.2 c List.mem_cons_self
    have hw : pa_I v 24 0 22 = nI (W.length + 1) := h.2.2.1
    have ht : pa_A v 37 0 W.length = nI c := h.2.2.2.1.1
    unfold wl_X7_settle_0 wb_X7_settle_0
    rw [hw, if_neg (show ¬ nI (W.length + 1) ≤ 0 from nI_nle (by omega) (by omega)), show nI (W.length + 1) - 1 = nI W.length from nI_pred _, pw_and (vp_in_nI (by omega) (by omega)), nI_clamp (by omega), ht]
    have go : (c = 38 ∨ c = 124) → ∀ t : Nat × Nat, -(nI c) = enc_t t → gse s (c :: W) o = gse s W (o ++ [t]) → wb_X7_settle_45 (fun u0 x1 => wl_X7_settle_0 po f u0 x1) v (nI s) po := by
      intro hc2 t htt hg
      rw [hg] at hk
      unfold wb_X7_settle_45
      rw [hw, show nI (W.length + 1) - 1 = nI W.length from nI_pred _]
      intro u4 e4
      have g4 : fr_of (fun t _ k => t = 24 ∧ k = 22) v u4 := by rw [e4]; exact fr_sI ⟨rfl, rfl⟩ (fr_refl v)
      have w4 : pa_I u4 24 0 22 = nI W.length := by rw [e4, pI_sI, if_pos ⟨rfl, rfl, rfl⟩]
      have h4 := rE_pop h g4 w4 hc2
      rw [w4, pw_and (vp_in_nI (by omega) (by omega)), nI_clamp (by omega), g4.2.1 37 0 (by omega), ht]
      refine rE_emit h4 htt hb (by rw [List.length_append]; omega) (fun y hy ly gy => ?_)
      rw [List.append_assoc] at hy
      have G : fr_of fp_e7 v y := fr_trans (fr_mono (fun t i k y => by unfold fp_e7; omega) g4) gy
      refine ih (o ++ [t]) f y (by omega) (by rw [List.length_append, List.length_singleton]; omega) hy (fun x hx hlx lx gx => hk x hx (by rw [hlx, List.length_append, List.length_singleton, List.length_cons]; omega) (lo_trans (lo_trans (lo_fr g4 (by omega)) ly) lx) (fr_trans G gx))
    by_cases q : c = 38
    · subst q
      rw [if_pos (by decide)]
      exact go (Or.inl rfl) (19, 0) (by decide) gse_and
    · rw [if_neg (show ¬ nI c = 38 from fun y => q ((nI_eq (b := 38) (by omega) (by omega)).mp y)), pw_and (vp_in_nI (by omega) (by omega))]
      by_cases q2 : c = 124
      · subst q2
        rw [if_pos (by decide)]
        by_cases q3 : s = 38
        · subst q3
          rw [if_pos (by decide)]
          rw [gse_or0] at hk
          exact hk v h rfl (fun _ _ => rfl) (fr_refl v)
        · rw [if_neg (show ¬ nI s = 38 from fun y => q3 ((nI_eq (b := 38) (by omega) (by omega)).mp y))]
          exact go (Or.inr rfl) (20, 0) (by decide) (gse_or q3)
      · rw [if_neg (show ¬ nI c = 124 from fun y => q2 ((nI_eq (b := 124) (by omega) (by omega)).mp y))]
        rw [gse_no q q2] at hk
        exact hk v h rfl (fun _ _ => rfl) (fr_refl v)
theorem r_whole {b : Nat} {po : pa_S → Prop} {R : Bool × Nat × List (Nat × Nat)} (hb : b ≤ 500) (B1 : List (Nat × Nat)) : ∀ (W : List Nat) (o : List (Nat × Nat)) (f : Nat) (v : pa_S), W.length < f → B1.length + o.length + W.length ≤ 100 → rE v T S p b (B1 ++ o) W → gR T S W p o 1 R →
    (∀ W' o' x, gR T S W' p o' 2 R → rE x T S p b (B1 ++ o') W' → o'.length + W'.length = o.length + W.length → lo_f b v x → fr_of fp_e7 v x → po x) → wl_X7_whole_0 po f v := by
  intro W
  induction W with
  | nil =>
    intro o f v hf hl h hR hk
    obtain ⟨f, rfl⟩ : ∃ g, f = g + 1 := ⟨f - 1, by omega⟩
    obtain ⟨n, hn⟩ := hR
    rcases n with _ | n
    · exact absurd hn (by unfold gm; simp)
    unfold wl_X7_whole_0 wb_X7_whole_0
    rw [h.2.2.1, if_pos (by decide)]
    exact hk [] o v ⟨n, hn⟩ h rfl (fun _ _ => rfl) (fr_refl v)
  | cons c W ih =>
    intro o f v hf hl h hR hk
    rw [List.length_cons] at hf hl
    obtain ⟨f, rfl⟩ : ∃ g, f = g + 1 := ⟨f - 1, by omega⟩
    obtain ⟨n, hn⟩ := hR
    rcases n with _ | n
    · exact absurd hn (by unfold gm; simp)
    have hc := h.2.2.2.2.2 c List.mem_cons_self
    have hw : pa_I v 24 0 22 = nI (W.length + 1) := h.2.2.1
    have ht : pa_A v 37 0 W.length = nI c := h.2.2.2.1.1
    unfold wl_X7_whole_0 wb_X7_whole_0
    rw [hw, if_neg (show ¬ nI (W.length + 1) ≤ 0 from nI_nle (by omega) (by omega)), show nI (W.length + 1) - 1 = nI W.length from nI_pred _, pw_and (vp_in_nI (by omega) (by omega)), nI_clamp (by omega), ht]
    have hn : (if (c :: W).head? = some 33 then gm T S n (c :: W).tail p (o ++ [(18, 0)]) 1 else gm T S n (c :: W) p o 2) = some R := hn
    by_cases q : c = 33
    · subst q
      rw [if_pos (show (33 :: W).head? = some 33 from rfl)] at hn
      rw [if_pos (by decide)]
      refine rE_emit (t := (18, 0)) h (by decide) hb (by rw [List.length_append]; omega) (fun y hy ly gy => ?_)
      have hwy : pa_I y 24 0 22 = nI (W.length + 1) := hy.2.2.1
      rw [hwy, show nI (W.length + 1) - 1 = nI W.length from nI_pred _]
      intro u6 e6
      have g6 : fr_of (fun t _ k => t = 24 ∧ k = 22) y u6 := by rw [e6]; exact fr_sI ⟨rfl, rfl⟩ (fr_refl y)
      have w6 : pa_I u6 24 0 22 = nI W.length := by rw [e6, pI_sI, if_pos ⟨rfl, rfl, rfl⟩]
      have o6 : pa_I u6 24 0 23 = nI (1 + gop W) := by rw [g6.1 24 0 23 (by omega)]; exact hy.2.2.2.2.1
      rw [o6, show nI (1 + gop W) - 1 = nI (gop W) from pk_sub (b := 1) (by omega) |>.trans (congrArg nI (by omega))]
      intro u7 e7
      have h7 := rE_pop1 hy g6 w6 e7
      have h7' := h7.1
      rw [List.append_assoc] at h7'
      have G : fr_of fp_e7 y u7 := fr_mono (fun t i k y => by unfold fp_e7; omega) h7.2
      exact ih (o ++ [(18, 0)]) f u7 (by omega) (by rw [List.length_append, List.length_singleton]; omega) h7' ⟨n, hn⟩ (fun W' o' x hg hx hlx lx gx => hk W' o' x hg hx (by rw [hlx, List.length_append, List.length_singleton, List.length_cons]; omega) (lo_trans (lo_trans ly (lo_fr h7.2 (by omega))) lx) (fr_trans gy (fr_trans G gx)))
    · rw [if_neg (show ¬ (c :: W).head? = some 33 from fun y => q (Option.some.inj y))] at hn
      rw [if_neg (show ¬ nI c = 33 from fun y => q ((nI_eq (b := 33) (by omega) (by omega)).mp y))]
      exact hk (c :: W) o v ⟨n, hn⟩ h rfl (fun _ _ => rfl) (fr_refl v)
end REFT
