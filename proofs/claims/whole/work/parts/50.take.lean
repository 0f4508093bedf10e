/-! what the class's text takes -/
def fp_x (t i k : Nat) : Prop := (t = 10 ∧ (k = 4 ∨ k = 5)) ∨ t = 12 ∨ t = 13
def fp_y (t i k : Nat) : Prop := t = 10 ∧ k = 4
theorem fp_yx {t i k : Nat} (h : fp_y t i k) : fp_x t i k := by unfold fp_y at h; unfold fp_x; omega
def tx_T (u : pa_S) (T : Nat → Nat) (S : Nat) : Prop := pa_I u 10 0 3 = nI S ∧ S ≤ 100 ∧ ∀ j, j < S → T j ≤ 127 ∧ pa_A u 11 0 j = nI (T j)
def tx_B (u : pa_S) (B : List (Nat × Nat)) : Prop := pa_I u 10 0 5 = nI B.length ∧ ∀ j t, B[j]? = some t → pa_A u 12 0 j = nI t.1 ∧ pa_A u 13 0 j = nI t.2
def tx (u : pa_S) (T : Nat → Nat) (S p : Nat) (B : List (Nat × Nat)) : Prop := tx_T u T S ∧ pa_I u 10 0 4 = nI p ∧ p ≤ S ∧ tx_B u B
theorem tx_T_fr {P : Nat → Nat → Nat → Prop} {u v : pa_S} {T : Nat → Nat} {S : Nat} (g : fr_of P u v) (h1 : ¬ P 10 0 3) (h2 : ¬ P 11 0 100) (h : tx_T u T S) : tx_T v T S := by
  unfold tx_T
  rw [g.1 _ _ _ h1, g.2.1 _ _ h2]
  exact h
section TAKE
variable {u : pa_S} {T : Nat → Nat} {S p : Nat} {B : List (Nat × Nat)}
theorem tch_lt {c : Nat} (h : tch T S p = c) (hc : c ≤ 127) : p < S ∧ T p = c := by
  unfold tch at h
  by_cases q : p < S
  · rw [if_pos q] at h; exact ⟨q, h⟩
  · rw [if_neg q] at h; omega
theorem tx_at (h : tx u T S p B) {v : pa_S} {x : Nat} (e : v = pa_sI u 10 0 4 (nI x)) (hx : x ≤ S) : tx v T S x B ∧ fr_of fp_y u v := by
  have g : fr_of fp_y u v := by rw [e]; exact fr_sI ⟨rfl, rfl⟩ (fr_refl u)
  obtain ⟨h1, h2, h3, h4, h5⟩ := h
  refine ⟨⟨tx_T_fr g (by unfold fp_y; omega) (by unfold fp_y; omega) h1, by rw [e, pI_sI, if_pos ⟨rfl, rfl, rfl⟩], hx, ?_, ?_⟩, g⟩
  · rw [g.1 10 0 5 (by unfold fp_y; omega)]; exact h4
  · rw [g.2.1 12 0 (by unfold fp_y; omega), g.2.1 13 0 (by unfold fp_y; omega)]; exact h5
theorem tk_1 {c : Nat} {x : Int32} {po : Int32 → pa_S → Prop} (h : tx u T S p B) (hx : x = nI c) (hc : tch T S p = c) (h127 : c ≤ 127) (hk : ∀ v, tx v T S (p + 1) B → fr_of fp_y u v → po 1 v) : wp_X5_take u x po := by
  obtain ⟨l1, l2⟩ := tch_lt hc h127
  have h1 := h.1
  unfold wp_X5_take wb_X5_take_0
  rw [h.2.1, if_neg (nI_pos (by have := h1.2.1; omega)), h1.1, if_neg (nI_ge l1 (by have := h1.2.1; omega)), if_neg (show ¬ (100 : Int32) ≤ nI p from nI_ge (b := 100) (by have := h1.2.1; omega) (by omega)), pw_and (vp_in_nI (by have := h1.2.1; omega) (by omega)), nI_clamp (by have := h1.2.1; omega), (h1.2.2 p l1).2, l2, if_pos hx.symm, pw_n1, nI_add]
  intro v e
  have := tx_at h e (by omega)
  exact hk v this.1 this.2
theorem tk_0 {c : Nat} {x : Int32} {po : Int32 → pa_S → Prop} (h : tx u T S p B) (hx : x = nI c) (hc : tch T S p ≠ c) (h127 : c ≤ 127) : wp_X5_take u x po = po 0 u := by
  have h1 := h.1
  have hp := h.2.2.1
  have hS := h1.2.1
  unfold wp_X5_take wb_X5_take_0
  rw [h.2.1, if_neg (nI_pos (by omega)), h1.1]
  by_cases l1 : p < S
  · have hT := (h1.2.2 p l1).1
    rw [if_neg (nI_ge l1 (by omega)), if_neg (show ¬ (100 : Int32) ≤ nI p from nI_ge (b := 100) (by omega) (by omega)), pw_and (vp_in_nI (by omega) (by omega)), nI_clamp (by omega), (h1.2.2 p l1).2, if_neg]
    rw [hx]
    intro q
    have := (nI_eq (by omega) (by omega)).mp q
    unfold tch at hc
    rw [if_pos l1] at hc
    exact hc this
  · rw [if_pos (nI_le (by omega) (by omega))]
theorem em_1 {c n : Nat} {po : Int32 → pa_S → Prop} (h : tx u T S p B) (hB : B.length < 100) (hk : ∀ v, tx v T S p (B ++ [(c, n)]) → fr_of fp_x u v → po 1 v) : wp_X5_emit u (nI c) (nI n) po := by
  obtain ⟨h1, h2, h3, h4, h5⟩ := h
  unfold wp_X5_emit wb_X5_emit_0
  rw [h4, if_neg (show ¬ (100 : Int32) ≤ nI B.length from nI_ge (b := 100) (by omega) (by omega)), if_pos (show nI B.length < 100 from nI_lt (b := 100) (by omega) (by omega)), pw_and (vp_in_nI (by omega) (by omega)), nI_clamp (by omega)]
  intro u4 e4
  have g4 : fr_of (fun t _ _ => t = 12) u u4 := by rw [e4]; exact fr_sA rfl (fr_refl u)
  rw [g4.1 10 0 5 (by omega), h4, pw_and (vp_in_nI (by omega) (by omega)), nI_clamp (by omega)]
  intro u6 e6
  have g6 : fr_of (fun t _ _ => t = 13) u4 u6 := by rw [e6]; exact fr_sA rfl (fr_refl u4)
  rw [g6.1 10 0 5 (by omega), g4.1 10 0 5 (by omega), h4, pw_n1, nI_add]
  intro u7 e7
  have g7 : fr_of (fun t _ k => t = 10 ∧ k = 5) u6 u7 := by rw [e7]; exact fr_sI ⟨rfl, rfl⟩ (fr_refl u6)
  have G : fr_of (fun t _ k => (t = 10 ∧ k = 5) ∨ t = 12 ∨ t = 13) u u7 := fr_trans (fr_mono (fun t _ k y => by omega) g4) (fr_trans (fr_mono (fun t _ k y => by omega) g6) (fr_mono (fun t _ k y => by omega) g7))
  have a12 : pa_A u7 12 0 = upd (pa_A u 12 0) B.length (nI c) := by rw [g7.2.1 12 0 (by omega), g6.2.1 12 0 (by omega), e4, pa_A_sA_self]
  have a13 : pa_A u7 13 0 = upd (pa_A u 13 0) B.length (nI n) := by rw [g7.2.1 13 0 (by omega), e6, pa_A_sA_self, g4.2.1 13 0 (by omega)]
  refine hk u7 ⟨tx_T_fr G (by omega) (by omega) h1, ?_, h3, ?_, fun j t hj => ?_⟩ (fr_mono (fun t _ k y => by unfold fp_x; omega) G)
  · rw [G.1 10 0 4 (by omega)]; exact h2
  · rw [e7, pI_sI, if_pos ⟨rfl, rfl, rfl⟩, List.length_append, List.length_singleton]
  · rw [a12, a13, pw_upd, pw_upd]
    by_cases q : j = B.length
    · subst q
      rw [List.getElem?_append_right (Nat.le_refl _), Nat.sub_self] at hj
      obtain rfl : (c, n) = t := Option.some.inj hj
      rw [if_pos rfl, if_pos rfl]
      exact ⟨rfl, rfl⟩
    · rw [if_neg q, if_neg q]
      by_cases q2 : j < B.length
      · rw [List.getElem?_append_left q2] at hj
        exact h5 j t hj
      · rw [List.getElem?_eq_none (by rw [List.length_append, List.length_singleton]; omega)] at hj
        exact absurd hj (by simp)
/-- one digit more, or none -/
theorem tn_1 {i f : Nat} {x : Int32} {po : Int32 → pa_S → Prop} (h : tx u T S p B) (hi : i < 2) (hc : 48 ≤ tch T S p ∧ tch T S p ≤ 57) (hk : ∀ v, tx v T S (p + 1) B → fr_of fp_y u v → wl_X5_takeNumber_4 po f v (pa_max 0 x * 10 + nI (tch T S p - 48)) (nI (i + 1))) : wl_X5_takeNumber_4 po (f + 1) u x (nI i) := by
  obtain ⟨l1, l2⟩ := tch_lt rfl (show tch T S p ≤ 127 by omega)
  have h1 := h.1
  have hS := h1.2.1
  unfold wl_X5_takeNumber_4 wb_X5_takeNumber_4
  rw [h.2.1, if_neg (show ¬ (2 : Int32) ≤ nI i from nI_ge (b := 2) (by omega) (by omega)), if_neg (nI_pos (by omega)), h1.1, if_neg (nI_ge l1 (by omega)), if_neg (show ¬ (100 : Int32) ≤ nI p from nI_ge (b := 100) (by omega) (by omega)), pw_and (vp_in_nI (by omega) (by omega)), nI_clamp (by omega), (h1.2.2 p l1).2, l2, show nI (tch T S p) - 48 = nI (tch T S p - 48) from pk_sub (b := 48) (by omega)]
  intro v6 e6
  subst e6
  rw [if_neg (nI_pos (by omega)), if_pos (show nI (tch T S p - 48) ≤ 9 from nI_le (b := 9) (by omega) (by omega))]
  intro v9 e9 v e v11 e11
  subst e9 e11
  rw [pw_n1, nI_add] at e
  rw [pw_n1, nI_add]
  have := tx_at h e (by omega)
  exact hk v this.1 this.2
theorem tn_0 {i f : Nat} {x : Int32} {po : Int32 → pa_S → Prop} (h : tx u T S p B) (hc : 2 ≤ i ∨ ¬ (48 ≤ tch T S p ∧ tch T S p ≤ 57)) (hi : i ≤ 2) : wl_X5_takeNumber_4 po (f + 1) u x (nI i) = po x u := by
  have h1 := h.1
  have hp := h.2.2.1
  have hS := h1.2.1
  unfold wl_X5_takeNumber_4 wb_X5_takeNumber_4
  by_cases q : 2 ≤ i
  · rw [if_pos (show (2 : Int32) ≤ nI i from nI_le (a := 2) (by omega) (by omega))]
  have hc : ¬ (48 ≤ tch T S p ∧ tch T S p ≤ 57) := by rcases hc with y | y; exact absurd y q; exact y
  rw [h.2.1, if_neg (show ¬ (2 : Int32) ≤ nI i from nI_ge (b := 2) (by omega) (by omega)), if_neg (nI_pos (by omega)), h1.1]
  by_cases l1 : p < S
  · have hT := (h1.2.2 p l1).1
    have ht : tch T S p = T p := if_pos l1
    rw [if_neg (nI_ge l1 (by omega)), if_neg (show ¬ (100 : Int32) ≤ nI p from nI_ge (b := 100) (by omega) (by omega)), pw_and (vp_in_nI (by omega) (by omega)), nI_clamp (by omega), (h1.2.2 p l1).2]
    simp only [forall_eq]
    rw [ht] at hc
    by_cases q1 : T p < 48
    · rw [if_pos (show nI (T p) - 48 < 0 from pk_sneg (b := 48) (by omega) q1)]
    · have e : nI (T p) - 48 = nI (T p - 48) := pk_sub (b := 48) (by omega)
      rw [e, if_neg (nI_pos (by omega)), if_neg (show ¬ nI (T p - 48) ≤ 9 from nI_ge (a := 9) (by omega) (by omega))]
  · rw [if_pos (nI_le (by omega) (by omega))]
theorem tn_n {po : Int32 → pa_S → Prop} (h : tx u T S p B) (h0 : nu_k T S p = 0 → po (-1) u) (hk : nu_k T S p ≠ 0 → ∀ v, tx v T S (p + nu_k T S p) B → fr_of fp_y u v → po (nI (nu_v T S p)) v) : wp_X5_takeNumber u po := by
  unfold wp_X5_takeNumber wb_X5_takeNumber_0
  show wl_X5_takeNumber_4 po (4997 + 1 + 1 + 1) u (-1) (nI 0)
  unfold nu_v at hk
  unfold nu_k at h0 hk
  by_cases a : 48 ≤ tch T S p ∧ tch T S p ≤ 57
  · rw [if_pos a] at hk
    refine tn_1 h (by omega) a (fun v hv gv => ?_)
    rw [show pa_max 0 (-1) * 10 + nI (tch T S p - 48) = nI (tch T S p - 48) from by rw [show pa_max 0 (-1) = 0 by decide, Int32.zero_mul, Int32.zero_add]]
    by_cases b : 48 ≤ tch T S (p + 1) ∧ tch T S (p + 1) ≤ 57
    · rw [if_pos b, if_pos rfl] at hk
      refine tn_1 hv (by omega) b (fun v2 hv2 gv2 => ?_)
      rw [tn_0 hv2 (Or.inl (by omega)) (by omega), pw_n0, pw_max (by omega) (by omega), pw_n10, pk_mul, nI_add, show max 0 (tch T S p - 48) * 10 + (tch T S (p + 1) - 48) = 10 * (tch T S p - 48) + (tch T S (p + 1) - 48) by omega]
      exact hk (by omega) v2 hv2 (fr_trans gv gv2)
    · rw [if_neg b, if_neg (by decide)] at hk
      rw [tn_0 hv (Or.inr b) (by omega)]
      exact hk (by omega) v hv gv
  · rw [if_neg a] at h0
    rw [tn_0 h (Or.inr a) (by omega)]
    exact h0 rfl
/-! words -/
def gwd (T : Nat → Nat) (S : Nat) : List Nat → Nat → Bool × Nat
  | [], p => (true, p)
  | c :: cs, p => if tch T S p = c then gwd T S cs (p + 1) else (false, p)
def st_ok (i0 : Nat) (L : List Nat) : Prop := pa_slen.getD i0 0 = L.length ∧ L.length ≤ 20 ∧ ∀ j, j < L.length → (pa_sbyt.getD i0 []).getD j 0 = nI (L.getD j 0) ∧ L.getD j 0 ≤ 127
theorem pw_ch {c : Nat} (h : c ≤ 127) : ((nI c &&& 255).toUInt32 % 65536).toInt32 = nI c ∧ ((nI c).toUInt32 % 65536).toInt32 = nI c ∧ (nI c).toInt8.toInt32 = nI c :=
  (by decide : ∀ c : Fin 128, ((nI c.val &&& 255).toUInt32 % 65536).toInt32 = nI c.val ∧ ((nI c.val).toUInt32 % 65536).toInt32 = nI c.val ∧ (nI c.val).toInt8.toInt32 = nI c.val) ⟨c, by omega⟩
theorem st_len {i0 : Nat} {L : List Nat} {po : Int32 → Prop} (h : st_ok i0 L) : wp_J0_length_8abf5 u i0 po = po (nI L.length) := by
  have e : ∀ n : Fin 21, (nI n.val >>> ((0 : Int32) &&& 31)) = nI n.val := by decide
  unfold wp_J0_length_8abf5 wb_J0_length_8abf5_0 wp_J0_coder_7d493 wb_J0_coder_7d493_0
  dsimp only
  have e2 : nI L.length >>> ((0 : Int32) &&& 31) = nI L.length := e ⟨L.length, by have := h.2.1; omega⟩
  rw [h.1, e2]
theorem st_char {i0 j : Nat} {L : List Nat} {po : Int32 → Prop} (h : st_ok i0 L) (hj : j < L.length) : wp_J0_charAt_5068e u i0 (nI j) po = po (nI (L.getD j 0)) := by
  have hl := h.2.1
  have hc := h.2.2 j hj
  unfold wp_J0_charAt_5068e wb_J0_charAt_5068e_0 wp_J0_isLatin1_aae02 wb_J0_isLatin1_aae02_0
  dsimp only
  rw [if_neg (by decide)]
  unfold wp_J1_charAt_3b067 wb_J1_charAt_3b067_0 wp_J0_checkIndex_df160 wp_J3_checkIndex_8e157 wb_J3_checkIndex_8e157_0
  rw [h.1, if_neg (nI_pos (by omega)), if_pos (nI_lt hj (by omega)), nI_clamp (by omega), hc.1, (pw_ch hc.2).1, pw_and (vp_in_nI hj (by omega)), pw_and (pk_charN (by omega)).1]
  dsimp only
  exact pw_and (pk_charN (by omega)).1
theorem sl_takeAll {i0 : Nat} {L : List Nat} {po : Int32 → pa_S → Prop} (hL : st_ok i0 L) : ∀ (k f j p : Nat) (u : pa_S), j + k = L.length → k < f → tx u T S p B →
    (∀ q v, gwd T S (L.drop j) p = (false, q) → tx v T S q B → fr_of fp_y u v → po 0 v) → (∀ q v, gwd T S (L.drop j) p = (true, q) → tx v T S q B → fr_of fp_y u v → po 1 v) → wl_X5_takeAll_2 i0 po f u (nI j) := by
  intro k
  have hl := hL.2.1
  induction k with
  | zero =>
    intro f j p u eq hlt h h0 h1
    obtain ⟨f, rfl⟩ : ∃ g, f = g + 1 := ⟨f - 1, by omega⟩
    unfold wl_X5_takeAll_2 wb_X5_takeAll_2
    rw [st_len hL, if_pos (nI_le (by omega) (by omega))]
    exact h1 p u (by rw [List.drop_eq_nil_of_le (by omega)]; rfl) h (fr_refl u)
  | succ k ih =>
    intro f j p u eq hlt h h0 h1
    obtain ⟨f, rfl⟩ : ∃ g, f = g + 1 := ⟨f - 1, by omega⟩
    have hj : j < L.length := by omega
    have hd : L.drop j = L.getD j 0 :: L.drop (j + 1) := by
      rw [List.drop_eq_getElem_cons hj, List.getD_eq_getElem?_getD, List.getElem?_eq_getElem hj]
      rfl
    rw [hd] at h0 h1
    have hc := (hL.2.2 j hj).2
    unfold wl_X5_takeAll_2 wb_X5_takeAll_2
    rw [st_len hL, if_neg (nI_ge hj (by omega)), st_char hL hj]
    by_cases q : tch T S p = L.getD j 0
    · refine tk_1 h rfl q hc (fun v hv gv => ?_)
      rw [if_neg (by decide)]
      simp only [forall_eq, pw_n1, nI_add]
      refine ih f (j + 1) (p + 1) v (by omega) (by omega) hv (fun q2 x hq hx gx => h0 q2 x ?_ hx (fr_trans gv gx)) (fun q2 x hq hx gx => h1 q2 x ?_ hx (fr_trans gv gx))
      all_goals (unfold gwd; rw [if_pos q]; exact hq)
    · rw [tk_0 h rfl q hc, if_pos rfl]
      exact h0 p u (by unfold gwd; rw [if_neg q]) h (fr_refl u)
theorem sp_takeAll {i0 : Nat} {L : List Nat} {po : Int32 → pa_S → Prop} (hL : st_ok i0 L) (h : tx u T S p B)
    (h0 : ∀ q v, gwd T S L p = (false, q) → tx v T S q B → fr_of fp_y u v → po 0 v) (h1 : ∀ q v, gwd T S L p = (true, q) → tx v T S q B → fr_of fp_y u v → po 1 v) : wp_X5_takeAll u i0 po := by
  have hl := hL.2.1
  unfold wp_X5_takeAll wb_X5_takeAll_0
  rw [pw_n0]
  exact sl_takeAll hL L.length 5000 0 p u (by omega) (by omega) h h0 h1
/-! one of several -/
def ixo (L : List Nat) (c : Nat) : Nat → Nat → Int32
  | 0, _ => -1
  | k + 1, j => if L.getD j 0 = c then nI j else ixo L c k (j + 1)
theorem sl_ixo {i0 c : Nat} {L : List Nat} {po : Int32 → Prop} (hL : st_ok i0 L) (hc : c ≤ 127) : ∀ (k f j : Nat), j + k = L.length → k < f → wl_J1_indexOfChar_4cfef_7 i0 po u f (nI L.length) (nI c) (nI j) = po (ixo L c k j) := by
  intro k
  have hl := hL.2.1
  induction k with
  | zero =>
    intro f j eq hlt
    obtain ⟨f, rfl⟩ : ∃ g, f = g + 1 := ⟨f - 1, by omega⟩
    unfold wl_J1_indexOfChar_4cfef_7 wb_J1_indexOfChar_4cfef_7
    rw [if_pos (nI_le (by omega) (by omega))]
    rfl
  | succ k ih =>
    intro f j eq hlt
    obtain ⟨f, rfl⟩ : ∃ g, f = g + 1 := ⟨f - 1, by omega⟩
    have hj : j < L.length := by omega
    have h := hL.2.2 j hj
    unfold wl_J1_indexOfChar_4cfef_7 wb_J1_indexOfChar_4cfef_7
    rw [if_neg (nI_ge hj (by omega)), hL.1, pw_and (vp_in_nI hj (by omega)), nI_clamp (by omega), h.1]
    unfold ixo
    by_cases q : L.getD j 0 = c
    · rw [if_pos (by rw [q]), if_pos q]
    · rw [if_neg (fun y => q ((nI_eq (by omega) (by omega)).mp y)), if_neg q]
      simp only [forall_eq, pw_n1, nI_add]
      exact ih f (j + 1) (by omega) (by omega)
theorem sp_ixo {i0 c : Nat} {L : List Nat} {po : Int32 → Prop} (hL : st_ok i0 L) (hc : c ≤ 127) (h0 : 0 < L.length) : wp_J0_indexOf_0f7a4 u i0 (nI c) po = po (ixo L c L.length 0) := by
  have hl := hL.2.1
  unfold wp_J0_indexOf_0f7a4 wb_J0_indexOf_0f7a4_0 wp_J0_indexOf_7cf53 wb_J0_indexOf_7cf53_0 wp_J0_isLatin1_aae02 wb_J0_isLatin1_aae02_0
  have ce : ∀ po : Int32 → Prop, wp_J1_canEncode_9a6ad u (nI c) po = po 1 := fun po => by
    unfold wp_J1_canEncode_9a6ad wb_J1_canEncode_9a6ad_0
    rw [if_neg (nI_pos (by omega)), if_neg (show ¬ (255 : Int32) < nI c from nI_nlt (a := 255) (by omega) (by omega))]
  dsimp only
  rw [if_neg (by decide), st_len hL]
  unfold wp_J1_indexOf_4cfef wb_J1_indexOf_4cfef_0
  rw [ce, if_neg (by decide)]
  simp only [forall_eq]
  rw [hL.1, pw_min (by omega) (by omega), show pa_max 0 0 = nI 0 by decide, Nat.min_self, if_pos (nI_lt h0 (by omega))]
  unfold wp_J1_indexOfChar_4cfef wb_J1_indexOfChar_4cfef_0
  simp only [forall_eq]
  rw [(pw_ch hc).2.2]
  exact sl_ixo hL hc L.length 5000 0 (by omega) (by omega)
def st_0 : List Nat := [104, 108, 107, 118, 120, 100]
def st_6 : List Nat := [60, 61, 62]
theorem st_ok0 : st_ok 0 st_0 := ⟨rfl, by decide, by unfold st_0; decide⟩
theorem st_ok1 : st_ok 1 [111, 111, 109, 32] := ⟨rfl, by decide, by decide⟩
theorem st_ok2 : st_ok 2 [114, 101, 115, 115, 32] := ⟨rfl, by decide, by decide⟩
theorem st_ok3 : st_ok 3 [98, 108] := ⟨rfl, by decide, by decide⟩
theorem st_ok4 : st_ok 4 [115, 115, 32] := ⟨rfl, by decide, by decide⟩
theorem st_ok5 : st_ok 5 [105, 103, 104, 116, 32] := ⟨rfl, by decide, by decide⟩
theorem st_ok6 : st_ok 6 st_6 := ⟨rfl, by decide, by unfold st_6; decide⟩
theorem ixo_0 {c : Nat} : ixo st_0 c st_0.length 0 = if le_i c < 6 then nI (le_i c) else -1 := by
  show (if 104 = c then nI 0 else if 108 = c then nI 1 else if 107 = c then nI 2 else if 118 = c then nI 3 else if 120 = c then nI 4 else if 100 = c then nI 5 else (-1 : Int32)) = _
  unfold le_i
  by_cases h0 : c = 104
  · subst h0; decide
  by_cases h1 : c = 108
  · subst h1; decide
  by_cases h2 : c = 107
  · subst h2; decide
  by_cases h3 : c = 118
  · subst h3; decide
  by_cases h4 : c = 120
  · subst h4; decide
  by_cases h5 : c = 100
  · subst h5; decide
  rw [if_neg h0, if_neg h1, if_neg h2, if_neg h3, if_neg h4, if_neg h5, if_neg (fun y => h0 y.symm), if_neg (fun y => h1 y.symm), if_neg (fun y => h2 y.symm), if_neg (fun y => h3 y.symm), if_neg (fun y => h4 y.symm), if_neg (fun y => h5 y.symm), if_neg (by decide)]
theorem ixo_6 {c : Nat} : ixo st_6 c st_6.length 0 = if 60 ≤ c ∧ c ≤ 62 then nI (c - 60) else -1 := by
  show (if 60 = c then nI 0 else if 61 = c then nI 1 else if 62 = c then nI 2 else (-1 : Int32)) = _
  by_cases h0 : c = 60
  · subst h0; decide
  by_cases h1 : c = 61
  · subst h1; decide
  by_cases h2 : c = 62
  · subst h2; decide
  rw [if_neg (fun y => h0 y.symm), if_neg (fun y => h1 y.symm), if_neg (fun y => h2 y.symm), if_neg (by omega)]
theorem sp_oneOf {i0 : Nat} {L : List Nat} {po : Int32 → pa_S → Prop} (hL : st_ok i0 L) (h0 : 0 < L.length) (hno : ixo L 128 L.length 0 = -1) (h : tx u T S p B)
    (h0 : ixo L (tch T S p) L.length 0 < 0 → po (ixo L (tch T S p) L.length 0) u) (h1 : ¬ ixo L (tch T S p) L.length 0 < 0 → ∀ v, tx v T S (p + 1) B → fr_of fp_y u v → po (ixo L (tch T S p) L.length 0) v) : wp_X5_takeOneOf u i0 po := by
  rename_i h00
  have h2 := h.1
  have hp := h.2.2.1
  have hS := h2.2.1
  unfold wp_X5_takeOneOf wb_X5_takeOneOf_0
  rw [h.2.1, if_neg (nI_pos (by omega)), h2.1]
  by_cases l1 : p < S
  · have hT := h2.2.2 p l1
    have ht : tch T S p = T p := if_pos l1
    rw [ht] at h0 h1
    rw [if_neg (nI_ge l1 (by omega)), if_pos (show nI p < 100 from nI_lt (b := 100) (by omega) (by omega)), pw_and (vp_in_nI (by omega) (by omega)), nI_clamp (by omega), hT.2, (pw_ch hT.1).2.1, sp_ixo hL hT.1 h00]
    by_cases q : ixo L (T p) L.length 0 < 0
    · rw [if_pos q]; exact h0 q
    · rw [if_neg q, pw_n1, nI_add]
      intro v e
      have := tx_at h e (by omega)
      exact h1 q v this.1 this.2
  · have ht : tch T S p = 128 := if_neg l1
    rw [ht, hno] at h0
    rw [if_pos (nI_le (by omega) (by omega))]
    exact h0 (by decide)
theorem sp_isTest {po : Int32 → pa_S → Prop} (h : tx u T S p B) (hB : B.length ≤ p)
    (h0 : te_k T S p ≠ 1 → ∀ v, tx v T S (te_f T S p) B → fr_of fp_x u v → po 0 v) (h1 : te_k T S p = 1 → ∀ v, tx v T S (te_q T S p) (B ++ [te_t T S p]) → fr_of fp_x u v → po 1 v) : wp_X5_isTest u po := by
  have hS := h.1.2.1
  have li := le_i_le (tch T S p)
  unfold wp_X5_isTest wb_X5_isTest_0
  refine sp_oneOf st_ok0 (by decide) (by rw [ixo_0]; decide) h (fun q => ?_) (fun q v hv gv => ?_)
  · rw [ixo_0] at q ⊢
    by_cases a : le_i (tch T S p) < 6
    · rw [if_pos a] at q; exact absurd q (nI_pos (by omega))
    · rw [if_neg a, if_neg (by decide)]
      refine h0 (by unfold te_k; rw [if_neg (fun y => a y.1)]; decide) u ?_ (fr_refl u)
      unfold te_f; rw [if_pos (by omega)]; exact h
  · rw [ixo_0] at q ⊢
    by_cases a : le_i (tch T S p) < 6
    rotate_left
    · rw [if_neg a] at q; exact absurd (show (-1 : Int32) < 0 by decide) q
    rw [if_pos a, if_pos (nI_pos' (by omega))]
    have ff : te_f T S p = if 60 ≤ tch T S (p + 1) ∧ tch T S (p + 1) ≤ 62 then p + 2 else p + 1 := by unfold te_f; rw [if_neg (by omega)]
    refine sp_oneOf st_ok6 (by decide) (by rw [ixo_6]; decide) hv (fun q2 => ?_) (fun q2 v2 hv2 gv2 => ?_)
    · rw [ixo_6] at q2 ⊢
      by_cases b : 60 ≤ tch T S (p + 1) ∧ tch T S (p + 1) ≤ 62
      · rw [if_pos b] at q2; exact absurd q2 (nI_pos (by omega))
      · rw [if_neg b, if_neg (by decide)]
        refine h0 (by unfold te_k; rw [if_neg (fun y => b ⟨y.2.1, y.2.2.1⟩)]; decide) v ?_ (fr_mono (fun _ _ _ y => fp_yx y) gv)
        rw [ff, if_neg b]; exact hv
    · rw [ixo_6] at q2 ⊢
      by_cases b : 60 ≤ tch T S (p + 1) ∧ tch T S (p + 1) ≤ 62
      rotate_left
      · rw [if_neg b] at q2; exact absurd (show (-1 : Int32) < 0 by decide) q2
      rw [if_pos b, if_pos (nI_pos' (by omega))]
      have g2 : fr_of fp_x u v2 := fr_mono (fun _ _ _ y => fp_yx y) (fr_trans gv gv2)
      refine tn_n hv2 (fun q3 => ?_) (fun q3 v3 hv3 gv3 => ?_)
      · rw [if_pos (by decide)]
        refine h0 (by unfold te_k; rw [if_neg (fun y => y.2.2.2 q3)]; decide) v2 ?_ g2
        rw [ff, if_pos b]; exact hv2
      · have kk : te_k T S p = 1 := by unfold te_k; rw [if_pos ⟨a, b.1, b.2, q3⟩]
        have hn := (te_ok kk).2.2
        have hn2 : nu_v T S (p + 1 + 1) ≤ 99 := hn
        have g3 : fr_of fp_x u v3 := fr_trans g2 (fr_mono (fun _ _ _ y => fp_yx y) gv3)
        have hp3 := hv3.2.2.1
        rw [if_neg (nI_pos (by omega)), pw_n3, pk_mul, nI_add]
        refine em_1 hv3 (by omega) (fun v4 hv4 gv4 => ?_)
        rw [if_neg (by decide)]
        exact h1 kk v4 hv4 (fr_trans g3 gv4)
end TAKE
