/-! PURE: numbers, states, worlds -/
theorem pw_n0 : (0 : Int32) = nI 0 := rfl
theorem pw_n1 : (1 : Int32) = nI 1 := rfl
theorem pw_n2 : (2 : Int32) = nI 2 := rfl
theorem pw_n3 : (3 : Int32) = nI 3 := rfl
theorem pw_n4 : (4 : Int32) = nI 4 := rfl
theorem pw_n5 : (5 : Int32) = nI 5 := rfl
theorem pw_n6 : (6 : Int32) = nI 6 := rfl
theorem pw_n7 : (7 : Int32) = nI 7 := rfl
theorem pw_n8 : (8 : Int32) = nI 8 := rfl
theorem pw_n9 : (9 : Int32) = nI 9 := rfl
theorem pw_n10 : (10 : Int32) = nI 10 := rfl
theorem pw_n11 : (11 : Int32) = nI 11 := rfl
theorem pw_n12 : (12 : Int32) = nI 12 := rfl
theorem pw_n14 : (14 : Int32) = nI 14 := rfl
theorem pw_n15 : (15 : Int32) = nI 15 := rfl
theorem pw_n20 : (20 : Int32) = nI 20 := rfl
theorem pw_n21 : (21 : Int32) = nI 21 := rfl
theorem pw_n22 : (22 : Int32) = nI 22 := rfl
theorem pw_n30 : (30 : Int32) = nI 30 := rfl
theorem pw_n60 : (60 : Int32) = nI 60 := rfl
theorem pw_n97 : (97 : Int32) = nI 97 := rfl
theorem pw_n98 : (98 : Int32) = nI 98 := rfl
theorem pw_n99 : (99 : Int32) = nI 99 := rfl
theorem pw_n100 : (100 : Int32) = nI 100 := rfl
theorem pw_n126 : (126 : Int32) = nI 126 := rfl
theorem pw_n127 : (127 : Int32) = nI 127 := rfl
theorem pw_n999 : (999 : Int32) = nI 999 := rfl
theorem pw_n1000 : (1000 : Int32) = nI 1000 := rfl
theorem pw_n9999 : (9999 : Int32) = nI 9999 := rfl
theorem pw_ltI {a b : Nat} (ha : a < 2 ^ 31) (hb : b < 2 ^ 31) : (nI a < nI b) = (a < b) := propext (nI_ltI ha hb)
theorem pw_leI {a b : Nat} (ha : a < 2 ^ 31) (hb : b < 2 ^ 31) : (nI a ≤ nI b) = (a ≤ b) := propext (nI_leI ha hb)
theorem pw_eqI {a b : Nat} (ha : a < 2 ^ 31) (hb : b < 2 ^ 31) : (nI a = nI b) = (a = b) := propext (nI_eq ha hb)
theorem pw_in {n N : Nat} (h : n < N) (hN : N < 2 ^ 31) : vp_in (nI n) N = True := eq_true (vp_in_nI h hN)
theorem pw_s1 (a : Nat) : nI a + nI 1 = nI (a + 1) := nI_add a 1
theorem pw_upd (f : Nat → Int32) (k : Nat) (x : Int32) (j : Nat) : upd f k x j = if j = k then x else f j := rfl
theorem pw_updL (f : Nat → Int64) (k : Nat) (x : Int64) (j : Nat) : vp_updL f k x j = if j = k then x else f j := rfl
theorem pI_sI (σ : pa_S) (t i k t' i' k' : Nat) (v : Int32) : pa_I (pa_sI σ t i k v) t' i' k' = if t' = t ∧ i' = i ∧ k' = k then v else pa_I σ t' i' k' := by
  by_cases h : t' = t ∧ i' = i
  · obtain ⟨rfl, rfl⟩ := h
    rw [pa_I_sI_self, pw_upd]
    simp
  · rw [pa_I_sI_ne h, if_neg (fun z => h ⟨z.1, z.2.1⟩)]
theorem pA_sA (σ : pa_S) (t i t' i' : Nat) (f : Nat → Int32) : pa_A (pa_sA σ t i f) t' i' = if t' = t ∧ i' = i then f else pa_A σ t' i' := by
  by_cases h : t' = t ∧ i' = i
  · obtain ⟨rfl, rfl⟩ := h
    rw [pa_A_sA_self]; simp
  · rw [pa_A_sA_ne h, if_neg h]
theorem pL_sL (σ : pa_S) (t i t' i' : Nat) (f : Nat → Int64) : pa_L (pa_sL σ t i f) t' i' = if t' = t ∧ i' = i then f else pa_L σ t' i' := by
  by_cases h : t' = t ∧ i' = i
  · obtain ⟨rfl, rfl⟩ := h
    rw [pa_L_sL_self]; simp
  · rw [pa_L_sL_ne h, if_neg h]
theorem pN_sN (σ : pa_S) (t i v t' i' : Nat) : pa_N (pa_sN σ t i v) t' i' = if t' = t ∧ i' = i then v else pa_N σ t' i' := by
  by_cases h : t' = t ∧ i' = i
  · obtain ⟨rfl, rfl⟩ := h
    rw [pa_N_sN_self]; simp
  · rw [pa_N_sN_ne h, if_neg h]
theorem pI_sA (σ : pa_S) (t i : Nat) (f : Nat → Int32) : pa_I (pa_sA σ t i f) = pa_I σ := rfl
theorem pI_sL (σ : pa_S) (t i : Nat) (f : Nat → Int64) : pa_I (pa_sL σ t i f) = pa_I σ := rfl
theorem pI_sN (σ : pa_S) (t i v : Nat) : pa_I (pa_sN σ t i v) = pa_I σ := rfl
theorem pA_sI (σ : pa_S) (t i k : Nat) (v : Int32) : pa_A (pa_sI σ t i k v) = pa_A σ := rfl
theorem pA_sL (σ : pa_S) (t i : Nat) (f : Nat → Int64) : pa_A (pa_sL σ t i f) = pa_A σ := rfl
theorem pA_sN (σ : pa_S) (t i v : Nat) : pa_A (pa_sN σ t i v) = pa_A σ := rfl
theorem pL_sI (σ : pa_S) (t i k : Nat) (v : Int32) : pa_L (pa_sI σ t i k v) = pa_L σ := rfl
theorem pL_sA (σ : pa_S) (t i : Nat) (f : Nat → Int32) : pa_L (pa_sA σ t i f) = pa_L σ := rfl
theorem pL_sN (σ : pa_S) (t i v : Nat) : pa_L (pa_sN σ t i v) = pa_L σ := rfl
theorem pN_sI (σ : pa_S) (t i k : Nat) (v : Int32) : pa_N (pa_sI σ t i k v) = pa_N σ := rfl
theorem pN_sA (σ : pa_S) (t i : Nat) (f : Nat → Int32) : pa_N (pa_sA σ t i f) = pa_N σ := rfl
theorem pN_sL (σ : pa_S) (t i : Nat) (f : Nat → Int64) : pa_N (pa_sL σ t i f) = pa_N σ := rfl
theorem pw_up2_up2 {α : Type} (f : Nat → Nat → α) (t i : Nat) (v w : α) : pa_up2 (pa_up2 f t i v) t i w = pa_up2 f t i w := by
  funext a b
  unfold pa_up2
  split <;> rfl
theorem pw_sA_sA (σ : pa_S) (t i : Nat) (f g : Nat → Int32) : pa_sA (pa_sA σ t i f) t i g = pa_sA σ t i g := by
  unfold pa_sA
  simp only [pw_up2_up2]
/-- conditions on nI numbers -/
theorem pw_and {a b : Prop} (h : a) : (a ∧ b) = b := by rw [eq_true h, true_and]
theorem pw_rem {a d : Nat} (ha : a < 2 ^ 31) (h0 : 0 < d) (hd : d < 2 ^ 31) : pa_rem (nI a) (nI d) = nI (a % d) := pk_rem ha h0 hd
theorem pw_max {a b : Nat} (ha : a < 2 ^ 31) (hb : b < 2 ^ 31) : pa_max (nI a) (nI b) = nI (max a b) := by
  unfold pa_max
  by_cases h : a < b
  · rw [if_pos ((nI_ltI ha hb).mpr h), Nat.max_eq_right (by omega)]
  · rw [if_neg (fun z => h ((nI_ltI ha hb).mp z)), Nat.max_eq_left (by omega)]
theorem pw_min {a b : Nat} (ha : a < 2 ^ 31) (hb : b < 2 ^ 31) : pa_min (nI a) (nI b) = nI (min a b) := by
  unfold pa_min
  by_cases h : b < a
  · rw [if_pos ((nI_ltI hb ha).mpr h), Nat.min_eq_right (by omega)]
  · rw [if_neg (fun z => h ((nI_ltI hb ha).mp z)), Nat.min_eq_left (by omega)]
/-- max(0, a - b) -/
theorem pw_sub0 {a b : Nat} (ha : a < 2 ^ 30) (hb : b < 2 ^ 30) : pa_max 0 (nI a - nI b) = nI (a - b) := by
  unfold pa_max
  by_cases h : b ≤ a
  · rw [pk_sub h]
    by_cases h0 : 0 < a - b
    · rw [if_pos (show (0 : Int32) < nI (a - b) from (nI_ltI (a := 0) (by omega) (by omega)).mpr h0)]
    · rw [if_neg (fun z : (0 : Int32) < nI (a - b) => h0 ((nI_ltI (a := 0) (by omega) (by omega)).mp z)), show a - b = 0 by omega]; rfl
  · have hneg := pk_sneg (a := a) (b := b) hb (by omega)
    rw [if_neg (fun z => by
      rw [Int32.lt_iff_toInt_lt] at z hneg
      omega), show a - b = 0 by omega]
    rfl
theorem pw_sdiv {a d : Nat} (ha : a < 2 ^ 31) (h0 : 0 < d) (hd : d < 2 ^ 31) : nI a / nI d = nI (a / d) := pk_div ha h0 hd
/-- worlds: how many hands, kinds, numbers v, how often shook, lengths (3 h + l), rows (4 h + p), ink, day, which booth -/
abbrev pw_W : Type := Nat × (Nat → Nat) × (Nat → Nat) × (Nat → Nat) × (Nat → Nat) × (Nat → Nat) × Nat × Nat × Nat
def wo_n (w : pw_W) : Nat := w.1
def wo_k (w : pw_W) : Nat → Nat := w.2.1
def wo_v (w : pw_W) : Nat → Nat := w.2.2.1
def wo_s (w : pw_W) : Nat → Nat := w.2.2.2.1
def wo_l (w : pw_W) : Nat → Nat := w.2.2.2.2.1
def wo_r (w : pw_W) : Nat → Nat := w.2.2.2.2.2.1
def wo_i (w : pw_W) : Nat := w.2.2.2.2.2.2.1
def wo_d (w : pw_W) : Nat := w.2.2.2.2.2.2.2.1
def wo_b (w : pw_W) : Nat := w.2.2.2.2.2.2.2.2
def wo_set (w : pw_W) (sh l : Nat → Nat) (i d : Nat) : pw_W := (w.1, w.2.1, w.2.2.1, sh, l, w.2.2.2.2.2.1, i, d, w.2.2.2.2.2.2.2.2)
def wo_WF (w : pw_W) : Prop := wo_n w ≤ 5 ∧ (∀ h, h < wo_n w → wo_k w h ≤ 6 ∧ wo_v w h ≤ 9 ∧ wo_s w h ≤ 9999) ∧ (∀ j, j < 3 * wo_n w → wo_l w j ≤ 60) ∧ (∀ j, j < 4 * wo_n w → wo_r w j ≤ 9) ∧ wo_i w ≤ 999 ∧ wo_d w ≤ 20000
/-- the class's scene s is w -/
def wo_C (u : pa_S) (s : Nat) (w : pw_W) : Prop :=
  pa_I u 1 s 6 = nI (wo_n w) ∧ pa_I u 1 s 7 = nI (wo_i w) ∧ pa_I u 1 s 8 = nI (wo_d w) ∧ pa_N u 1 s = wo_b w ∧ wo_b w < pa_N u 70 0 ∧
  (∀ h, h < wo_n w → pa_A u 2 s h = nI (wo_k w h) ∧ pa_A u 3 s h = nI (wo_v w h) ∧ pa_A u 4 s h = nI (wo_s w h)) ∧
  (∀ j, j < 3 * wo_n w → pa_A u 5 s j = nI (wo_l w j)) ∧ (∀ j, j < 4 * wo_n w → pa_A u 6 s j = nI (wo_r w j))
/-- the reference is w -/
def wo_M (u : pa_S) (w : pw_W) : Prop :=
  pa_I u 24 0 0 = nI (wo_n w) ∧ pa_I u 24 0 2 = nI (wo_i w) ∧ pa_I u 24 0 1 = nI (wo_d w) ∧ pa_I u 24 0 9 = nI (wo_b w) - 1 ∧
  (∀ h, h < wo_n w → pa_A u 25 0 h = nI (wo_k w h) ∧ pa_A u 26 0 h = nI (wo_v w h) ∧ pa_A u 27 0 h = nI (wo_s w h)) ∧
  (∀ j, j < 3 * wo_n w → pa_A u 28 0 j = nI (wo_l w j)) ∧ (∀ j, j < 4 * wo_n w → pa_A u 29 0 j = nI (wo_r w j))
/-! the class's small methods -/
section SCENE
variable {u : pa_S} {s : Nat} {w : pw_W}
theorem sp_has {h : Nat} {po : Int32 → Prop} (hf : wo_WF w) (hc : wo_C u s w) (hh : h < wo_n w) : wp_X3_has u s (nI h) po = po 1 := by
  have h5 := hf.1
  unfold wp_X3_has wb_X3_has_0
  rw [hc.1, if_neg (nI_pos (by omega)), if_neg (nI_ge hh (by omega)), if_neg (show ¬ (5 : Int32) ≤ nI h from nI_ge (b := 5) (by omega) (by omega))]
theorem sp_hasLine {h l : Nat} {po : Int32 → Prop} (hf : wo_WF w) (hc : wo_C u s w) (hh : h < wo_n w) (hl : l < 3) : wp_X3_hasLine u s (nI h) (nI l) po = po 1 := by
  unfold wp_X3_hasLine wb_X3_hasLine_0
  rw [sp_has hf hc hh, if_neg (by decide), if_neg (nI_pos (by omega)), if_neg (show ¬ (3 : Int32) ≤ nI l from nI_ge (b := 3) (by omega) (by omega))]
theorem sp_kindOf {h : Nat} {po : Int32 → Prop} (hf : wo_WF w) (hc : wo_C u s w) (hh : h < wo_n w) : wp_X3_kindOf u s (nI h) po = po (nI (wo_k w h)) := by
  have h5 := hf.1
  unfold wp_X3_kindOf wb_X3_kindOf_0
  rw [sp_has hf hc hh, if_neg (by decide), pw_and (vp_in_nI (by omega) (by omega)), nI_clamp (by omega), (hc.2.2.2.2.2.1 h hh).1]
theorem sp_vOf {h : Nat} {po : Int32 → Prop} (hf : wo_WF w) (hc : wo_C u s w) (hh : h < wo_n w) : wp_X3_vOf u s (nI h) po = po (nI (wo_v w h)) := by
  have h5 := hf.1
  unfold wp_X3_vOf wb_X3_vOf_0
  rw [sp_has hf hc hh, if_neg (by decide), pw_and (vp_in_nI (by omega) (by omega)), nI_clamp (by omega), (hc.2.2.2.2.2.1 h hh).2.1]
theorem sp_shookOf {h : Nat} {po : Int32 → Prop} (hf : wo_WF w) (hc : wo_C u s w) (hh : h < wo_n w) : wp_X3_shookOf u s (nI h) po = po (nI (wo_s w h)) := by
  have h5 := hf.1
  unfold wp_X3_shookOf wb_X3_shookOf_0
  rw [sp_has hf hc hh, if_neg (by decide), pw_and (vp_in_nI (by omega) (by omega)), nI_clamp (by omega), (hc.2.2.2.2.2.1 h hh).2.2]
theorem pw_ix3 (h l : Nat) : nI h * 3 + nI l = nI (3 * h + l) := by
  rw [show (3 : Int32) = nI 3 from rfl, pk_mul, nI_add, Nat.mul_comm]
theorem pw_ix4 (h l : Nat) : nI h * 4 + nI l = nI (4 * h + l) := by
  rw [show (4 : Int32) = nI 4 from rfl, pk_mul, nI_add, Nat.mul_comm]
theorem sp_lengthOf {h l : Nat} {po : Int32 → Prop} (hf : wo_WF w) (hc : wo_C u s w) (hh : h < wo_n w) (hl : l < 3) : wp_X3_lengthOf u s (nI h) (nI l) po = po (nI (wo_l w (3 * h + l))) := by
  have h5 := hf.1
  unfold wp_X3_lengthOf wb_X3_lengthOf_0
  rw [sp_hasLine hf hc hh hl, if_neg (by decide), pw_ix3, pw_and (vp_in_nI (by omega) (by omega)), nI_clamp (by omega), hc.2.2.2.2.2.2.1 _ (by omega)]
theorem sp_putLength {h l : Nat} {x : Int32} {po : pa_S → Prop} (hf : wo_WF w) (hc : wo_C u s w) (hh : h < wo_n w) (hl : l < 3) : wp_X3_putLength u s (nI h) (nI l) x po = po (pa_sA u 5 s (upd (pa_A u 5 s) (3 * h + l) x)) := by
  have h5 := hf.1
  unfold wp_X3_putLength wb_X3_putLength_0
  rw [sp_hasLine hf hc hh hl, if_neg (by decide), pw_ix3, pw_and (vp_in_nI (by omega) (by omega)), nI_clamp (by omega), forall_eq]
theorem sp_hasPart {h l : Nat} {po : Int32 → Prop} (hf : wo_WF w) (hc : wo_C u s w) (hh : h < wo_n w) (hl : l < 4) : wp_X3_hasPart u s (nI h) (nI l) po = po 1 := by
  unfold wp_X3_hasPart wb_X3_hasPart_0
  rw [sp_has hf hc hh, if_neg (by decide), if_neg (nI_pos (by omega)), if_neg (show ¬ (4 : Int32) ≤ nI l from nI_ge (b := 4) (by omega) (by omega))]
theorem sp_partOf {h l : Nat} {po : Int32 → Prop} (hf : wo_WF w) (hc : wo_C u s w) (hh : h < wo_n w) (hl : l < 4) : wp_X3_partOf u s (nI h) (nI l) po = po (nI (wo_r w (4 * h + l))) := by
  have h5 := hf.1
  unfold wp_X3_partOf wb_X3_partOf_0
  rw [sp_hasPart hf hc hh hl, if_neg (by decide), pw_ix4, pw_and (vp_in_nI (by omega) (by omega)), nI_clamp (by omega), hc.2.2.2.2.2.2.2 _ (by omega)]
theorem sp_putPart {h l : Nat} {x : Int32} {po : pa_S → Prop} (hf : wo_WF w) (hc : wo_C u s w) (hh : h < wo_n w) (hl : l < 4) : wp_X3_putPart u s (nI h) (nI l) x po = po (pa_sA u 6 s (upd (pa_A u 6 s) (4 * h + l) x)) := by
  have h5 := hf.1
  unfold wp_X3_putPart wb_X3_putPart_0
  rw [sp_hasPart hf hc hh hl, if_neg (by decide), pw_ix4, pw_and (vp_in_nI (by omega) (by omega)), nI_clamp (by omega), forall_eq]
theorem sp_putV {h : Nat} {x : Int32} {po : pa_S → Prop} (hf : wo_WF w) (hc : wo_C u s w) (hh : h < wo_n w) : wp_X3_putV u s (nI h) x po = po (pa_sA u 3 s (upd (pa_A u 3 s) h x)) := by
  have h5 := hf.1
  unfold wp_X3_putV wb_X3_putV_0
  rw [sp_has hf hc hh, if_neg (by decide), pw_and (vp_in_nI (by omega) (by omega)), nI_clamp (by omega), forall_eq]
/-- how much each line of a hand is less by a day d -/
def wo_fade (w : pw_W) (h d : Nat) : Nat :=
  if wo_k w h = 1 then 2 else if wo_k w h = 2 then wo_v w h % 2 else if wo_k w h = 3 then d % 2 else if wo_k w h = 4 then 1 else if wo_k w h = 5 then wo_v w h % 2 + 1 else if wo_k w h = 6 then d % 2 + wo_r w (4 * h + d % 4) else 1
theorem wo_fade_le {h d : Nat} (hf : wo_WF w) (hh : h < wo_n w) : wo_fade w h d ≤ 10 := by
  have h4 := hf.2.2.2.1 (4 * h + d % 4) (by omega)
  unfold wo_fade
  repeat' split
  all_goals omega
theorem sp_fadesOn {h d : Nat} {po : Int32 → Prop} (hf : wo_WF w) (hc : wo_C u s w) (hh : h < wo_n w) (hd : d < 1000000) : wp_X3_fadesOn u s (nI h) (nI d) po = po (nI (wo_fade w h d)) := by
  have h6 := (hf.2.1 h hh).1
  have h9 := (hf.2.1 h hh).2.1
  unfold wp_X3_fadesOn wb_X3_fadesOn_0
  have hm : d % 4 < 4 := Nat.mod_lt _ (by omega)
  simp (disch := first | assumption | omega) only [sp_kindOf hf hc, sp_vOf hf hc, sp_partOf hf hc, pw_n0, pw_n1, pw_n2, pw_n3, pw_n4, pw_n5, pw_n6, pw_n7, pw_n8, pw_n9, pw_n10, pw_n11, pw_n12, pw_n14, pw_n15, pw_n20, pw_n21, pw_n22, pw_n30, pw_n60, pw_n97, pw_n98, pw_n99, pw_n100, pw_n126, pw_n127, pw_n999, pw_n1000, pw_n9999, pw_ltI, pw_leI, pw_eqI, pw_in, nI_add, pk_mul, pw_rem, pw_sdiv, nI_clamp, true_and, and_true, forall_eq, if_true, if_false, ite_self, pw_max, pw_min]
  unfold wo_fade
  repeat' split
  all_goals rfl
/-- what n days from a day d on take off -/
def wo_fo (w : pw_W) (h d : Nat) : Nat → Nat
  | 0 => 0
  | n + 1 => wo_fo w h d n + wo_fade w h (d + n)
theorem wo_fo_le {h d : Nat} (hf : wo_WF w) (hh : h < wo_n w) : ∀ n, wo_fo w h d n ≤ 10 * n
  | 0 => by unfold wo_fo; omega
  | n + 1 => by
    have a := wo_fo_le (d := d) hf hh n
    have b := wo_fade_le (d := d + n) hf hh
    unfold wo_fo
    omega
theorem sl_fadesOver {h m : Nat} {po : Int32 → Prop} (hf : wo_WF w) (hc : wo_C u s w) (hh : h < wo_n w) (hm : m ≤ 60) : ∀ (k n i : Nat), i + k = m → k < n → wl_X3_fadesOver_5 s po u n (nI h) (nI m) (nI (wo_fo w h (wo_d w) i)) (nI i) = po (nI (wo_fo w h (wo_d w) m))
  | 0, n + 1, i, e, _ => by
    unfold wl_X3_fadesOver_5 wb_X3_fadesOver_5
    rw [if_pos (nI_le (by omega) (by omega)), show i = m by omega]
  | k + 1, n + 1, i, e, hn => by
    have hd := hf.2.2.2.2.2
    unfold wl_X3_fadesOver_5 wb_X3_fadesOver_5
    rw [if_neg (nI_ge (by omega) (by omega)), hc.2.2.1, nI_add, sp_fadesOn hf hc hh (by omega)]
    simp only [forall_eq, nI_add, pw_n1]
    exact sl_fadesOver hf hc hh hm k n (i + 1) (by omega) (by omega)
theorem sp_fadesOver {h m : Nat} {po : Int32 → Prop} (hf : wo_WF w) (hc : wo_C u s w) (hh : h < wo_n w) (hm : m ≤ 60) : wp_X3_fadesOver u s (nI h) (nI m) po = po (nI (wo_fo w h (wo_d w) m)) := by
  unfold wp_X3_fadesOver wb_X3_fadesOver_0
  exact sl_fadesOver hf hc hh hm m 5000 0 (by omega) (by omega)
theorem sp_lengthBehind {h l m : Nat} {po : Int32 → Prop} (hf : wo_WF w) (hc : wo_C u s w) (hh : h < wo_n w) (hl : l < 3) (hm : m ≤ 60) : wp_X3_lengthBehind u s (nI h) (nI l) (nI m) po = po (nI (wo_l w (3 * h + l) - wo_fo w h (wo_d w) m)) := by
  have a := hf.2.2.1 (3 * h + l) (by omega)
  have b := wo_fo_le (d := wo_d w) hf hh m
  unfold wp_X3_lengthBehind wb_X3_lengthBehind_0
  rw [sp_lengthOf hf hc hh hl, sp_fadesOver hf hc hh hm, pw_sub0 (by omega) (by omega)]
end SCENE
