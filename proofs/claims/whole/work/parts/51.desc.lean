/-! the class's descent and the machine -/
section DESC
variable {T : Nat → Nat} {S : Nat} {B0 : List (Nat × Nat)}
def cpl (T : Nat → Nat) (S : Nat) (B0 : List (Nat × Nat)) (f : pa_S → Int32 → (Int32 → pa_S → Prop) → Prop) (d : Nat) (okW : List Nat → Prop) (m' : Nat) (okq : Nat → Prop) : Prop :=
  ∀ (u : pa_S) (W : List Nat) (p : Nat) (o : List (Nat × Nat)) (po : Int32 → pa_S → Prop), okW W → gop W = d → 0 < p → (B0 ++ o).length ≤ p → tx u T S p (B0 ++ o) →
    (∀ q x, gR T S W p o 0 (false, q, []) → pa_I x 10 0 4 = nI q → fr_of fp_x u x → po 0 x) →
    (∀ q c x, grt T S W p o 0 W q (o ++ c) m' → c.length + p ≤ q → okq (tch T S q) → tx x T S q (B0 ++ (o ++ c)) → fr_of fp_x u x → po 1 x) → f u (nI d) po
def okO (_ : List Nat) : Prop := True
def okB (W : List Nat) : Prop := W.head? ≠ some 33 ∧ W.head? ≠ some 38
def okE (W : List Nat) : Prop := W = [] ∨ ∃ V, W = 40 :: V
def oqO (_ : Nat) : Prop := True
def oqB (c : Nat) : Prop := c ≠ 38
def oqE (c : Nat) : Prop := c ≠ 38 ∧ c ≠ 124
def cO (T : Nat → Nat) (S : Nat) (B0 : List (Nat × Nat)) (g d : Nat) : Prop := cpl T S B0 (fun u x po => wg_0 g 2 u x po) d okO 1 oqO
def cB (T : Nat → Nat) (S : Nat) (B0 : List (Nat × Nat)) (g d : Nat) : Prop := cpl T S B0 (fun u x po => wg_0 g 1 u x po) d okB 2 oqB
def cE (T : Nat → Nat) (S : Nat) (B0 : List (Nat × Nat)) (g d : Nat) : Prop := cpl T S B0 (fun u x po => wg_0 g 0 u x po) d okE 2 oqE
theorem gse_38 {W : List Nat} {o : List (Nat × Nat)} (h : W.head? ≠ some 38) : gse 38 W o = (W, o) := by
  rcases W with _ | ⟨c, W⟩
  · rfl
  · exact (if_neg (fun y => h (by rw [y]; rfl))).trans (if_neg (fun y => y.2 rfl))
theorem gse_E {s : Nat} {W : List Nat} {o : List (Nat × Nat)} (h : okE W) : gse s W o = (W, o) := by
  rcases h with rfl | ⟨V, rfl⟩
  · rfl
  · exact gse_no (by decide) (by decide)
theorem le_i33 {c : Nat} (h : c = 33 ∨ c = 40) : le_i c = 6 := by
  rcases h with rfl | rfl <;> decide
theorem c_test {r0 r1 r2 : pa_S → Int32 → (Int32 → pa_S → Prop) → Prop} {u : pa_S} {W : List Nat} {p : Nat} {o : List (Nat × Nat)} {po : Int32 → pa_S → Prop} (hd : ¬ (tch T S p = 33 ∨ tch T S p = 40) ∨ gop W = 4) (hB : (B0 ++ o).length ≤ p) (h : tx u T S p (B0 ++ o))
    (h0 : ∀ q x, gR T S W p o 0 (false, q, []) → pa_I x 10 0 4 = nI q → fr_of fp_x u x → po 0 x)
    (h1 : ∀ q c x, grt T S W p o 0 W q (o ++ c) 1 → c.length + p ≤ q → oqO (tch T S q) → tx x T S q (B0 ++ (o ++ c)) → fr_of fp_x u x → po 1 x) : wb_X5_isOne_79 r0 r1 r2 u po := by
  unfold wb_X5_isOne_79
  refine sp_isTest h hB (fun k v hv gv => ⟨by decide, ?_⟩) (fun k v hv gv => ⟨by decide, ?_⟩)
  · refine h0 (te_f T S p) v ?_ hv.2.1 gv
    by_cases a : tch T S p = 33 ∨ tch T S p = 40
    · have e : te_f T S p = p := by unfold te_f; rw [if_pos (le_i33 a)]
      rw [e]
      exact g0_deep a (by rcases hd with y | y; exact absurd a y; exact y)
    · exact g0_bad a k
  · have te := (te_ok k).1
    have a : ¬ (tch T S p = 33 ∨ tch T S p = 40) := fun y => by
      have := le_i33 y
      omega
    refine h1 (te_q T S p) [te_t T S p] v (g0_test a k) ?_ trivial (by rw [← List.append_assoc]; exact hv) gv
    unfold te_q
    rw [List.length_singleton]
    omega
theorem c_one {g d : Nat} (hd : d ≤ 4) (hr : d < 4 → cO T S B0 g (d + 1) ∧ cE T S B0 g (d + 1)) : cO T S B0 (g + 1) d := by
  intro u W p o po _ hW h0p hB h h0 h1
  show wg_0 (g + 1) 2 u (nI d) po
  rw [wge_0_2]
  unfold wb_X5_isOne_0
  by_cases q : d = 4
  · subst q
    rw [if_pos (by decide)]
    unfold wb_X5_isOne_40
    rw [if_pos (by decide)]
    exact c_test (Or.inr hW) hB h h0 h1
  have hd4 : d < 4 := by omega
  obtain ⟨hO, hE⟩ := hr hd4
  have lB : (B0 ++ o).length = B0.length + o.length := List.length_append
  rw [if_neg (show ¬ (4 : Int32) ≤ nI d from nI_ge (b := 4) (by omega) (by omega))]
  by_cases a : tch T S p = 33
  · refine tk_1 h rfl a (by decide) (fun v hv gv => ?_)
    have push : grt T S W p o 0 (33 :: W) (p + 1) o 0 := by
      have := g0_push (T := T) (S := S) (W := W) (p := p) (o := o) (Or.inl a) (by omega)
      rw [a] at this
      exact this
    rw [if_neg (by decide), pw_n1, nI_add]
    refine hO v (33 :: W) (p + 1) o _ trivial (by show (if 33 = 33 ∨ 33 = 40 then 1 else 0) + gop W = d + 1; rw [if_pos (Or.inl rfl)]; omega) (by omega) (by omega) hv (fun q x hq hx gx => ?_) (fun q c x hq hl _ hx gx => ?_)
    · rw [if_pos rfl]
      exact h0 q x (push _ hq) hx (fr_trans (fr_mono (fun _ _ _ y => fp_yx y) gv) gx)
    · rw [if_neg (by decide)]
      have hp := hx.2.2.1
      have hS := hx.1.2.1
      have lc : (B0 ++ (o ++ c)).length = B0.length + (o.length + c.length) := by rw [List.length_append, List.length_append]
      refine em_1 (c := 18) (n := 0) hx (by omega) (fun y hy gy => ?_)
      rw [if_neg (by decide)]
      refine h1 q (c ++ [(18, 0)]) y ?_ (by rw [List.length_append, List.length_singleton]; omega) trivial ?_ (fr_trans (fr_mono (fun _ _ _ y => fp_yx y) gv) (fr_trans gx gy))
      · rw [← List.append_assoc]
        exact grt_trans push (grt_trans hq g1_not)
      · rw [List.append_assoc, List.append_assoc] at hy
        exact hy
  · rw [tk_0 (x := 33) h rfl a (by decide), if_pos rfl]
    unfold wb_X5_isOne_40
    rw [if_neg (show ¬ (4 : Int32) ≤ nI d from nI_ge (b := 4) (by omega) (by omega))]
    by_cases b : tch T S p = 40
    · refine tk_1 h rfl b (by decide) (fun v hv gv => ?_)
      have push : grt T S W p o 0 (40 :: W) (p + 1) o 0 := by
        have := g0_push (T := T) (S := S) (W := W) (p := p) (o := o) (Or.inr b) (by omega)
        rw [b] at this
        exact this
      rw [if_neg (by decide), pw_n1, nI_add]
      refine hE v (40 :: W) (p + 1) o _ (Or.inr ⟨W, rfl⟩) (by show (if 40 = 33 ∨ 40 = 40 then 1 else 0) + gop W = d + 1; rw [if_pos (Or.inr rfl)]; omega) (by omega) (by omega) hv (fun q x hq hx gx => ?_) (fun q c x hq hl hoq hx gx => ?_)
      · rw [if_pos rfl]
        exact h0 q x (push _ hq) hx (fr_trans (fr_mono (fun _ _ _ y => fp_yx y) gv) gx)
      · rw [if_neg (by decide)]
        have G := fr_trans (fr_mono (fun _ _ _ y => fp_yx y) gv) gx
        by_cases e : tch T S q = 41
        · refine tk_1 hx rfl e (by decide) (fun y hy gy => ?_)
          rw [if_neg (by decide)]
          exact h1 (q + 1) c y (grt_trans push (grt_trans hq (g2_close e))) (by omega) trivial hy (fr_trans G (fr_mono (fun _ _ _ y => fp_yx y) gy))
        · rw [tk_0 (x := 41) hx rfl e (by decide), if_pos rfl]
          refine h0 q x (push _ (hq _ (g2_open (fun y => ?_) e))) hx.2.1 G
          rcases y with y | y
          · exact hoq.1 y
          · exact hoq.2 y
    · rw [tk_0 (x := 40) h rfl b (by decide), if_pos rfl]
      exact c_test (Or.inl (fun y => by rcases y with y | y; exact a y; exact b y)) hB h h0 h1
theorem c_bothl {g d : Nat} {W : List Nat} {r0 r1 : pa_S → Int32 → (Int32 → pa_S → Prop) → Prop} (hO : cO T S B0 g d) (hW : okB W) (hd : gop W = d) :
    ∀ (k f x2 p : Nat) (o : List (Nat × Nat)) (u : pa_S) (po : Int32 → pa_S → Prop), S < p + k → k ≤ f → x2 < p → (B0 ++ o).length ≤ p → tx u T S p (B0 ++ o) →
      (∀ q x, gR T S W p o 2 (false, q, []) → pa_I x 10 0 4 = nI q → fr_of fp_x u x → po 0 x) →
      (∀ q c x, grt T S W p o 2 W q (o ++ c) 2 → c.length + p ≤ q → oqB (tch T S q) → tx x T S q (B0 ++ (o ++ c)) → fr_of fp_x u x → po 1 x) → wl_X5_isBoth_12 r0 r1 (fun u x po => wg_0 g 2 u x po) po f u (nI d) (nI x2) := by
  intro k
  induction k with
  | zero =>
    intro f x2 p o u po hk _ _ _ h _ _
    have := h.2.2.1
    omega
  | succ k ih =>
    intro f x2 p o u po hk hf hx hB h h0 h1
    obtain ⟨f, rfl⟩ : ∃ g, f = g + 1 := ⟨f - 1, by omega⟩
    have hp := h.2.2.1
    have hS := h.1.2.1
    have lB : (B0 ++ o).length = B0.length + o.length := List.length_append
    unfold wl_X5_isBoth_12 wb_X5_isBoth_12
    rw [if_neg (show ¬ (100 : Int32) ≤ nI x2 from nI_ge (b := 100) (by omega) (by omega))]
    by_cases a : tch T S p = 38
    · refine tk_1 h rfl a (by decide) (fun v hv gv => ?_)
      have push : grt T S W p o 2 (38 :: W) (p + 1) o 0 := by
        have := g2_push (T := T) (S := S) (W := W) (p := p) (o := o) (Or.inl a) (by unfold g_s; rw [if_pos a]; exact gse_38 hW.2)
        rw [a] at this
        exact this
      rw [if_neg (by decide)]
      refine hO v (38 :: W) (p + 1) o _ trivial (by show (if 38 = 33 ∨ 38 = 40 then 1 else 0) + gop W = d; rw [if_neg (by decide)]; omega) (by omega) (by omega) hv (fun q x hq hx gx => ?_) (fun q c x hq hl _ hx gx => ?_)
      · rw [if_pos rfl]
        exact h0 q x (push _ hq) hx (fr_trans (fr_mono (fun _ _ _ y => fp_yx y) gv) gx)
      · rw [if_neg (by decide)]
        have hp2 := hx.2.2.1
        have lc : (B0 ++ (o ++ c)).length = B0.length + (o.length + c.length) := by rw [List.length_append, List.length_append]
        refine em_1 (c := 19) (n := 0) hx (by omega) (fun y hy gy => ?_)
        rw [if_neg (by decide), pw_n1, nI_add]
        intro v14 e14
        subst e14
        have rt : grt T S W p o 2 W q ((o ++ c) ++ [(19, 0)]) 2 := grt_trans push (grt_trans hq (grt_trans (g1_on (by simp)) g2_and))
        have G := fr_trans (fr_mono (fun _ _ _ y => fp_yx y) gv) (fr_trans gx gy)
        rw [List.append_assoc] at hy
        refine ih f (x2 + 1) q ((o ++ c) ++ [(19, 0)]) y po (by omega) (by omega) (by omega) (by rw [List.length_append, List.length_append, List.length_append, List.length_singleton]; omega) hy (fun q2 z hz hzq gz => h0 q2 z (rt _ hz) hzq (fr_trans G gz)) (fun q2 c2 z hz hzl hzo hzt gz => h1 q2 (c ++ ([(19, 0)] ++ c2)) z ?_ ?_ hzo ?_ (fr_trans G gz))
        · have := grt_trans rt hz
          rw [List.append_assoc, List.append_assoc] at this
          exact this
        · rw [List.length_append, List.length_append, List.length_singleton]; omega
        · rw [List.append_assoc, List.append_assoc] at hzt
          exact hzt
    · rw [tk_0 (x := 38) h rfl a (by decide), if_pos rfl]
      exact h1 p [] u (by rw [List.append_nil]; exact grt_refl) (by rw [List.length_nil]; omega) a (by rw [List.append_nil]; exact h) (fr_refl u)
theorem c_both {g d : Nat} (hO : cO T S B0 g d) : cB T S B0 (g + 1) d := by
  intro u W p o po hW hd h0p hB h h0 h1
  show wg_0 (g + 1) 1 u (nI d) po
  rw [wge_0_1]
  unfold wb_X5_isBoth_0
  have lB : (B0 ++ o).length = B0.length + o.length := List.length_append
  refine hO u W p o _ trivial hd h0p hB h (fun q x hq hx gx => ?_) (fun q c x hq hl _ hx gx => ?_)
  · rw [if_pos rfl]
    exact h0 q x hq hx gx
  · rw [if_neg (by decide)]
    have hS := hx.1.2.1
    have rt : grt T S W p o 0 W q (o ++ c) 2 := grt_trans hq (g1_on hW.1)
    have lc : (B0 ++ (o ++ c)).length = B0.length + (o.length + c.length) := by rw [List.length_append, List.length_append]
    rw [pw_n0]
    refine c_bothl hO hW hd 200 5000 0 q (o ++ c) x po (by omega) (by omega) (by omega) (by omega) hx (fun q2 z hz hzq gz => h0 q2 z (rt _ hz) hzq (fr_trans gx gz)) (fun q2 c2 z hz hzl hzo hzt gz => h1 q2 (c ++ c2) z ?_ ?_ hzo ?_ (fr_trans gx gz))
    · rw [← List.append_assoc]; exact grt_trans rt hz
    · rw [List.length_append]; omega
    · rw [List.append_assoc] at hzt; exact hzt
theorem c_eitherl {g d : Nat} {W : List Nat} {r0 r2 : pa_S → Int32 → (Int32 → pa_S → Prop) → Prop} (hO : cB T S B0 g d) (hW : okE W) (hd : gop W = d) :
    ∀ (k f x2 p : Nat) (o : List (Nat × Nat)) (u : pa_S) (po : Int32 → pa_S → Prop), S < p + k → k ≤ f → x2 < p → (B0 ++ o).length ≤ p → tx u T S p (B0 ++ o) → tch T S p ≠ 38 →
      (∀ q x, gR T S W p o 2 (false, q, []) → pa_I x 10 0 4 = nI q → fr_of fp_x u x → po 0 x) →
      (∀ q c x, grt T S W p o 2 W q (o ++ c) 2 → c.length + p ≤ q → oqE (tch T S q) → tx x T S q (B0 ++ (o ++ c)) → fr_of fp_x u x → po 1 x) → wl_X5_isEither_12 r0 (fun u x po => wg_0 g 1 u x po) r2 po f u (nI d) (nI x2) := by
  intro k
  induction k with
  | zero =>
    intro f x2 p o u po hk _ _ _ h _ _ _
    have := h.2.2.1
    omega
  | succ k ih =>
    intro f x2 p o u po hk hf hx hB h h38 h0 h1
    obtain ⟨f, rfl⟩ : ∃ g, f = g + 1 := ⟨f - 1, by omega⟩
    have hp := h.2.2.1
    have hS := h.1.2.1
    have lB : (B0 ++ o).length = B0.length + o.length := List.length_append
    unfold wl_X5_isEither_12 wb_X5_isEither_12
    rw [if_neg (show ¬ (100 : Int32) ≤ nI x2 from nI_ge (b := 100) (by omega) (by omega))]
    by_cases a : tch T S p = 124
    · refine tk_1 h rfl a (by decide) (fun v hv gv => ?_)
      have push : grt T S W p o 2 (124 :: W) (p + 1) o 0 := by
        have := g2_push (T := T) (S := S) (W := W) (p := p) (o := o) (Or.inr a) (gse_E hW)
        rw [a] at this
        exact this
      rw [if_neg (by decide)]
      refine hO v (124 :: W) (p + 1) o _ ⟨by simp, by simp⟩ (by show (if 124 = 33 ∨ 124 = 40 then 1 else 0) + gop W = d; rw [if_neg (by decide)]; omega) (by omega) (by omega) hv (fun q x hq hx gx => ?_) (fun q c x hq hl hoq hx gx => ?_)
      · rw [if_pos rfl]
        exact h0 q x (push _ hq) hx (fr_trans (fr_mono (fun _ _ _ y => fp_yx y) gv) gx)
      · rw [if_neg (by decide)]
        have hp2 := hx.2.2.1
        have lc : (B0 ++ (o ++ c)).length = B0.length + (o.length + c.length) := by rw [List.length_append, List.length_append]
        refine em_1 (c := 20) (n := 0) hx (by omega) (fun y hy gy => ?_)
        rw [if_neg (by decide), pw_n1, nI_add]
        intro v14 e14
        subst e14
        have rt : grt T S W p o 2 W q ((o ++ c) ++ [(20, 0)]) 2 := grt_trans push (grt_trans hq (g2_or hoq))
        have G := fr_trans (fr_mono (fun _ _ _ y => fp_yx y) gv) (fr_trans gx gy)
        rw [List.append_assoc] at hy
        refine ih f (x2 + 1) q ((o ++ c) ++ [(20, 0)]) y po (by omega) (by omega) (by omega) (by rw [List.length_append, List.length_append, List.length_append, List.length_singleton]; omega) hy hoq (fun q2 z hz hzq gz => h0 q2 z (rt _ hz) hzq (fr_trans G gz)) (fun q2 c2 z hz hzl hzo hzt gz => h1 q2 (c ++ ([(20, 0)] ++ c2)) z ?_ ?_ hzo ?_ (fr_trans G gz))
        · have := grt_trans rt hz
          rw [List.append_assoc, List.append_assoc] at this
          exact this
        · rw [List.length_append, List.length_append, List.length_singleton]; omega
        · rw [List.append_assoc, List.append_assoc] at hzt
          exact hzt
    · rw [tk_0 (x := 124) h rfl a (by decide), if_pos rfl]
      exact h1 p [] u (by rw [List.append_nil]; exact grt_refl) (by rw [List.length_nil]; omega) ⟨h38, a⟩ (by rw [List.append_nil]; exact h) (fr_refl u)
theorem c_either {g d : Nat} (hO : cB T S B0 g d) : cE T S B0 (g + 1) d := by
  intro u W p o po hW hd h0p hB h h0 h1
  show wg_0 (g + 1) 0 u (nI d) po
  rw [wge_0_0]
  unfold wb_X5_isEither_0
  have lB : (B0 ++ o).length = B0.length + o.length := List.length_append
  have okb : okB W := by
    rcases hW with rfl | ⟨V, rfl⟩
    · exact ⟨by simp, by simp⟩
    · exact ⟨by simp, by simp⟩
  refine hO u W p o _ okb hd h0p hB h (fun q x hq hx gx => ?_) (fun q c x hq hl hoq hx gx => ?_)
  · rw [if_pos rfl]
    exact h0 q x hq hx gx
  · rw [if_neg (by decide)]
    have hS := hx.1.2.1
    have lc : (B0 ++ (o ++ c)).length = B0.length + (o.length + c.length) := by rw [List.length_append, List.length_append]
    rw [pw_n0]
    refine c_eitherl hO hW hd 200 5000 0 q (o ++ c) x po (by omega) (by omega) (by omega) (by omega) hx hoq (fun q2 z hz hzq gz => h0 q2 z (hq _ hz) hzq (fr_trans gx gz)) (fun q2 c2 z hz hzl hzo hzt gz => h1 q2 (c ++ c2) z ?_ ?_ hzo ?_ (fr_trans gx gz))
    · rw [← List.append_assoc]; exact grt_trans hq hz
    · rw [List.length_append]; omega
    · rw [List.append_assoc] at hzt; exact hzt
theorem c_all : ∀ (k d g : Nat), d + k = 4 → cO T S B0 (g + 3 * k + 1) d ∧ cB T S B0 (g + 3 * k + 2) d ∧ cE T S B0 (g + 3 * k + 3) d
  | 0, d, g, h => by
    have a := c_one (T := T) (S := S) (B0 := B0) (g := g + 3 * 0) (d := d) (by omega) (fun y => absurd y (by omega))
    have b := c_both a
    exact ⟨a, b, c_either b⟩
  | k + 1, d, g, h => by
    have i1 := c_all k (d + 1) g (by omega)
    have i2 := c_all k (d + 1) (g + 2) (by omega)
    have a := c_one (T := T) (S := S) (B0 := B0) (g := g + 3 * (k + 1)) (d := d) (by omega) (fun _ => ⟨by
      rw [show g + 3 * (k + 1) = g + 2 + 3 * k + 1 by omega]; exact i2.1, by
      rw [show g + 3 * (k + 1) = g + 3 * k + 3 by omega]; exact i1.2.2⟩)
    have b := c_both a
    exact ⟨a, b, c_either b⟩
/-- the class's isEither at a clause -/
theorem sp_isEither {u : pa_S} {p : Nat} {po : Int32 → pa_S → Prop} (h0p : 0 < p) (hB : B0.length ≤ p) (h : tx u T S p B0)
    (h0 : ∀ q x, gR T S [] p [] 0 (false, q, []) → pa_I x 10 0 4 = nI q → fr_of fp_x u x → po 0 x)
    (h1 : ∀ q c x, gR T S [] p [] 0 (true, q, c) → c.length + p ≤ q → tx x T S q (B0 ++ c) → fr_of fp_x u x → po 1 x) : wp_X5_isEither u 0 po := by
  have hE := (c_all (T := T) (S := S) (B0 := B0) 4 0 25 rfl).2.2
  refine hE u [] p [] po (Or.inl rfl) rfl h0p (by rw [List.append_nil]; exact hB) (by rw [List.append_nil]; exact h) h0 (fun q c x hq hl hoq hx gx => h1 q c x (hq _ (g2_end (fun y => ?_))) hl hx gx)
  rcases y with y | y
  · exact hoq.1 y
  · exact hoq.2 y
end DESC
