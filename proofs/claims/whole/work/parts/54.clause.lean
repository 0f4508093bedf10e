/-! clauses and texts: the class -/
def hd_w (T : Nat → Nat) (S p : Nat) : Nat := if tch T S p = 98 then (if tch T S (p + 2) = 105 then 1 else 0) else if tch T S p = 114 then 2 else 3
def hd_L (w : Nat) : List Nat := if w = 0 then [98, 108, 101, 115, 115] else if w = 1 then [98, 108, 105, 103, 104, 116] else if w = 2 then [114, 111, 111, 109] else [112, 114, 101, 115, 115]
abbrev pw_Cl : Type := Nat × Nat × List (Nat × Nat)
def cl_z : pw_Cl := (0, 0, [])
def clX (T : Nat → Nat) (S p : Nat) (r : Bool × Nat × pw_Cl) : Prop :=
  (∃ q, gwd T S (hd_L (hd_w T S p) ++ [32]) p = (false, q) ∧ r = (false, q, cl_z)) ∨
  ∃ q1, gwd T S (hd_L (hd_w T S p) ++ [32]) p = (true, q1) ∧ ((nu_k T S q1 = 0 ∧ r = (false, q1, cl_z)) ∨ (nu_k T S q1 ≠ 0 ∧
    ((2 ≤ hd_w T S p ∧ r = (true, q1 + nu_k T S q1, (hd_w T S p, nu_v T S q1, []))) ∨
     (hd_w T S p < 2 ∧ ((tch T S (q1 + nu_k T S q1) ≠ 32 ∧ r = (false, q1 + nu_k T S q1, cl_z)) ∨
       (tch T S (q1 + nu_k T S q1) = 32 ∧ ((∃ q, gR T S [] (q1 + nu_k T S q1 + 1) [] 0 (false, q, []) ∧ r = (false, q, cl_z)) ∨ (∃ q c, gR T S [] (q1 + nu_k T S q1 + 1) [] 0 (true, q, c) ∧ r = (true, q, (hd_w T S p, nu_v T S q1, c))))))))))
def cl_c (c : pw_Cl) : List (Nat × Nat) := if c.1 < 2 then c.2.2 ++ [(21 + c.1, c.2.1)] else []
def fp_z (t i k : Nat) : Prop := (t = 10 ∧ 4 ≤ k ∧ k ≤ 7) ∨ t = 12 ∨ t = 13
theorem fp_xz {t i k : Nat} (h : fp_x t i k) : fp_z t i k := by unfold fp_x at h; unfold fp_z; omega
theorem fp_yz {t i k : Nat} (h : fp_y t i k) : fp_z t i k := fp_xz (fp_yx h)
section CLAUSE
variable {T : Nat → Nat} {S p : Nat} {B : List (Nat × Nat)}
theorem gwd_q : ∀ (L : List Nat) (p q : Nat), gwd T S L p = (true, q) → q = p + L.length
  | [], p, q, h => by
    have h : (true, p) = (true, q) := h
    injection h with _ h
    rw [h]; rfl
  | c :: L, p, q, h => by
    unfold gwd at h
    by_cases a : tch T S p = c
    · rw [if_pos a] at h
      have := gwd_q L (p + 1) q h
      rw [List.length_cons]
      omega
    · rw [if_neg a] at h
      injection h with h _
      exact absurd h (by decide)
theorem gwd_1 {c : Nat} {L : List Nat} (h : tch T S p = c) : gwd T S (c :: L) p = gwd T S L (p + 1) := if_pos h
theorem gwd_0 {c : Nat} {L : List Nat} (h : tch T S p ≠ c) : gwd T S (c :: L) p = (false, p) := if_neg h
/-- after the head of a room or a press -/
theorem sp_num {u : pa_S} {q1 k : Nat} {f : pa_S → Int32 → (Int32 → pa_S → Prop) → Prop} {po : Int32 → pa_S → Prop} (hk : k = 6 ∨ k = 7) (hf : ∀ u y po, f u y po = ∀ u2 : pa_S, u2 = pa_sI u 10 0 k y → (if (pa_I u2 10 0 k) < 0 then po 0 u2 else po 1 u2)) (h : tx u T S q1 B)
    (h0 : nu_k T S q1 = 0 → ∀ x, pa_I x 10 0 4 = nI q1 → fr_of fp_z u x → po 0 x)
    (h1 : nu_k T S q1 ≠ 0 → ∀ x, tx x T S (q1 + nu_k T S q1) B → pa_I x 10 0 k = nI (nu_v T S q1) → fr_of (fun t _ j => t = 10 ∧ (j = 4 ∨ j = k)) u x → po 1 x) : wp_X5_takeNumber u (fun r x => f x r po) := by
  refine tn_n h (fun q => ?_) (fun q v hv gv => ?_)
  · rw [hf]
    intro u2 e2
    have g2 : fr_of (fun t _ j => t = 10 ∧ j = k) u u2 := by rw [e2]; exact fr_sI ⟨rfl, rfl⟩ (fr_refl u)
    rw [if_pos (by rw [e2, pI_sI, if_pos ⟨rfl, rfl, rfl⟩]; decide)]
    exact h0 q u2 (by rw [g2.1 10 0 4 (by omega)]; exact h.2.1) (fr_mono (fun t i j y => by unfold fp_z; omega) g2)
  · rw [hf]
    intro u2 e2
    have g2 : fr_of (fun t _ j => t = 10 ∧ j = k) v u2 := by rw [e2]; exact fr_sI ⟨rfl, rfl⟩ (fr_refl v)
    have nv : nu_v T S q1 ≤ 99 := by rcases nu_le (T := T) (S := S) (p := q1) with y | y; exact y; exact absurd y q
    have e : pa_I u2 10 0 k = nI (nu_v T S q1) := by rw [e2, pI_sI, if_pos ⟨rfl, rfl, rfl⟩]
    rw [e, if_neg (nI_pos (by omega))]
    obtain ⟨a1, a2, a3, a4, a5⟩ := hv
    refine h1 q u2 ⟨tx_T_fr g2 (by omega) (by omega) a1, by rw [g2.1 10 0 4 (by omega)]; exact a2, a3, by rw [g2.1 10 0 5 (by omega)]; exact a4, by rw [g2.2.1 12 0 (by omega), g2.2.1 13 0 (by omega)]; exact a5⟩ e (fr_trans (fr_mono (fun t i j y => by unfold fp_y at y; omega) gv) (fr_mono (fun t i j y => by omega) g2))
/-- a clause, read -/
def cl_1 (T : Nat → Nat) (S p : Nat) (B : List (Nat × Nat)) (rm pr : Nat) (u : pa_S) (po : Int32 → pa_S → Prop) : Prop :=
  ∀ q c x, clX T S p (true, q, c) → tx x T S q (B ++ cl_c c) → (B ++ cl_c c).length < q → p < q → pa_I x 10 0 6 = nI (if c.1 = 2 then c.2.1 else rm) → pa_I x 10 0 7 = nI (if c.1 = 3 then c.2.1 else pr) → fr_of fp_z u x → po 1 x
def cl_0 (T : Nat → Nat) (S p : Nat) (u : pa_S) (po : Int32 → pa_S → Prop) : Prop := ∀ q x, clX T S p (false, q, cl_z) → pa_I x 10 0 4 = nI q → fr_of fp_z u x → po 0 x
theorem sp_blessed {u u0 : pa_S} {rm pr i0 p1 : Nat} {L : List Nat} {x1 : Int32} {po : Int32 → pa_S → Prop} (hL : st_ok i0 L) (hw : gwd T S (hd_L (hd_w T S p) ++ [32]) p = gwd T S L p1) (hp1 : p + 2 ≤ p1) (hww : (∃ q, gwd T S L p1 = (true, q)) → (hd_w T S p = 0 ∧ x1 ≠ 0) ∨ (hd_w T S p = 1 ∧ x1 = 0)) (hB : B.length ≤ p)
    (h : tx u T S p1 B) (g : fr_of fp_y u0 u) (hr : pa_I u0 10 0 6 = nI rm) (hp : pa_I u0 10 0 7 = nI pr) (h0 : cl_0 T S p u0 po) (h1 : cl_1 T S p B rm pr u0 po) : wb_X5_isClause_116 u i0 x1 po := by
  unfold wb_X5_isClause_116
  have gz : fr_of fp_z u0 u := fr_mono (fun _ _ _ y => fp_yz y) g
  refine sp_takeAll hL h (fun q v hq hv gv => ?_) (fun q v hq hv gv => ?_)
  · rw [if_pos rfl]
    exact h0 q v (Or.inl ⟨q, by rw [hw]; exact hq, rfl⟩) hv.2.1 (fr_trans gz (fr_mono (fun _ _ _ y => fp_yz y) gv))
  · rw [if_neg (by decide)]
    have hq' : gwd T S (hd_L (hd_w T S p) ++ [32]) p = (true, q) := by rw [hw]; exact hq
    have qq := gwd_q _ _ _ hq
    have gv' : fr_of fp_y u0 v := fr_trans g gv
    refine tn_n hv (fun k => ?_) (fun k v2 hv2 gv2 => ?_)
    · rw [if_pos (by decide)]
      exact h0 q v (Or.inr ⟨q, hq', Or.inl ⟨k, rfl⟩⟩) hv.2.1 (fr_mono (fun _ _ _ y => fp_yz y) gv')
    · have nv : nu_v T S q ≤ 99 := by rcases nu_le (T := T) (S := S) (p := q) with y | y; exact y; exact absurd y k
      have gv2' : fr_of fp_y u0 v2 := fr_trans gv' gv2
      have w2 := hww ⟨q, hq⟩
      have w2' : hd_w T S p < 2 := by omega
      rw [if_neg (nI_pos (by omega))]
      by_cases s : tch T S (q + nu_k T S q) = 32
      rotate_left
      · rw [tk_0 (x := 32) hv2 rfl s (by decide), if_pos rfl]
        exact h0 _ v2 (Or.inr ⟨q, hq', Or.inr ⟨k, Or.inr ⟨w2', Or.inl ⟨s, rfl⟩⟩⟩⟩) hv2.2.1 (fr_mono (fun _ _ _ y => fp_yz y) gv2')
      refine tk_1 hv2 rfl s (by decide) (fun v3 hv3 gv3 => ?_)
      have gv3' : fr_of fp_z u0 v3 := fr_mono (fun _ _ _ y => fp_yz y) (fr_trans gv2' gv3)
      rw [if_neg (by decide)]
      refine sp_isEither (by omega) (by omega) hv3 (fun q4 x hq4 hx gx => ?_) (fun q4 c x hq4 hl hx gx => ?_)
      · rw [if_pos rfl]
        exact h0 q4 x (Or.inr ⟨q, hq', Or.inr ⟨k, Or.inr ⟨w2', Or.inr ⟨s, Or.inl ⟨q4, hq4, rfl⟩⟩⟩⟩⟩) hx (fr_trans gv3' (fr_mono (fun _ _ _ y => fp_xz y) gx))
      · rw [if_neg (by decide)]
        have hS := hx.1.2.1
        have hpx := hx.2.2.1
        have lc : (B ++ c).length = B.length + c.length := List.length_append
        have ev : clX T S p (true, q4, (hd_w T S p, nu_v T S q, c)) := Or.inr ⟨q, hq', Or.inr ⟨k, Or.inr ⟨w2', Or.inr ⟨s, Or.inr ⟨q4, c, hq4, rfl⟩⟩⟩⟩⟩
        have fin : ∀ m, m = 21 + hd_w T S p → wb_X5_isClause_162 x (nI (nu_v T S q)) (nI m) po := by
          intro m hm
          subst hm
          unfold wb_X5_isClause_162
          refine em_1 hx (by omega) (fun y hy gy => ?_)
          rw [if_neg (by decide)]
          have G1 : fr_of fp_x v3 y := fr_trans gx gy
          have G2 : fr_of fp_y u0 v3 := fr_trans gv2' gv3
          have cc : cl_c (hd_w T S p, nu_v T S q, c) = c ++ [(21 + hd_w T S p, nu_v T S q)] := if_pos w2'
          refine h1 q4 (hd_w T S p, nu_v T S q, c) y ev (by rw [cc, ← List.append_assoc]; exact hy) (by rw [cc, List.length_append, List.length_append, List.length_singleton]; omega) (by omega) ?_ ?_ (fr_trans gv3' (fr_mono (fun _ _ _ y => fp_xz y) G1))
          · rw [G1.1 10 0 6 (by unfold fp_x; omega), G2.1 10 0 6 (by unfold fp_y; omega), hr, if_neg (show ¬ hd_w T S p = 2 by omega)]
          · rw [G1.1 10 0 7 (by unfold fp_x; omega), G2.1 10 0 7 (by unfold fp_y; omega), hp, if_neg (show ¬ hd_w T S p = 3 by omega)]
        rcases w2 with ⟨w0, x0⟩ | ⟨w1, x0⟩
        · rw [if_neg x0]
          exact fin 21 (by omega)
        · rw [if_pos x0]
          exact fin 22 (by omega)
theorem sp_isClause {u : pa_S} {rm pr : Nat} {po : Int32 → pa_S → Prop} (h : tx u T S p B) (hB : B.length ≤ p) (hr : pa_I u 10 0 6 = nI rm) (hp : pa_I u 10 0 7 = nI pr) (h0 : cl_0 T S p u po) (h1 : cl_1 T S p B rm pr u po) : wp_X5_isClause u po := by
  unfold wp_X5_isClause wb_X5_isClause_0
  by_cases a : tch T S p = 114
  · have w2 : hd_w T S p = 2 := by unfold hd_w; rw [if_neg (by omega), if_pos a]
    have hw : gwd T S (hd_L (hd_w T S p) ++ [32]) p = gwd T S [111, 111, 109, 32] (p + 1) := by rw [w2]; exact gwd_1 a
    refine tk_1 h rfl a (by decide) (fun v hv gv => ?_)
    rw [if_neg (by decide)]
    refine sp_takeAll st_ok1 hv (fun q x hq hx gx => ?_) (fun q x hq hx gx => ?_)
    · rw [if_pos rfl]
      unfold wb_X5_isClause_27
      intro u2 e2
      have g2 : fr_of (fun t _ j => t = 10 ∧ j = 6) x u2 := by rw [e2]; exact fr_sI ⟨rfl, rfl⟩ (fr_refl x)
      rw [if_pos (by rw [e2, pI_sI, if_pos ⟨rfl, rfl, rfl⟩]; decide)]
      exact h0 q u2 (Or.inl ⟨q, by rw [hw]; exact hq, rfl⟩) (by rw [g2.1 10 0 4 (by omega)]; exact hx.2.1) (fr_trans (fr_mono (fun _ _ _ y => fp_yz y) (fr_trans gv gx)) (fr_mono (fun t i j y => by unfold fp_z; omega) g2))
    · rw [if_neg (by decide)]
      have hq' : gwd T S (hd_L (hd_w T S p) ++ [32]) p = (true, q) := by rw [hw]; exact hq
      have qq := gwd_q _ _ _ hq
      have qq : q = p + 1 + 4 := qq
      refine sp_num (f := wb_X5_isClause_27) (k := 6) (Or.inl rfl) (fun _ _ _ => rfl) hx (fun k y hy gy => ?_) (fun k y hy ny gy => ?_)
      · exact h0 q y (Or.inr ⟨q, hq', Or.inl ⟨k, rfl⟩⟩) hy (fr_trans (fr_mono (fun _ _ _ y => fp_yz y) (fr_trans gv gx)) gy)
      · have G : fr_of (fun t _ j => t = 10 ∧ (j = 4 ∨ j = 6)) u y := fr_trans (fr_mono (fun t i j y => by unfold fp_y at y; omega) (fr_trans gv gx)) gy
        have cc : cl_c (hd_w T S p, nu_v T S q, []) = [] := if_neg (by show ¬ hd_w T S p < 2; omega)
        refine h1 _ (hd_w T S p, nu_v T S q, []) y (Or.inr ⟨q, hq', Or.inr ⟨k, Or.inl ⟨by omega, rfl⟩⟩⟩) (by rw [cc, List.append_nil]; exact hy) (by rw [cc, List.append_nil]; omega) (by omega) ?_ ?_ (fr_mono (fun t i j y => by unfold fp_z; omega) G)
        · rw [ny, if_pos (show hd_w T S p = 2 from w2)]
        · rw [G.1 10 0 7 (by omega), hp, if_neg (show ¬ hd_w T S p = 3 by omega)]
  · rw [tk_0 (x := 114) h rfl a (by decide), if_pos rfl]
    by_cases b : tch T S p = 112
    · have w3 : hd_w T S p = 3 := by unfold hd_w; rw [if_neg (by omega), if_neg a]
      have hw : gwd T S (hd_L (hd_w T S p) ++ [32]) p = gwd T S [114, 101, 115, 115, 32] (p + 1) := by rw [w3]; exact gwd_1 b
      refine tk_1 h rfl b (by decide) (fun v hv gv => ?_)
      rw [if_neg (by decide)]
      refine sp_takeAll st_ok2 hv (fun q x hq hx gx => ?_) (fun q x hq hx gx => ?_)
      · rw [if_pos rfl]
        unfold wb_X5_isClause_70
        intro u2 e2
        have g2 : fr_of (fun t _ j => t = 10 ∧ j = 7) x u2 := by rw [e2]; exact fr_sI ⟨rfl, rfl⟩ (fr_refl x)
        rw [if_pos (by rw [e2, pI_sI, if_pos ⟨rfl, rfl, rfl⟩]; decide)]
        exact h0 q u2 (Or.inl ⟨q, by rw [hw]; exact hq, rfl⟩) (by rw [g2.1 10 0 4 (by omega)]; exact hx.2.1) (fr_trans (fr_mono (fun _ _ _ y => fp_yz y) (fr_trans gv gx)) (fr_mono (fun t i j y => by unfold fp_z; omega) g2))
      · rw [if_neg (by decide)]
        have hq' : gwd T S (hd_L (hd_w T S p) ++ [32]) p = (true, q) := by rw [hw]; exact hq
        have qq := gwd_q _ _ _ hq
        have qq : q = p + 1 + 5 := qq
        refine sp_num (f := wb_X5_isClause_70) (k := 7) (Or.inr rfl) (fun _ _ _ => rfl) hx (fun k y hy gy => ?_) (fun k y hy ny gy => ?_)
        · exact h0 q y (Or.inr ⟨q, hq', Or.inl ⟨k, rfl⟩⟩) hy (fr_trans (fr_mono (fun _ _ _ y => fp_yz y) (fr_trans gv gx)) gy)
        · have G : fr_of (fun t _ j => t = 10 ∧ (j = 4 ∨ j = 7)) u y := fr_trans (fr_mono (fun t i j y => by unfold fp_y at y; omega) (fr_trans gv gx)) gy
          have cc : cl_c (hd_w T S p, nu_v T S q, []) = [] := if_neg (by show ¬ hd_w T S p < 2; omega)
          refine h1 _ (hd_w T S p, nu_v T S q, []) y (Or.inr ⟨q, hq', Or.inr ⟨k, Or.inl ⟨by omega, rfl⟩⟩⟩) (by rw [cc, List.append_nil]; exact hy) (by rw [cc, List.append_nil]; omega) (by omega) ?_ ?_ (fr_mono (fun t i j y => by unfold fp_z; omega) G)
          · rw [G.1 10 0 6 (by omega), hr, if_neg (show ¬ hd_w T S p = 2 by omega)]
          · rw [ny, if_pos (show hd_w T S p = 3 from w3)]
    · rw [tk_0 (x := 112) h rfl b (by decide), if_pos rfl]
      refine sp_takeAll st_ok3 h (fun q x hq hx gx => ?_) (fun q x hq hx gx => ?_)
      · rw [if_pos rfl]
        refine h0 q x (Or.inl ⟨q, ?_, rfl⟩) hx.2.1 (fr_mono (fun _ _ _ y => fp_yz y) gx)
        by_cases c : tch T S p = 98
        · rw [gwd_1 c] at hq
          have hl : ∃ L, hd_L (hd_w T S p) ++ [32] = 98 :: 108 :: L := by
            unfold hd_w
            rw [if_pos c]
            by_cases i : tch T S (p + 2) = 105
            · rw [if_pos i]; exact ⟨_, rfl⟩
            · rw [if_neg i]; exact ⟨_, rfl⟩
          obtain ⟨L, hl⟩ := hl
          rw [hl, gwd_1 c]
          by_cases d : tch T S (p + 1) = 108
          · rw [gwd_1 d] at hq
            have hq : (true, p + 1 + 1) = (false, q) := hq
            injection hq with hq _
            exact absurd hq (by decide)
          · rw [gwd_0 d] at hq ⊢
            exact hq
        · rw [gwd_0 c] at hq
          have w3 : hd_w T S p = 3 := by unfold hd_w; rw [if_neg c, if_neg a]
          rw [w3]
          show gwd T S [112, 114, 101, 115, 115, 32] p = _
          rw [gwd_0 b]
          exact hq
      · rw [if_neg (by decide)]
        have c : tch T S p = 98 := by
          by_cases c : tch T S p = 98
          · exact c
          · rw [gwd_0 c] at hq; injection hq with hq _; exact absurd hq (by decide)
        rw [gwd_1 c] at hq
        have d : tch T S (p + 1) = 108 := by
          by_cases d : tch T S (p + 1) = 108
          · exact d
          · rw [gwd_0 d] at hq; injection hq with hq _; exact absurd hq (by decide)
        rw [gwd_1 d] at hq
        have hq : (true, p + 1 + 1) = (true, q) := hq
        injection hq with _ hq
        subst hq
        by_cases e : tch T S (p + 2) = 101
        · have w0 : hd_w T S p = 0 := by unfold hd_w; rw [if_pos c, if_neg (by omega)]
          refine tk_1 hx rfl e (by decide) (fun v hv gv => ?_)
          rw [if_neg (by decide)]
          refine sp_blessed (p := p) st_ok4 ?_ (by omega) (fun _ => Or.inl ⟨w0, by decide⟩) hB hv (fr_trans gx gv) hr hp h0 h1
          rw [w0]
          show gwd T S [98, 108, 101, 115, 115, 32] p = _
          rw [gwd_1 c, gwd_1 d, gwd_1 e]
        · rw [tk_0 (x := 101) hx rfl e (by decide), if_pos rfl]
          by_cases i : tch T S (p + 2) = 105
          · have w1 : hd_w T S p = 1 := by unfold hd_w; rw [if_pos c, if_pos i]
            refine sp_blessed (p := p) st_ok5 ?_ (by omega) (fun _ => Or.inr ⟨w1, rfl⟩) hB hx gx hr hp h0 h1
            rw [w1]
            show gwd T S [98, 108, 105, 103, 104, 116, 32] p = _
            rw [gwd_1 c, gwd_1 d]
          · have w0 : hd_w T S p = 0 := by unfold hd_w; rw [if_pos c, if_neg i]
            refine sp_blessed (p := p) st_ok5 ?_ (by omega) (fun y => ?_) hB hx gx hr hp h0 h1
            · rw [w0]
              show gwd T S [98, 108, 101, 115, 115, 32] p = _
              rw [gwd_1 c, gwd_1 d, gwd_0 e, gwd_0 i]
            · obtain ⟨q, y⟩ := y
              rw [gwd_0 i] at y
              injection y with y _
              exact absurd y (by decide)
/-! the text -/
def tR (T : Nat → Nat) (S : Nat) : Nat → List pw_Cl → Prop
  | _, [] => False
  | p, c :: cs => ∃ q, clX T S p (true, q, c) ∧ ((cs = [] ∧ q = S) ∨ (q ≠ S ∧ tch T S q = 59 ∧ tR T S (q + 1) cs))
def tF (T : Nat → Nat) (S : Nat) : Nat → Nat → Nat → Prop
  | 0, _, _ => False
  | k + 1, p, q => clX T S p (false, q, cl_z) ∨ ∃ q1 c, clX T S p (true, q1, c) ∧ q1 ≠ S ∧ ((k = 0 ∧ q = q1) ∨ (k ≠ 0 ∧ ((tch T S q1 ≠ 59 ∧ q = q1) ∨ (tch T S q1 = 59 ∧ tF T S k (q1 + 1) q))))
def cs_c : List pw_Cl → List (Nat × Nat)
  | [] => []
  | c :: cs => cl_c c ++ cs_c cs
def cs_m (k d : Nat) : List pw_Cl → Nat
  | [] => d
  | c :: cs => cs_m k (if c.1 = k then c.2.1 else d) cs
theorem sl_isBooth : ∀ (k f x1 p : Nat) (B : List (Nat × Nat)) (rm pr : Nat) (u : pa_S) (po : Int32 → pa_S → Prop), x1 + k = 11 → 0 < x1 → k < f → tx u T S p B → B.length ≤ p → pa_I u 10 0 6 = nI rm → pa_I u 10 0 7 = nI pr → 0 < k →
    (∀ q x, tF T S k p q → pa_I x 10 0 4 = nI q → fr_of fp_z u x → po 0 x) →
    (∀ CS x, tR T S p CS → CS.length ≤ k → tx x T S S (B ++ cs_c CS) → (B ++ cs_c CS).length < S → pa_I x 10 0 6 = nI (cs_m 2 rm CS) → pa_I x 10 0 7 = nI (cs_m 3 pr CS) → fr_of fp_z u x → po 1 x) → wl_X5_isBooth_23 po f u (nI x1) := by
  intro k
  induction k with
  | zero => intro f x1 p B rm pr u po _ _ _ _ _ _ _ h; omega
  | succ k ih =>
    intro f x1 p B rm pr u po eq hx1 hlt h hB hr hp _ h0 h1
    obtain ⟨f, rfl⟩ : ∃ g, f = g + 1 := ⟨f - 1, by omega⟩
    unfold wl_X5_isBooth_23 wb_X5_isBooth_23
    rw [if_neg (show ¬ (10 : Int32) < nI x1 from nI_nlt (a := 10) (by omega) (by omega))]
    refine sp_isClause h hB hr hp (fun q x hq hx gx => ?_) (fun q c x hc hx hl hpq hrx hpx gx => ?_)
    · rw [if_pos rfl]
      exact h0 q x (Or.inl hq) hx gx
    · have hS := hx.1.2.1
      have hqS := hx.2.2.1
      rw [if_neg (by decide), hx.2.1, hx.1.1]
      by_cases a : q = S
      · subst a
        rw [if_neg (nI_nlt (Nat.le_refl _) (by omega))]
        exact h1 [c] x ⟨q, hc, Or.inl ⟨rfl, rfl⟩⟩ (by rw [List.length_singleton]; omega) (by show tx x T q q (B ++ (cl_c c ++ [])); rw [List.append_nil]; exact hx) (by show (B ++ (cl_c c ++ [])).length < q; rw [List.append_nil]; exact hl) hrx hpx gx
      · rw [if_pos (nI_lt (by omega) (by omega))]
        by_cases b : x1 = 10
        · rw [if_pos (show nI x1 = 10 by rw [b]; rfl)]
          exact h0 q x (Or.inr ⟨q, c, hc, a, Or.inl ⟨by omega, rfl⟩⟩) hx.2.1 gx
        · rw [if_neg (show ¬ nI x1 = 10 from fun y => b ((nI_eq (b := 10) (by omega) (by omega)).mp y))]
          by_cases d : tch T S q = 59
          · refine tk_1 hx rfl d (by decide) (fun v hv gv => ?_)
            rw [if_neg (by decide), pw_n1, nI_add]
            intro v14 e14
            subst e14
            have G : fr_of fp_z u v := fr_trans gx (fr_mono (fun _ _ _ y => fp_yz y) gv)
            refine ih f (x1 + 1) (q + 1) (B ++ cl_c c) _ _ v po (by omega) (by omega) (by omega) hv (by omega) (by rw [gv.1 10 0 6 (by unfold fp_y; omega)]; exact hrx) (by rw [gv.1 10 0 7 (by unfold fp_y; omega)]; exact hpx) (by omega) (fun q2 y hq2 hy gy => h0 q2 y (Or.inr ⟨q, c, hc, a, Or.inr ⟨by omega, Or.inr ⟨d, hq2⟩⟩⟩) hy (fr_trans G gy)) (fun CS y hCS hlen hy hyl hyr hyp gy => h1 (c :: CS) y ⟨q, hc, Or.inr ⟨a, d, hCS⟩⟩ (by rw [List.length_cons]; omega) ?_ ?_ hyr hyp (fr_trans G gy))
            · rw [List.append_assoc] at hy; exact hy
            · rw [List.append_assoc] at hyl; exact hyl
          · rw [tk_0 (x := 59) hx rfl d (by decide), if_pos rfl]
            exact h0 q x (Or.inr ⟨q, c, hc, a, Or.inr ⟨by omega, Or.inl ⟨d, rfl⟩⟩⟩) hx.2.1 gx
theorem sp_isBooth {u : pa_S} {po : Int32 → pa_S → Prop} (h : tx_T u T S)
    (h0 : ∀ q x, tF T S 10 0 q → pa_I x 10 0 4 = nI q → fr_of fp_z u x → po 0 x)
    (h1 : ∀ CS x, tR T S 0 CS → CS.length ≤ 10 → tx x T S S (cs_c CS) → (cs_c CS).length < S → pa_I x 10 0 6 = nI (cs_m 2 20 CS) → pa_I x 10 0 7 = nI (cs_m 3 4 CS) → fr_of fp_z u x → po 1 x) : wp_X5_isBooth u po := by
  unfold wp_X5_isBooth wb_X5_isBooth_0
  intro u1 e1 u2 e2 u3 e3 u4 e4
  have g1 : fr_of (fun t _ k => t = 10 ∧ k = 4) u u1 := by rw [e1]; exact fr_sI ⟨rfl, rfl⟩ (fr_refl u)
  have g2 : fr_of (fun t _ k => t = 10 ∧ k = 5) u1 u2 := by rw [e2]; exact fr_sI ⟨rfl, rfl⟩ (fr_refl u1)
  have g3 : fr_of (fun t _ k => t = 10 ∧ k = 6) u2 u3 := by rw [e3]; exact fr_sI ⟨rfl, rfl⟩ (fr_refl u2)
  have g4 : fr_of (fun t _ k => t = 10 ∧ k = 7) u3 u4 := by rw [e4]; exact fr_sI ⟨rfl, rfl⟩ (fr_refl u3)
  have G : fr_of fp_z u u4 := fr_trans (fr_mono (fun t i k y => by unfold fp_z; omega) g1) (fr_trans (fr_mono (fun t i k y => by unfold fp_z; omega) g2) (fr_trans (fr_mono (fun t i k y => by unfold fp_z; omega) g3) (fr_mono (fun t i k y => by unfold fp_z; omega) g4)))
  refine sl_isBooth 10 5000 1 0 [] 20 4 u4 po (by omega) (by omega) (by omega) ⟨tx_T_fr G (by unfold fp_z; omega) (by unfold fp_z; omega) h, ?_, Nat.zero_le _, ?_, fun j t hj => absurd hj (by simp)⟩ (Nat.zero_le _) ?_ ?_ (by omega) (fun q x a b c => h0 q x a b (fr_trans G c)) (fun CS x a b c d e f g => h1 CS x a b c d e f (fr_trans G g))
  · rw [g4.1 10 0 4 (by omega), g3.1 10 0 4 (by omega), g2.1 10 0 4 (by omega), e1, pI_sI, if_pos ⟨rfl, rfl, rfl⟩]; rfl
  · rw [g4.1 10 0 5 (by omega), g3.1 10 0 5 (by omega), e2, pI_sI, if_pos ⟨rfl, rfl, rfl⟩]; rfl
  · rw [g4.1 10 0 6 (by omega), e3, pI_sI, if_pos ⟨rfl, rfl, rfl⟩]; rfl
  · rw [e4, pI_sI, if_pos ⟨rfl, rfl, rfl⟩]; rfl
end CLAUSE
