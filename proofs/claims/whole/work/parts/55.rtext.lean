/-! clauses and texts: the reference -/
theorem gse_len {s : Nat} : ∀ (W : List Nat) (o : List (Nat × Nat)), (gse s W o).2.length + (gse s W o).1.length = o.length + W.length
  | [], o => rfl
  | c :: W, o => by
    by_cases q : c = 38
    · subst q
      rw [gse_and, gse_len W, List.length_append, List.length_singleton, List.length_cons]; omega
    · by_cases q2 : c = 124 ∧ s ≠ 38
      · obtain ⟨rfl, q3⟩ := q2
        rw [gse_or q3, gse_len W, List.length_append, List.length_singleton, List.length_cons]; omega
      · have e : gse s (c :: W) o = (c :: W, o) := (if_neg q).trans (if_neg q2)
        rw [e]
theorem gm_len {T : Nat → Nat} {S : Nat} : ∀ n W p o m q c, gm T S n W p o m = some (true, q, c) → c.length + p ≤ q + o.length + W.length
  | 0, W, p, o, m, q, c, h => absurd h (by unfold gm; simp)
  | n + 1, W, p, o, 0, q, c, h => by
    have h : (if tch T S p = 33 ∨ tch T S p = 40 then (if gop W = 4 then some (false, p, []) else gm T S n (tch T S p :: W) (p + 1) o 0) else if te_k T S p = 1 then gm T S n W (te_q T S p) (o ++ [te_t T S p]) 1 else some (false, te_f T S p, [])) = some (true, q, c) := h
    by_cases a : tch T S p = 33 ∨ tch T S p = 40
    · rw [if_pos a] at h
      by_cases b : gop W = 4
      · rw [if_pos b] at h; simp at h
      · rw [if_neg b] at h
        have := gm_len n _ _ _ _ q c h
        rw [List.length_cons] at this
        omega
    · rw [if_neg a] at h
      by_cases b : te_k T S p = 1
      · rw [if_pos b] at h
        have := gm_len n _ _ _ _ q c h
        rw [List.length_append, List.length_singleton] at this
        have hq : te_q T S p = p + 2 + nu_k T S (p + 2) := rfl
        omega
      · rw [if_neg b] at h; simp at h
  | n + 1, W, p, o, 1, q, c, h => by
    have h : (if W.head? = some 33 then gm T S n W.tail p (o ++ [(18, 0)]) 1 else gm T S n W p o 2) = some (true, q, c) := h
    by_cases a : W.head? = some 33
    · rw [if_pos a] at h
      rcases W with _ | ⟨x, W⟩
      · simp at a
      · have := gm_len n _ _ _ _ q c h
        rw [List.length_append, List.length_singleton] at this
        have this : c.length + p ≤ q + (o.length + 1) + W.length := this
        rw [List.length_cons]
        omega
    · rw [if_neg a] at h
      exact gm_len n _ _ _ _ q c h
  | n + 1, W, p, o, m + 2, q, c, h => by
    have gl := gse_len (s := g_s T S p) W o
    have h : (if tch T S p = 38 ∨ tch T S p = 124 then gm T S n (tch T S p :: (gse (g_s T S p) W o).1) (p + 1) (gse (g_s T S p) W o).2 0 else if (gse (g_s T S p) W o).1 = [] then some (true, p, (gse (g_s T S p) W o).2) else if tch T S p = 41 then gm T S n (gse (g_s T S p) W o).1.tail (p + 1) (gse (g_s T S p) W o).2 1 else some (false, p, [])) = some (true, q, c) := h
    by_cases a : tch T S p = 38 ∨ tch T S p = 124
    · rw [if_pos a] at h
      have := gm_len n _ _ _ _ q c h
      rw [List.length_cons] at this
      omega
    · rw [if_neg a] at h
      by_cases b : (gse (g_s T S p) W o).1 = []
      · rw [if_pos b] at h
        rw [b, List.length_nil] at gl
        have e := Option.some.inj h
        injection e with _ e
        injection e with e1 e2
        rw [← e1, ← e2]
        omega
      · rw [if_neg b] at h
        by_cases d : tch T S p = 41
        · rw [if_pos d] at h
          have := gm_len n _ _ _ _ q c h
          rw [List.length_tail] at this
          have : 0 < (gse (g_s T S p) W o).1.length := List.length_pos_iff.mpr b
          omega
        · rw [if_neg d] at h; simp at h
def fp_c8 (t i k : Nat) : Prop := (t = 24 ∧ (k = 11 ∨ k = 12 ∨ k = 21 ∨ k = 22 ∨ k = 23)) ∨ (32 ≤ t ∧ t ≤ 37)
theorem fp_8c {t i k : Nat} (h : fp_e8 t i k) : fp_c8 t i k := by unfold fp_e8 at h; unfold fp_c8; omega
theorem fp_nc {t i k : Nat} (h : fp_n t i k) : fp_c8 t i k := by unfold fp_n at h; unfold fp_c8; omega
def kc (c0 b : Nat) (v x : pa_S) : Prop := (∀ t j, 32 ≤ t → t ≤ 35 → j ≠ c0 → pa_A x t 0 j = pa_A v t 0 j) ∧ lo_f b v x
theorem kc_trans {c0 b : Nat} {v x y : pa_S} (h : kc c0 b v x) (h2 : kc c0 b x y) : kc c0 b v y := ⟨fun t j a b c => (h2.1 t j a b c).trans (h.1 t j a b c), lo_trans h.2 h2.2⟩
theorem kc_fr {P : Nat → Nat → Nat → Prop} {c0 b : Nat} {v x : pa_S} (g : fr_of P v x) (h : ∀ t, 32 ≤ t → t ≤ 36 → ¬ P t 0 100) : kc c0 b v x :=
  ⟨fun t j a b _ => by rw [g.2.1 _ _ (h t a (by omega))], lo_fr g (h 36 (by omega) (by omega))⟩
theorem kc_up {c0 b t : Nat} {v x : pa_S} {y : Int32} (h1 : 32 ≤ t) (h2 : t ≤ 35) (e : x = pa_sA v t 0 (upd (pa_A v t 0) c0 y)) : kc c0 b v x ∧ fr_of (fun s _ _ => s = t) v x ∧ pa_A x t 0 c0 = y := by
  have g : fr_of (fun s _ _ => s = t) v x := by rw [e]; exact fr_sA rfl (fr_refl v)
  refine ⟨⟨fun s j a b c => ?_, lo_fr g (by omega)⟩, g, by rw [e, pa_A_sA_self, pw_upd, if_pos rfl]⟩
  by_cases q : s = t
  · subst q; rw [e, pa_A_sA_self, pw_upd, if_neg c]
  · rw [g.2.1 s 0 q]
section RCL
variable {v : pa_S} {T : Nat → Nat} {S p : Nat}
theorem hd_len (w : Nat) : (hd_L w).length ≤ 6 := by
  unfold hd_L
  repeat' split
  all_goals decide
theorem mp_head {c0 b : Nat} {po : Int32 → pa_S → Prop} (h : rx v T S p) (hc0 : c0 < 60)
    (h0 : ∀ q x, gwd T S (hd_L (hd_w T S p) ++ [32]) p = (false, q) → rx x T S q → kc c0 b v x → fr_of fp_c8 v x → po 0 x)
    (h1 : ∀ q x, gwd T S (hd_L (hd_w T S p) ++ [32]) p = (true, q) → rx x T S q → pa_A x 32 0 c0 = nI (hd_w T S p) → kc c0 b v x → fr_of (fun t _ k => (t = 24 ∧ k = 11) ∨ t = 32) v x → po 1 x) : wp_X7_takesHead v (nI c0) po := by
  have hS := h.1.2.1
  have hp := h.2.2
  -- with the word known
  have core : ∀ (w a n : Nat) (u6 : pa_S) (P : Int32 → pa_S → Prop), hd_w T S p = w → n = (hd_L w).length → (∀ j, j < (hd_L w).length → a + j < 20 ∧ rl_s.getD (a + j) 0 = (hd_L w).getD j 0 ∧ (hd_L w).getD j 0 ≤ 127) → u6 = pa_sA v 32 0 (upd (pa_A v 32 0) c0 (nI w)) → (∀ r x, (r = 0 ∨ r = 1) → po r x → P r x) → wp_X7_takesWord u6 (nI a) (nI n) P := by
    intro w a n u6 P hw hn hL e hP
    subst hn hw
    obtain ⟨k6, g6, e6⟩ := kc_up (b := b) (by omega) (by omega) e
    have h6 : rx u6 T S p := rx_fr g6 (by omega) (by omega) (by omega) (by omega) h
    refine mp_word rfl rfl hL (by have := hd_len (hd_w T S p); omega) h6 (fun q x hq hx gx => hP 0 x (Or.inl rfl) (h0 q x hq hx (kc_trans k6 (kc_fr gx (fun t _ _ => by omega))) (fr_trans (fr_mono (fun t i k y => by unfold fp_c8; omega) g6) (fr_mono (fun t i k y => by unfold fp_c8; omega) gx)))) (fun q x hq hx gx => hP 1 x (Or.inr rfl) (h1 q x hq hx ?_ (kc_trans k6 (kc_fr gx (fun t _ _ => by omega))) (fr_trans (fr_mono (fun t i k y => by omega) g6) (fr_mono (fun t i k y => by omega) gx))))
    rw [gx.2.1 32 0 (by omega)]; exact e6
  have bool1 : ∀ (r : Int32) (x : pa_S), (r = 0 ∨ r = 1) → po r x → (r &&& 1 = r) ∧ po r x := fun r x hr hpo => ⟨by rcases hr with rfl | rfl <;> decide, hpo⟩
  have c71 : ∀ w, hd_w T S p = w → w < 2 → wb_X7_takesHead_71 v (nI c0) (nI c0) (nI w) po := by
    intro w hw hw2
    unfold wb_X7_takesHead_71
    rw [pw_and (vp_in_nI hc0 (by omega)), nI_clamp (by omega)]
    intro u6 e6
    rw [pw_and (vp_in_nI hc0 (by omega))]
    have ew : pa_A u6 32 0 c0 = nI w := by rw [e6, pa_A_sA_self, pw_upd, if_pos rfl]
    rw [ew]
    rcases (show w = 0 ∨ w = 1 by omega) with rfl | rfl
    · rw [if_neg (by decide)]
      exact core 0 0 5 u6 _ hw rfl (by decide) e6 bool1
    · rw [if_pos (by decide)]
      exact core 1 5 6 u6 _ hw rfl (by decide) e6 bool1
  unfold wp_X7_takesHead wb_X7_takesHead_0
  rw [nx h]
  by_cases a : tch T S p = 98
  · rw [if_pos (show nxv T S p = 98 by rw [show (98 : Int32) = nI 98 from rfl, nx_eq h (by decide)]; exact a), h.1.1, h.2.1, pw_n2, nI_add]
    by_cases d : S ≤ p + 2
    · rw [if_pos (nI_le d (by omega))]
      have hw : hd_w T S p = 0 := by
        unfold hd_w
        rw [if_pos a, if_neg]
        unfold tch
        rw [if_neg (by omega)]
        decide
      exact c71 0 hw (by omega)
    · rw [if_neg (nI_ge (by omega) (by omega)), pw_and (vp_in_nI (by omega) (by omega)), nI_clamp (by omega), (h.1.2.2.1 (p + 2) (by omega)).2]
      have ht : tch T S (p + 2) = T (p + 2) := if_pos (by omega)
      have hT := (h.1.2.2.1 (p + 2) (by omega)).1
      by_cases i : T (p + 2) = 105
      · rw [if_pos (show nI (T (p + 2)) = 105 by rw [i]; rfl)]
        have hw : hd_w T S p = 1 := by unfold hd_w; rw [if_pos a, if_pos (by omega)]
        exact c71 1 hw (by omega)
      · rw [if_neg (show ¬ nI (T (p + 2)) = 105 from fun y => i ((nI_eq (b := 105) (by omega) (by omega)).mp y))]
        have hw : hd_w T S p = 0 := by unfold hd_w; rw [if_pos a, if_neg (by omega)]
        exact c71 0 hw (by omega)
  · rw [if_neg (show ¬ nxv T S p = 98 by rw [show (98 : Int32) = nI 98 from rfl, nx_eq h (by decide)]; exact a)]
    by_cases d : tch T S p = 114
    · rw [if_pos (show nxv T S p = 114 by rw [show (114 : Int32) = nI 114 from rfl, nx_eq h (by decide)]; exact d), pw_and (vp_in_nI hc0 (by omega)), nI_clamp (by omega)]
      intro u6 e6
      have hw : hd_w T S p = 2 := by unfold hd_w; rw [if_neg a, if_pos d]
      exact core 2 11 4 u6 _ hw rfl (by decide) e6 bool1
    · rw [if_neg (show ¬ nxv T S p = 114 by rw [show (114 : Int32) = nI 114 from rfl, nx_eq h (by decide)]; exact d), pw_and (vp_in_nI hc0 (by omega)), nI_clamp (by omega)]
      intro u6 e6
      have hw : hd_w T S p = 3 := by unfold hd_w; rw [if_neg a, if_neg d]
      exact core 3 15 5 u6 _ hw rfl (by decide) e6 bool1
theorem hd_lt : hd_w T S p ≤ 3 := by
  unfold hd_w
  repeat' split
  all_goals omega
theorem mp_clause {c0 b : Nat} {B : List (Nat × Nat)} {r : Bool × Nat × pw_Cl} {po : Int32 → pa_S → Prop} (hX : clX T S p r) (h : rx v T S p) (hB : rB v b B) (hb : b ≤ 500) (hc0 : c0 < 60) (hl : B.length ≤ p)
    (h0 : ∀ q x, r = (false, q, cl_z) → pa_I x 24 0 11 = nI q → kc c0 b v x → fr_of fp_c8 v x → po 0 x)
    (h1 : ∀ q c x, r = (true, q, c) → rx x T S q → rB x b (B ++ c.2.2) → (B ++ c.2.2).length ≤ q → pa_A x 32 0 c0 = nI c.1 → pa_A x 33 0 c0 = nI c.2.1 → (c.1 < 2 → pa_A x 34 0 c0 = nI (b + B.length) ∧ pa_A x 35 0 c0 = nI (b + B.length + c.2.2.length)) → kc c0 b v x → fr_of fp_c8 v x → po 1 x) : wp_X7_takesClause v (nI c0) po := by
  have hS := h.1.2.1
  unfold wp_X7_takesClause wb_X7_takesClause_0
  refine mp_head (b := b) h hc0 (fun q x hq hx kx gx => ?_) (fun q x hq hx wx kx gx => ?_)
  · rw [if_pos rfl]
    rcases hX with ⟨q', hq', hr⟩ | ⟨q1, hq1, _⟩
    · rw [hq] at hq'
      injection hq' with _ hq'
      subst hq'
      exact h0 q x hr hx.2.1 kx gx
    · rw [hq] at hq1
      injection hq1 with y _
      exact absurd y (by decide)
  · rw [if_neg (by decide)]
    have gx8 : fr_of fp_c8 v x := fr_mono (fun t i k y => by unfold fp_c8; omega) gx
    have qq := gwd_q _ _ _ hq
    rcases hX with ⟨q', hq', hr⟩ | ⟨q1, hq1, hX⟩
    · rw [hq] at hq'
      injection hq' with y _
      exact absurd y (by decide)
    rw [hq] at hq1
    injection hq1 with _ hq1
    subst hq1
    refine mp_num hx (fun k => ?_) (fun k y hy ny gy => ?_)
    · rw [if_pos rfl]
      rcases hX with ⟨_, hr⟩ | ⟨k2, _⟩
      · exact h0 q x hr hx.2.1 kx gx8
      · exact absurd k k2
    · rw [if_neg (by decide)]
      rcases hX with ⟨k2, _⟩ | ⟨_, hX⟩
      · exact absurd k2 k
      have w3 : hd_w T S p ≤ 3 := hd_lt
      have ky : kc c0 b v y := kc_trans kx (kc_fr gy (fun t _ _ => by unfold fp_n; omega))
      have gy8 : fr_of fp_c8 v y := fr_trans gx8 (fr_mono (fun _ _ _ z => fp_nc z) gy)
      rw [pw_and (vp_in_nI hc0 (by omega)), nI_clamp (by omega), ny]
      intro u8 e8
      obtain ⟨k8, g8, n8⟩ := kc_up (b := b) (by omega) (by omega) e8
      have kk8 : kc c0 b v u8 := kc_trans ky k8
      have gg8 : fr_of fp_c8 v u8 := fr_trans gy8 (fr_mono (fun t i k z => by unfold fp_c8; omega) g8)
      have w8 : pa_A u8 32 0 c0 = nI (hd_w T S p) := by rw [g8.2.1 32 0 (by omega), gy.2.1 32 0 (by unfold fp_n; omega)]; exact wx
      have h8 : rx u8 T S (q + nu_k T S q) := rx_fr g8 (by omega) (by omega) (by omega) (by omega) hy
      have gvy : fr_of (fun t _ k => (t = 24 ∧ (k = 11 ∨ k = 12)) ∨ t = 32 ∨ t = 33) v u8 := fr_trans (fr_mono (fun t i k z => by omega) gx) (fr_trans (fr_mono (fun t i k z => by unfold fp_n at z; omega) gy) (fr_mono (fun t i k z => by omega) g8))
      have B8 : rB u8 b B := rB_fr gvy (by omega) (by omega) hB
      rw [pw_and (vp_in_nI hc0 (by omega)), w8]
      rcases hX with ⟨w2, hr⟩ | ⟨w2, hX⟩
      · rw [if_pos (show (2 : Int32) ≤ nI (hd_w T S p) from nI_le (a := 2) w2 (by omega))]
        refine h1 _ _ u8 hr h8 (by rw [List.append_nil]; exact B8) (by rw [List.append_nil]; omega) w8 n8 (fun z => ?_) kk8 gg8
        have z : hd_w T S p < 2 := z
        omega
      · rw [if_neg (show ¬ (2 : Int32) ≤ nI (hd_w T S p) from nI_ge (b := 2) w2 (by omega))]
        rcases hX with ⟨s, hr⟩ | ⟨s, hX⟩
        · rw [rk_0 (x := 32) h8 rfl s (by decide), if_pos rfl]
          exact h0 _ u8 hr h8.2.1 kk8 gg8
        · refine rk_1 h8 rfl s (by decide) (fun y2 hy2 gy2 => ?_)
          rw [if_neg (by decide)]
          -- E
          have hE : ∃ R, gR T S [] (q + nu_k T S q + 1) [] 0 R ∧ (R.1 = false → R.2.2 = []) ∧ r = (R.1, R.2.1, if R.1 then (hd_w T S p, nu_v T S q, R.2.2) else cl_z) := by
            rcases hX with ⟨q4, hq4, hr⟩ | ⟨q4, c, hq4, hr⟩
            · exact ⟨_, hq4, fun _ => rfl, hr⟩
            · exact ⟨_, hq4, fun z => Bool.noConfusion (show true = false from z), hr⟩
          obtain ⟨R, hR, hRn, hr⟩ := hE
          unfold wp_X7_takesE wb_X7_takesE_0
          intro u1 e1 u2 e2
          have g1 : fr_of (fun t _ k => t = 24 ∧ k = 22) y2 u1 := by rw [e1]; exact fr_sI ⟨rfl, rfl⟩ (fr_refl y2)
          have g2 : fr_of (fun t _ k => t = 24 ∧ k = 23) u1 u2 := by rw [e2]; exact fr_sI ⟨rfl, rfl⟩ (fr_refl u1)
          have g12 : fr_of (fun t _ k => t = 24 ∧ (k = 22 ∨ k = 23)) y2 u2 := fr_trans (fr_mono (fun t i k z => by omega) g1) (fr_mono (fun t i k z => by omega) g2)
          have B2 : rB u2 b B := rB_fr g12 (by omega) (by omega) (rB_fr gy2 (by omega) (by omega) B8)
          rw [pw_and (vp_in_nI hc0 (by omega)), nI_clamp (by omega), B2.1]
          intro u4 e4
          obtain ⟨k4, g4, n4⟩ := kc_up (b := b) (by omega) (by omega) e4
          have x4 : rx u4 T S (q + nu_k T S q + 1) := rx_fr g4 (by omega) (by omega) (by omega) (by omega) (rx_fr g12 (by omega) (by omega) (by omega) (by omega) hy2)
          have K4 : kc c0 b v u4 := kc_trans kk8 (kc_trans (kc_fr gy2 (fun t _ _ => by omega)) (kc_trans (kc_fr g12 (fun t _ _ => by omega)) k4))
          have G4 : fr_of fp_c8 v u4 := fr_trans gg8 (fr_trans (fr_mono (fun t i k z => by unfold fp_c8; omega) gy2) (fr_trans (fr_mono (fun t i k z => by unfold fp_c8; omega) g12) (fr_mono (fun t i k z => by unfold fp_c8; omega) g4)))
          have W4 : rW u4 [] := by
            refine ⟨?_, trivial, ?_, fun c hc => absurd hc (by simp)⟩
            · rw [g4.1 24 0 22 (by omega), g2.1 24 0 22 (by omega), e1, pI_sI, if_pos ⟨rfl, rfl, rfl⟩]; rfl
            · rw [g4.1 24 0 23 (by omega), e2, pI_sI, if_pos ⟨rfl, rfl, rfl⟩]; rfl
          have w4 : pa_A u4 32 0 c0 = nI (hd_w T S p) := by rw [g4.2.1 32 0 (by omega), g12.2.1 32 0 (by omega), gy2.2.1 32 0 (by omega)]; exact w8
          have m4 : pa_A u4 33 0 c0 = nI (nu_v T S q) := by rw [g4.2.1 33 0 (by omega), g12.2.1 33 0 (by omega), gy2.2.1 33 0 (by omega)]; exact n8
          have hE4 : rE u4 T S (q + nu_k T S q + 1) b (B ++ []) [] := ⟨x4, by rw [List.append_nil]; exact rB_fr g4 (by omega) (by omega) B2, W4⟩
          have hle := r_E (T := T) (S := S) (R := R) hb hc0 B 200 5000 [] (q + nu_k T S q + 1) [] 0 u4
          refine hle _ (by omega) (by omega) (Or.inl rfl) hR (show B.length + 0 + 0 ≤ q + nu_k T S q + 1 by omega) hE4 (fun q4 z hRz hz lz uz gz => ?_) (fun q4 c z hRz hz hBz h35 lz uz gz => ?_)
          · rw [if_pos rfl]
            subst hRz
            refine h0 q4 z hr hz (kc_trans K4 ⟨fun t j a1 a2 a3 => ?_, lz⟩) (fr_trans G4 (fr_mono (fun _ _ _ z => fp_8c z) gz))
            by_cases t35 : t = 35
            · subst t35; exact uz j a3
            · rw [gz.2.1 t 0 (by unfold fp_e8; omega)]
          · rw [if_neg (by decide)]
            subst hRz
            obtain ⟨nn, hnn⟩ := hR
            have gl := gm_len nn _ _ _ _ q4 c hnn
            rw [List.length_nil, List.length_nil] at gl
            refine h1 q4 (hd_w T S p, nu_v T S q, c) z hr hz hBz (by rw [List.length_append]; show B.length + c.length ≤ q4; omega) ?_ ?_ (fun _ => ⟨?_, ?_⟩) (kc_trans K4 ⟨fun t j a1 a2 a3 => ?_, lz⟩) (fr_trans G4 (fr_mono (fun _ _ _ z => fp_8c z) gz))
            · rw [gz.2.1 32 0 (by unfold fp_e8; omega)]; exact w4
            · rw [gz.2.1 33 0 (by unfold fp_e8; omega)]; exact m4
            · rw [gz.2.1 34 0 (by unfold fp_e8; omega)]; exact n4
            · rw [h35, List.length_append, Nat.add_assoc]
            · by_cases t35 : t = 35
              · subst t35; exact uz j a3
              · rw [gz.2.1 t 0 (by unfold fp_e8; omega)]
/-! the text -/
def kp (i b : Nat) (v x : pa_S) : Prop := (∀ t j, 32 ≤ t → t ≤ 35 → j < i → pa_A x t 0 j = pa_A v t 0 j) ∧ lo_f b v x
theorem kp_trans {i b : Nat} {v x y : pa_S} (h : kp i b v x) (h2 : kp i b x y) : kp i b v y := ⟨fun t j a b c => (h2.1 t j a b c).trans (h.1 t j a b c), lo_trans h.2 h2.2⟩
theorem kp_c {i b : Nat} {v x : pa_S} (h : kc i b v x) : kp i b v x := ⟨fun t j a b c => h.1 t j a b (by omega), h.2⟩
theorem kp_dn {i k b : Nat} {v x : pa_S} (hk : k ≤ i) (h : kp i b v x) : kp k b v x := ⟨fun t j a b c => h.1 t j a b (by omega), h.2⟩
theorem kp_fr {P : Nat → Nat → Nat → Prop} {i b : Nat} {v x : pa_S} (g : fr_of P v x) (h : ∀ t, 32 ≤ t → t ≤ 36 → ¬ P t 0 100) : kp i b v x :=
  ⟨fun t j a b _ => by rw [g.2.1 _ _ (h t a (by omega))], lo_fr g (h 36 (by omega) (by omega))⟩
def rC (v : pa_S) (b : Nat) : Nat → Nat → List pw_Cl → Prop
  | _, _, [] => True
  | i, off, c :: cs => pa_A v 32 0 i = nI c.1 ∧ pa_A v 33 0 i = nI c.2.1 ∧ (c.1 < 2 → pa_A v 34 0 i = nI (b + off) ∧ pa_A v 35 0 i = nI (b + off + c.2.2.length)) ∧ rC v b (i + 1) (off + c.2.2.length) cs
def cs_t : List pw_Cl → List (Nat × Nat)
  | [] => []
  | c :: cs => c.2.2 ++ cs_t cs
def fp_tx (t i k : Nat) : Prop := (t = 24 ∧ (k = 11 ∨ k = 12 ∨ k = 21 ∨ k = 22 ∨ k = 23)) ∨ (31 ≤ t ∧ t ≤ 37)
theorem fp_ct {t i k : Nat} (h : fp_c8 t i k) : fp_tx t i k := by unfold fp_c8 at h; unfold fp_tx; omega
def ot_1 (f : Nat) (v x : pa_S) : Prop := ∀ j, j ≠ f → pa_A x 31 0 j = pa_A v 31 0 j
theorem ot_trans {f : Nat} {v x y : pa_S} (h : ot_1 f v x) (h2 : ot_1 f x y) : ot_1 f v y := fun j a => (h2 j a).trans (h j a)
theorem ot_fr {P : Nat → Nat → Nat → Prop} {f : Nat} {v x : pa_S} (g : fr_of P v x) (h : ¬ P 31 0 100) : ot_1 f v x := fun j _ => by rw [g.2.1 _ _ h]
/-- the count of clauses is written -/
theorem st_31 {f n : Nat} {x y : pa_S} (e : y = pa_sA x 31 0 (upd (pa_A x 31 0) f (nI n))) : fr_of (fun t _ _ => t = 31) x y ∧ ot_1 f x y ∧ pa_A y 31 0 f = nI n := by
  refine ⟨by rw [e]; exact fr_sA rfl (fr_refl x), fun j hj => by rw [e, pa_A_sA_self, pw_upd, if_neg hj], by rw [e, pa_A_sA_self, pw_upd, if_pos rfl]⟩
theorem ml_text1 {g : Nat} {b : Nat} (hb : b ≤ 500) (hg : g < 6) : ∀ (CS : List pw_Cl) (f n p : Nat) (B : List (Nat × Nat)) (v : pa_S) (po : Int32 → pa_S → Prop), tR T S p CS → CS.length + n ≤ 10 → CS.length < f → rx v T S p → rB v b B → B.length ≤ p →
    (∀ x, rx x T S S → rB x b (B ++ cs_t CS) → rC x b (10 * g + n) B.length CS → pa_A x 31 0 g = nI (n + CS.length) → kp (10 * g + n) b v x → ot_1 g v x → fr_of fp_tx v x → po 1 x) → wl_X7_goesText_15 po f v (nI g) (nI n) := by
  intro CS
  induction CS with
  | nil => intro f n p B v po h; exact absurd h (by unfold tR; exact fun y => y)
  | cons c cs ih =>
    intro f n p B v po h hn hf hv hB hl hk
    rw [List.length_cons] at hn hf hk
    obtain ⟨f, rfl⟩ : ∃ g, f = g + 1 := ⟨f - 1, by omega⟩
    obtain ⟨q, hX, hend⟩ := h
    have hS := hv.1.2.1
    unfold wl_X7_goesText_15 wb_X7_goesText_15
    rw [show (10 : Int32) * nI g + nI n = nI (10 * g + n) by rw [pw_n10, pk_mul, nI_add]]
    refine mp_clause hX hv hB hb (by omega) hl (fun q' x hr _ _ _ => Bool.noConfusion (show true = false from congrArg Prod.fst hr)) (fun q' c' x hr hx hBx hlx w1 w2 w3 kx gx => ?_)
    injection hr with _ hr
    injection hr with hr1 hr2
    subst hr1 hr2
    rw [if_neg (by decide), pw_n1, nI_add]
    intro v6 e6
    subst e6
    rw [pw_and (vp_in_nI hg (by omega)), nI_clamp (by omega)]
    intro u8 e8
    obtain ⟨g8, o8, n8⟩ := st_31 e8
    have h8 : rx u8 T S q := rx_fr g8 (by omega) (by omega) (by omega) (by omega) hx
    have B8 : rB u8 b (B ++ c.2.2) := rB_fr g8 (by omega) (by omega) hBx
    have gt : fr_of fp_tx v u8 := fr_trans (fr_mono (fun _ _ _ y => fp_ct y) gx) (fr_mono (fun t i k y => by unfold fp_tx; omega) g8)
    have kt : kp (10 * g + n) b v u8 := kp_trans (kp_c kx) (kp_fr g8 (fun t _ _ => by omega))
    have ot : ot_1 g v u8 := ot_trans (ot_fr gx (by unfold fp_c8; omega)) o8
    have cells : pa_A u8 32 0 (10 * g + n) = nI c.1 ∧ pa_A u8 33 0 (10 * g + n) = nI c.2.1 ∧ (c.1 < 2 → pa_A u8 34 0 (10 * g + n) = nI (b + B.length) ∧ pa_A u8 35 0 (10 * g + n) = nI (b + B.length + c.2.2.length)) := by
      rw [g8.2.1 32 0 (by omega), g8.2.1 33 0 (by omega), g8.2.1 34 0 (by omega), g8.2.1 35 0 (by omega)]
      exact ⟨w1, w2, w3⟩
    rw [h8.2.1, h8.1.1]
    rcases hend with ⟨rfl, rfl⟩ | ⟨hq, h59, hrest⟩
    · rw [if_pos rfl]
      refine hk u8 h8 ?_ ⟨cells.1, cells.2.1, cells.2.2, trivial⟩ n8 kt ot gt
      show rB u8 b (B ++ (c.2.2 ++ []))
      rw [List.append_nil]
      exact B8
    · have hqS := h8.2.2
      rw [if_neg (fun y => hq ((nI_eq (by omega) (by omega)).mp y))]
      have n10 : ¬ nI (n + 1) = 10 := by
        intro y
        have := (nI_eq (b := 10) (by omega) (by omega)).mp y
        rcases cs with _ | ⟨c2, cs⟩
        · exact absurd hrest (by unfold tR; exact fun y => y)
        · rw [List.length_cons] at hn; omega
      rw [if_neg n10]
      refine rk_1 h8 rfl h59 (by decide) (fun y hy gy => ?_)
      rw [if_neg (by decide)]
      have gty : fr_of fp_tx v y := fr_trans gt (fr_mono (fun t i k z => by unfold fp_tx; omega) gy)
      refine ih f (n + 1) (q + 1) (B ++ c.2.2) y po hrest (by omega) (by omega) hy (rB_fr gy (by omega) (by omega) B8) (by omega) (fun z hz hBz hCz n31 kz oz gz => ?_)
      refine hk z hz (by show rB z b (B ++ (c.2.2 ++ cs_t cs)); rw [← List.append_assoc]; exact hBz) ?_ (by rw [n31]; exact congrArg nI (by omega)) (kp_trans kt (kp_trans (kp_fr gy (fun t _ _ => by omega)) (kp_dn (by omega) kz))) (ot_trans ot (ot_trans (ot_fr gy (by omega)) oz)) (fr_trans gty gz)
      have kyz : ∀ t, 32 ≤ t → t ≤ 35 → pa_A z t 0 (10 * g + n) = pa_A u8 t 0 (10 * g + n) := fun t t1 t2 => by rw [kz.1 t _ t1 t2 (by omega), gy.2.1 t 0 (by omega)]
      refine ⟨by rw [kyz 32 (by omega) (by omega)]; exact cells.1, by rw [kyz 33 (by omega) (by omega)]; exact cells.2.1, by rw [kyz 34 (by omega) (by omega), kyz 35 (by omega) (by omega)]; exact cells.2.2, ?_⟩
      rw [List.length_append] at hCz
      exact hCz
theorem ml_text0 {g : Nat} {b : Nat} (hb : b ≤ 500) (hg : g < 6) : ∀ (k f n p q : Nat) (B : List (Nat × Nat)) (v : pa_S) (po : Int32 → pa_S → Prop), tF T S k p q → n + k = 10 → k < f → rx v T S p → rB v b B → B.length ≤ p →
    (∀ x, pa_I x 24 0 11 = nI q → kp (10 * g + n) b v x → ot_1 g v x → fr_of fp_tx v x → po 0 x) → wl_X7_goesText_15 po f v (nI g) (nI n) := by
  intro k
  induction k with
  | zero => intro f n p q B v po h; exact absurd h (by unfold tF; exact fun y => y)
  | succ k ih =>
    intro f n p q B v po h hn hf hv hB hl hk
    obtain ⟨f, rfl⟩ : ∃ g, f = g + 1 := ⟨f - 1, by omega⟩
    have hS := hv.1.2.1
    unfold wl_X7_goesText_15 wb_X7_goesText_15
    rw [show (10 : Int32) * nI g + nI n = nI (10 * g + n) by rw [pw_n10, pk_mul, nI_add]]
    rcases h with hX | ⟨q1, c, hX, hq1, hend⟩
    · refine mp_clause hX hv hB hb (by omega) hl (fun q' x hr hx kx gx => ?_) (fun q' c' x hr _ _ _ _ _ _ _ _ => Bool.noConfusion (show false = true from congrArg Prod.fst hr))
      injection hr with _ hr
      injection hr with hr1 _
      subst hr1
      rw [if_pos rfl]
      exact hk x hx (kp_c kx) (ot_fr gx (by unfold fp_c8; omega)) (fr_mono (fun _ _ _ y => fp_ct y) gx)
    · refine mp_clause hX hv hB hb (by omega) hl (fun q' x hr _ _ _ => Bool.noConfusion (show true = false from congrArg Prod.fst hr)) (fun q' c' x hr hx hBx hlx w1 w2 w3 kx gx => ?_)
      injection hr with _ hr
      injection hr with hr1 hr2
      subst hr1 hr2
      rw [if_neg (by decide), pw_n1, nI_add]
      intro v6 e6
      subst e6
      rw [pw_and (vp_in_nI hg (by omega)), nI_clamp (by omega)]
      intro u8 e8
      obtain ⟨g8, o8, n8⟩ := st_31 e8
      have h8 : rx u8 T S q1 := rx_fr g8 (by omega) (by omega) (by omega) (by omega) hx
      have B8 : rB u8 b (B ++ c.2.2) := rB_fr g8 (by omega) (by omega) hBx
      have gt : fr_of fp_tx v u8 := fr_trans (fr_mono (fun _ _ _ y => fp_ct y) gx) (fr_mono (fun t i k y => by unfold fp_tx; omega) g8)
      have kt : kp (10 * g + n) b v u8 := kp_trans (kp_c kx) (kp_fr g8 (fun t _ _ => by omega))
      have ot : ot_1 g v u8 := ot_trans (ot_fr gx (by unfold fp_c8; omega)) o8
      have hqS := h8.2.2
      rw [h8.2.1, h8.1.1, if_neg (fun y => hq1 ((nI_eq (by omega) (by omega)).mp y))]
      rcases hend with ⟨hk0, rfl⟩ | ⟨hk0, hend⟩
      · rw [if_pos (show nI (n + 1) = 10 by rw [show n + 1 = 10 by omega]; rfl)]
        exact hk u8 h8.2.1 kt ot gt
      · rw [if_neg (show ¬ nI (n + 1) = 10 from fun y => by
          have := (nI_eq (b := 10) (by omega) (by omega)).mp y
          omega)]
        rcases hend with ⟨h59, rfl⟩ | ⟨h59, hrest⟩
        · rw [rk_0 (x := 59) h8 rfl h59 (by decide), if_pos rfl]
          exact hk u8 h8.2.1 kt ot gt
        · refine rk_1 h8 rfl h59 (by decide) (fun y hy gy => ?_)
          rw [if_neg (by decide)]
          have gty : fr_of fp_tx v y := fr_trans gt (fr_mono (fun t i k z => by unfold fp_tx; omega) gy)
          exact ih f (n + 1) (q1 + 1) q (B ++ c.2.2) y po hrest (by omega) (by omega) hy (rB_fr gy (by omega) (by omega) B8) (by omega) (fun z hz kz oz gz => hk z hz (kp_trans kt (kp_trans (kp_fr gy (fun t _ _ => by omega)) (kp_dn (by omega) kz))) (ot_trans ot (ot_trans (ot_fr gy (by omega)) oz)) (fr_trans gty gz))
end RCL
