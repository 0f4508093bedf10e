/-! the reference's E and the machine -/
section REFE
variable {v : pa_S} {T : Nat → Nat} {S p : Nat}
theorem rE_at {b : Nat} {B : List (Nat × Nat)} {W : List Nat} {x : pa_S} {q : Nat} (h : rE v T S p b B W) (e : x = pa_sI v 24 0 11 (nI q)) (hq : q ≤ S) : rE x T S q b B W ∧ fr_of (fun t _ k => t = 24 ∧ k = 11) v x := by
  have a := rx_at h.1 e hq
  exact ⟨⟨a.1, rB_fr a.2 (by omega) (by omega) h.2.1, rW_fr a.2 (by omega) (by omega) (by omega) h.2.2⟩, a.2⟩
theorem enc_test {f r n : Nat} (hf : f < 6) (hr : r < 3) : enc_t (3 * f + r, n) = nI (1000 * f + 100 * r + n) := by
  unfold enc_t
  rw [if_pos (show (3 * f + r, n).1 < 18 by show 3 * f + r < 18; omega)]
  show nI (1000 * ((3 * f + r) / 3) + 100 * ((3 * f + r) % 3) + n) = _
  rw [show (3 * f + r) / 3 = f by omega, show (3 * f + r) % 3 = r by omega]
theorem nxv_lt {q : Nat} (h : q < S) : nxv T S q = nI (tch T S q) := by unfold nxv tch; rw [if_pos h, if_pos h]
theorem mp_test {b : Nat} {B1 o : List (Nat × Nat)} {W : List Nat} {R : Bool × Nat × List (Nat × Nat)} {po : Int32 → pa_S → Prop} (hb : b ≤ 500) (h : rE v T S p b (B1 ++ o) W) (hl : B1.length + o.length + W.length ≤ p)
    (h0 : te_k T S p ≠ 1 → ∀ x, pa_I x 24 0 11 = nI (te_f T S p) → lo_f b v x → fr_of fp_e7 v x → po 0 x)
    (hR : te_k T S p = 1 → gR T S W (te_q T S p) (o ++ [te_t T S p]) 1 R)
    (h1 : te_k T S p = 1 → ∀ W' o' x, gR T S W' (te_q T S p) o' 2 R → rE x T S (te_q T S p) b (B1 ++ o') W' → o'.length + W'.length = o.length + 1 + W.length → lo_f b v x → fr_of fp_e7 v x → po 1 x) : wp_X7_takesTest v po := by
  have hS := h.1.1.2.1
  have hp := h.1.2.2
  unfold wp_X7_takesTest wb_X7_takesTest_0
  rw [nx h.1, mp_place h.1]
  by_cases a : le_i (tch T S p) < 6
  rotate_left
  · rw [if_neg a, if_neg (by decide)]
    refine h0 (by unfold te_k; rw [if_neg (fun y => a y.1)]; decide) v ?_ (fun _ _ => rfl) (fr_refl v)
    have := le_i_le (tch T S p)
    unfold te_f; rw [if_pos (by omega)]; exact h.1.2.1
  have ap : p < S := by
    by_cases q : p < S
    · exact q
    · exfalso
      have e : tch T S p = 128 := if_neg q
      rw [e] at a
      exact absurd a (by decide)
  have ff : te_f T S p = if 60 ≤ tch T S (p + 1) ∧ tch T S (p + 1) ≤ 62 then p + 2 else p + 1 := by unfold te_f; rw [if_neg (by omega)]
  rw [if_pos a, if_pos (nI_pos' (by omega))]
  intro u4 e4
  rw [h.1.2.1, pw_n1, nI_add] at e4
  obtain ⟨h4, g4⟩ := rE_at h e4 (by omega)
  have G4 : fr_of fp_e7 v u4 := fr_mono (fun t i k y => by unfold fp_e7; omega) g4
  rw [nx h4.1, nx_in (A := 60) (B := 62) (lo := 60) (hi := 62) h4.1 rfl rfl (by omega) (by omega)]
  by_cases d : 60 ≤ tch T S (p + 1) ∧ tch T S (p + 1) ≤ 62
  rotate_left
  · rw [if_neg d, if_pos rfl]
    refine h0 (by unfold te_k; rw [if_neg (fun y => d ⟨y.2.1, y.2.2.1⟩)]; decide) u4 ?_ (lo_fr g4 (by omega)) G4
    rw [ff, if_neg d]; exact h4.1.2.1
  have dp := (tch_lt (T := T) (S := S) (p := p + 1) rfl (by omega)).1
  rw [if_pos d, if_neg (by decide)]
  intro u8 e8
  rw [h4.1.2.1, pw_n1, nI_add] at e8
  obtain ⟨h8, g8⟩ := rE_at h4 e8 (by omega)
  have G8 : fr_of fp_e7 v u8 := fr_trans G4 (fr_mono (fun t i k y => by unfold fp_e7; omega) g8)
  have l8 : lo_f b v u8 := lo_trans (lo_fr g4 (by omega)) (lo_fr g8 (by omega))
  refine mp_num h8.1 (fun q => ?_) (fun q y hy hn gy => ?_)
  · rw [if_pos rfl]
    refine h0 (by unfold te_k; rw [if_neg (fun z => z.2.2.2 q)]; decide) u8 ?_ l8 G8
    rw [ff, if_pos d]; exact h8.1.2.1
  · rw [if_neg (by decide)]
    have kk : te_k T S p = 1 := by unfold te_k; rw [if_pos ⟨a, d.1, d.2, q⟩]
    have nv := (te_ok kk).2.2
    have hy' : rE y T S (te_q T S p) b (B1 ++ o) W := ⟨hy, rB_fr gy (by unfold fp_n; omega) (by unfold fp_n; omega) h8.2.1, rW_fr gy (by unfold fp_n; omega) (by unfold fp_n; omega) (by unfold fp_n; omega) h8.2.2⟩
    have hq : te_q T S p = p + 2 + nu_k T S (p + 2) := rfl
    have hyS := hy.2.2
    have nk : 1 ≤ nu_k T S (p + 1 + 1) := by omega
    refine rE_emit (t := te_t T S p) hy' ?_ hb (by rw [List.length_append]; omega) (fun z hz lz gz => ?_)
    · rw [hn, nxv_lt dp, show nI (tch T S (p + 1)) - 60 = nI (tch T S (p + 1) - 60) from pk_sub (b := 60) d.1, pw_n1000, pk_mul, pw_n100, pk_mul, nI_add, nI_add]
      show _ = enc_t (3 * le_i (tch T S p) + (tch T S (p + 1) - 60), nu_v T S (p + 2))
      rw [enc_test a (by omega)]
    · rw [List.append_assoc] at hz
      unfold wp_X7_whole
      refine r_whole hb B1 W (o ++ [te_t T S p]) 5000 z (by omega) (by rw [List.length_append, List.length_singleton]; omega) hz (hR kk) (fun W' o' x hg hx hlx lx gx => h1 kk W' o' x hg hx (by rw [hlx, List.length_append, List.length_singleton]) (lo_trans l8 (lo_trans (lo_fr gy (by unfold fp_n; omega)) (lo_trans lz lx))) (fr_trans G8 (fr_trans (fr_mono (fun _ _ _ y => fp_n7 y) gy) (fr_trans gz gx))))
def up_f (c0 : Nat) (v x : pa_S) : Prop := ∀ j, j ≠ c0 → pa_A x 35 0 j = pa_A v 35 0 j
theorem up_fr {P : Nat → Nat → Nat → Prop} {c0 : Nat} {v x : pa_S} (g : fr_of P v x) (h : ¬ P 35 0 100) : up_f c0 v x := fun j _ => by rw [g.2.1 _ _ h]
theorem up_trans {c0 : Nat} {v x y : pa_S} (h : up_f c0 v x) (h2 : up_f c0 x y) : up_f c0 v y := fun j hj => (h2 j hj).trans (h j hj)
/-- a sign is pushed -/
theorem rE_push {b : Nat} {B : List (Nat × Nat)} {W : List Nat} {c g' : Nat} {x1 x2 x3 : pa_S} (h : rE v T S p b B W) (hW : W.length ≤ 100) (hc : c = 33 ∨ c = 40 ∨ c = 38 ∨ c = 124) (hg : pa_I v 24 0 23 = nI g') (hgg : gop (c :: W) = g')
    (e1 : x1 = pa_sA v 37 0 (upd (pa_A v 37 0) W.length (nI c))) (e2 : x2 = pa_sI x1 24 0 22 (nI (W.length + 1))) (e3 : x3 = pa_sI x2 24 0 11 (nI (p + 1))) (hp : p < S) :
    rE x3 T S (p + 1) b B (c :: W) ∧ fr_of fp_e7 v x3 ∧ lo_f b v x3 := by
  have g1 : fr_of (fun t _ _ => t = 37) v x1 := by rw [e1]; exact fr_sA rfl (fr_refl v)
  have g2 : fr_of (fun t _ k => t = 24 ∧ k = 22) x1 x2 := by rw [e2]; exact fr_sI ⟨rfl, rfl⟩ (fr_refl x1)
  have g3 : fr_of (fun t _ k => t = 24 ∧ k = 11) x2 x3 := by rw [e3]; exact fr_sI ⟨rfl, rfl⟩ (fr_refl x2)
  have G : fr_of (fun t _ k => (t = 24 ∧ (k = 22 ∨ k = 11)) ∨ t = 37) v x3 := fr_trans (fr_mono (fun t i k y => by omega) g1) (fr_trans (fr_mono (fun t i k y => by omega) g2) (fr_mono (fun t i k y => by omega) g3))
  have a37 : pa_A x3 37 0 = upd (pa_A v 37 0) W.length (nI c) := by rw [g3.2.1 37 0 (by omega), g2.2.1 37 0 (by omega), e1, pa_A_sA_self]
  refine ⟨⟨⟨rx_T_fr G (by omega) (by omega) (by omega) h.1.1, by rw [e3, pI_sI, if_pos ⟨rfl, rfl, rfl⟩], by omega⟩, rB_fr G (by omega) (by omega) h.2.1, ?_, ⟨?_, rst_up a37 (Nat.le_refl _) h.2.2.2.1⟩, ?_, fun d hd => ?_⟩, fr_mono (fun t i k y => by unfold fp_e7; omega) G, lo_fr G (by omega)⟩
  · rw [g3.1 24 0 22 (by omega), e2, pI_sI, if_pos ⟨rfl, rfl, rfl⟩, List.length_cons]
  · rw [a37, pw_upd, if_pos rfl]
  · rw [G.1 24 0 23 (by omega), hg, hgg]
  · rcases List.mem_cons.mp hd with rfl | hd
    · exact hc
    · exact h.2.2.2.2.2 d hd
theorem r_E {b c0 : Nat} {R : Bool × Nat × List (Nat × Nat)} (hb : b ≤ 500) (hc0 : c0 < 60) (B1 : List (Nat × Nat)) :
    ∀ (k f : Nat) (W : List Nat) (p : Nat) (o : List (Nat × Nat)) (m : Nat) (v : pa_S) (po : Int32 → pa_S → Prop), S < p + k → k ≤ f → (m = 0 ∨ m = 2) → gR T S W p o m R → B1.length + o.length + W.length ≤ p → rE v T S p b (B1 ++ o) W →
      (∀ q x, R = (false, q, []) → pa_I x 24 0 11 = nI q → lo_f b v x → up_f c0 v x → fr_of fp_e8 v x → po 0 x) →
      (∀ q c x, R = (true, q, c) → rx x T S q → rB x b (B1 ++ c) → pa_A x 35 0 c0 = nI (b + (B1 ++ c).length) → lo_f b v x → up_f c0 v x → fr_of fp_e8 v x → po 1 x) →
      wl_X7_takesE_22 po f v (nI c0) (if m = 0 then 1 else 0) := by
  intro k
  induction k with
  | zero =>
    intro f W p o m v po hk _ _ _ _ h _ _
    have := h.1.2.2
    omega
  | succ k ih =>
    intro f W p o m v po hk hf hm hR hl h h0 h1
    obtain ⟨f, rfl⟩ : ∃ g, f = g + 1 := ⟨f - 1, by omega⟩
    have hS := h.1.1.2.1
    have hp := h.1.2.2
    have hg := h.2.2.2.2.1
    obtain ⟨n, hn⟩ := hR
    rcases n with _ | n
    · exact absurd hn (by unfold gm; simp)
    have e33 : (nxv T S p = 33) = (tch T S p = 33) := nx_eq h.1 (c := 33) (by decide)
    have e40 : (nxv T S p = 40) = (tch T S p = 40) := nx_eq h.1 (c := 40) (by decide)
    have e38 : (nxv T S p = 38) = (tch T S p = 38) := nx_eq h.1 (c := 38) (by decide)
    have e124 : (nxv T S p = 124) = (tch T S p = 124) := nx_eq h.1 (c := 124) (by decide)
    have e41 : (nxv T S p = 41) = (tch T S p = 41) := nx_eq h.1 (c := 41) (by decide)
    unfold wl_X7_takesE_22 wb_X7_takesE_22
    rw [nx h.1]
    rcases hm with rfl | rfl
    · -- an operand is wanted
      rw [if_neg (show ¬ (if 0 = 0 then (1 : Int32) else 0) = 0 by decide)]
      have hn : (if tch T S p = 33 ∨ tch T S p = 40 then (if gop W = 4 then some (false, p, []) else gm T S n (tch T S p :: W) (p + 1) o 0) else if te_k T S p = 1 then gm T S n W (te_q T S p) (o ++ [te_t T S p]) 1 else some (false, te_f T S p, [])) = some R := hn
      have push : ∀ c, (c = 33 ∨ c = 40) → tch T S p = c → wb_X7_takesE_43 (fun u0 x1 x2 => wl_X7_takesE_22 po f u0 x1 x2) v (nI c0) (if 0 = 0 then 1 else 0) (nxv T S p) po := by
        intro c hc hcc
        have lp := (tch_lt hcc (by omega)).1
        rw [if_pos (by omega)] at hn
        have ev : nxv T S p = nI c := by rw [nx_eq h.1 (by omega)]; exact hcc
        unfold wb_X7_takesE_43
        rw [hg, ev]
        by_cases q : gop W = 4
        · rw [if_pos q] at hn
          rw [if_pos (show nI (gop W) = 4 by rw [q]; rfl)]
          exact h0 p v (Option.some.inj hn).symm h.1.2.1 (fun _ _ => rfl) (fun _ _ => rfl) (fr_refl v)
        · rw [if_neg q] at hn
          have g4 : gop W < 101 := by
            have : ∀ W : List Nat, gop W ≤ W.length := by
              intro W
              induction W with
              | nil => exact Nat.le_refl _
              | cons c W ih =>
                unfold gop
                rw [List.length_cons]
                split <;> omega
            have := this W
            omega
          rw [if_neg (show ¬ nI (gop W) = 4 from fun y => q ((nI_eq (b := 4) (by omega) (by omega)).mp y)), pw_n1, nI_add]
          intro u28 e28
          have g28 : fr_of (fun t _ k => t = 24 ∧ k = 23) v u28 := by rw [e28]; exact fr_sI ⟨rfl, rfl⟩ (fr_refl v)
          rw [g28.1 24 0 22 (by omega), h.2.2.1, pw_and (vp_in_nI (by omega) (by omega)), nI_clamp (by omega)]
          intro u30 e30
          have g30 : fr_of (fun t _ _ => t = 37) u28 u30 := by rw [e30]; exact fr_sA rfl (fr_refl u28)
          rw [g30.1 24 0 22 (by omega), g28.1 24 0 22 (by omega), h.2.2.1, nI_add]
          intro u31 e31
          have g31 : fr_of (fun t _ k => t = 24 ∧ k = 22) u30 u31 := by rw [e31]; exact fr_sI ⟨rfl, rfl⟩ (fr_refl u30)
          rw [g31.1 24 0 11 (by omega), g30.1 24 0 11 (by omega), g28.1 24 0 11 (by omega), h.1.2.1, nI_add]
          intro u32 e32
          -- seen from the state whose count of opened ones is up
          have h28x : rx u28 T S p := rx_fr g28 (by omega) (by omega) (by omega) (by omega) h.1
          have h28 : rst u28 W := rst_fr (g28.2.1 37 0 (by omega)) h.2.2.2.1
          have G : fr_of (fun t _ k => (t = 24 ∧ (k = 22 ∨ k = 11 ∨ k = 23)) ∨ t = 37) v u32 := fr_trans (fr_mono (fun t i k y => by omega) g28) (fr_trans (fr_mono (fun t i k y => by omega) g30) (fr_trans (fr_mono (fun t i k y => by omega) g31) (by rw [e32]; exact fr_sI (by omega) (fr_refl u31))))
          have g32 : fr_of (fun t _ k => t = 24 ∧ k = 11) u31 u32 := by rw [e32]; exact fr_sI ⟨rfl, rfl⟩ (fr_refl u31)
          have a37 : pa_A u32 37 0 = upd (pa_A u28 37 0) W.length (nI c) := by rw [g32.2.1 37 0 (by omega), g31.2.1 37 0 (by omega), e30, pa_A_sA_self]
          have hE : rE u32 T S (p + 1) b (B1 ++ o) (c :: W) := by
            refine ⟨⟨rx_T_fr G (by omega) (by omega) (by omega) h.1.1, by rw [e32, pI_sI, if_pos ⟨rfl, rfl, rfl⟩], by omega⟩, rB_fr G (by omega) (by omega) h.2.1, ?_, ⟨?_, rst_up a37 (Nat.le_refl _) h28⟩, ?_, fun d hd => ?_⟩
            · rw [g32.1 24 0 22 (by omega), e31, pI_sI, if_pos ⟨rfl, rfl, rfl⟩, List.length_cons]
            · rw [a37, pw_upd, if_pos rfl]
            · rw [g32.1 24 0 23 (by omega), g31.1 24 0 23 (by omega), g30.1 24 0 23 (by omega), e28, pI_sI, if_pos ⟨rfl, rfl, rfl⟩]
              show _ = nI ((if c = 33 ∨ c = 40 then 1 else 0) + gop W)
              rw [if_pos hc, Nat.add_comm]
            · rcases List.mem_cons.mp hd with rfl | hd
              · omega
              · exact h.2.2.2.2.2 d hd
          rw [hcc] at hn
          have G8 : fr_of fp_e8 v u32 := fr_mono (fun t i k y => by unfold fp_e8; omega) G
          exact ih f (c :: W) (p + 1) o 0 u32 po (by omega) (by omega) (Or.inl rfl) ⟨n, hn⟩ (by rw [List.length_cons]; omega) hE
            (fun q x a1 a2 a3 a4 a5 => h0 q x a1 a2 (lo_trans (lo_fr G (by omega)) a3) (up_trans (up_fr G (by omega)) a4) (fr_trans G8 a5))
            (fun q c x a1 a2 a3 a4 a5 a6 a7 => h1 q c x a1 a2 a3 a4 (lo_trans (lo_fr G (by omega)) a5) (up_trans (up_fr G (by omega)) a6) (fr_trans G8 a7))
      by_cases a : tch T S p = 33
      · rw [if_pos (by rw [e33]; exact a)]
        exact push 33 (Or.inl rfl) a
      rw [if_neg (by rw [e33]; exact a)]
      by_cases d : tch T S p = 40
      · rw [if_pos (by rw [e40]; exact d)]
        exact push 40 (Or.inr rfl) d
      rw [if_neg (by rw [e40]; exact d)]
      rw [if_neg (by omega)] at hn
      refine mp_test hb h hl (R := R) (fun kk x hx lx gx => ?_) (fun kk => ⟨n, by rw [if_pos kk] at hn; exact hn⟩) (fun kk W' o' x hg hx hlx lx gx => ?_)
      · rw [if_neg kk] at hn
        rw [if_pos rfl]
        exact h0 _ x (Option.some.inj hn).symm hx lx (up_fr gx (by unfold fp_e7; omega)) (fr_mono (fun _ _ _ y => fp_78 y) gx)
      · rw [if_neg (by decide)]
        have hq : te_q T S p = p + 2 + nu_k T S (p + 2) := rfl
        have G8 : fr_of fp_e8 v x := fr_mono (fun _ _ _ y => fp_78 y) gx
        exact ih f W' (te_q T S p) o' 2 x po (by omega) (by omega) (Or.inr rfl) hg (by omega) hx
          (fun q y a1 a2 a3 a4 a5 => h0 q y a1 a2 (lo_trans lx a3) (up_trans (up_fr gx (by unfold fp_e7; omega)) a4) (fr_trans G8 a5))
          (fun q c y a1 a2 a3 a4 a5 a6 a7 => h1 q c y a1 a2 a3 a4 (lo_trans lx a5) (up_trans (up_fr gx (by unfold fp_e7; omega)) a6) (fr_trans G8 a7))
    · -- what joins
      rw [if_pos (show (if 2 = 0 then (1 : Int32) else 0) = 0 by decide)]
      have hn : (if tch T S p = 38 ∨ tch T S p = 124 then gm T S n (tch T S p :: (gse (g_s T S p) W o).1) (p + 1) (gse (g_s T S p) W o).2 0 else if (gse (g_s T S p) W o).1 = [] then some (true, p, (gse (g_s T S p) W o).2) else if tch T S p = 41 then gm T S n (gse (g_s T S p) W o).1.tail (p + 1) (gse (g_s T S p) W o).2 1 else some (false, p, [])) = some R := hn
      have push : ∀ c, (c = 38 ∨ c = 124) → tch T S p = c → wb_X7_takesE_122 (fun u0 x1 x2 => wl_X7_takesE_22 po f u0 x1 x2) v (nI c0) (nxv T S p) po := by
        intro c hc hcc
        have lp := (tch_lt hcc (by omega)).1
        rw [if_pos (by omega)] at hn
        have ev : nxv T S p = nI c := by rw [nx_eq h.1 (by omega)]; exact hcc
        have gs : g_s T S p = c := by
          unfold g_s
          rcases hc with rfl | rfl
          · rw [if_pos hcc]
          · rw [if_neg (by omega)]
        rw [gs, hcc] at hn
        unfold wb_X7_takesE_122
        rw [ev]
        unfold wp_X7_settle
        refine r_settle rfl hc hb B1 W o 5000 v (by omega) (by omega) h (fun x hx hlx lx gx => ?_)
        have hxw := hx.2.2.1
        rw [hxw, pw_and (vp_in_nI (by omega) (by omega)), nI_clamp (by omega)]
        intro u11 e11
        have g11 : fr_of (fun t _ _ => t = 37) x u11 := by rw [e11]; exact fr_sA rfl (fr_refl x)
        rw [g11.1 24 0 22 (by omega), hxw, pw_n1, nI_add]
        intro u12 e12
        have g12 : fr_of (fun t _ k => t = 24 ∧ k = 22) u11 u12 := by rw [e12]; exact fr_sI ⟨rfl, rfl⟩ (fr_refl u11)
        rw [g12.1 24 0 11 (by omega), g11.1 24 0 11 (by omega), hx.1.2.1, nI_add]
        intro u13 e13
        have gc : gop (c :: (gse c W o).1) = gop (gse c W o).1 := by
          show (if c = 33 ∨ c = 40 then 1 else 0) + _ = _
          rw [if_neg (by omega), Nat.zero_add]
        obtain ⟨hE, gE, lE⟩ := rE_push hx (by omega) (by omega) hx.2.2.2.2.1 gc e11 e12 e13 lp
        have G8 : fr_of fp_e8 v u13 := fr_mono (fun _ _ _ y => fp_78 y) (fr_trans gx gE)
        have U8 : up_f c0 v u13 := up_fr (fr_trans gx gE) (by unfold fp_e7; omega)
        exact ih f (c :: (gse c W o).1) (p + 1) (gse c W o).2 0 u13 po (by omega) (by omega) (Or.inl rfl) ⟨n, hn⟩ (by rw [List.length_cons]; omega) hE
          (fun q y a1 a2 a3 a4 a5 => h0 q y a1 a2 (lo_trans (lo_trans lx lE) a3) (up_trans U8 a4) (fr_trans G8 a5))
          (fun q c y a1 a2 a3 a4 a5 a6 a7 => h1 q c y a1 a2 a3 a4 (lo_trans (lo_trans lx lE) a5) (up_trans U8 a6) (fr_trans G8 a7))
      by_cases a : tch T S p = 38
      · rw [if_pos (by rw [e38]; exact a)]
        exact push 38 (Or.inl rfl) a
      rw [if_neg (by rw [e38]; exact a)]
      by_cases d : tch T S p = 124
      · rw [if_pos (by rw [e124]; exact d)]
        exact push 124 (Or.inr rfl) d
      rw [if_neg (by rw [e124]; exact d)]
      rw [if_neg (by omega)] at hn
      have gs : g_s T S p = 124 := by unfold g_s; rw [if_neg a]
      rw [gs] at hn
      have hx4 : ∀ W o, (∀ c, c ∈ W → c = 33 ∨ c = 40 ∨ c = 38 ∨ c = 124) → ∀ c V, (gse 124 W o).1 = c :: V → c = 33 ∨ c = 40 := by
        intro W
        induction W with
        | nil => intro o _ c V hV; exact absurd hV (by simp [gse])
        | cons e W ih =>
          intro o hW c V hV
          by_cases y : e = 38
          · subst y; rw [gse_and] at hV; exact ih _ (fun d hd => hW d (List.mem_cons_of_mem _ hd)) c V hV
          · by_cases y2 : e = 124
            · subst y2; rw [gse_or (by decide)] at hV; exact ih _ (fun d hd => hW d (List.mem_cons_of_mem _ hd)) c V hV
            · rw [gse_no y y2] at hV
              have hV : e :: W = c :: V := hV
              injection hV with hV _
              have := hW e List.mem_cons_self
              omega
      unfold wp_X7_settle
      refine r_settle (s := 124) rfl (Or.inr rfl) hb B1 W o 5000 v (by omega) (by omega) h (fun x hx hlx lx gx => ?_)
      have hx5 := hx4 W o h.2.2.2.2.2
      generalize gse 124 W o = r at *
      obtain ⟨W1, o1⟩ := r
      dsimp only at hn hx hlx hx5
      rw [pw_and (vp_in_nI hc0 (by omega)), nI_clamp (by omega), hx.2.1.1]
      intro u18 e18
      have g18 : fr_of (fun t _ _ => t = 35) x u18 := by rw [e18]; exact fr_sA rfl (fr_refl x)
      have U18 : up_f c0 v u18 := fun j hj => by
        rw [e18, pa_A_sA_self, pw_upd, if_neg hj, gx.2.1 35 0 (by unfold fp_e7; omega)]
      have h18 : rE u18 T S p b (B1 ++ o1) W1 := ⟨rx_fr g18 (by omega) (by omega) (by omega) (by omega) hx.1, rB_fr g18 (by omega) (by omega) hx.2.1, rW_fr g18 (by omega) (by omega) (by omega) hx.2.2⟩
      have G18 : fr_of fp_e8 v u18 := fr_trans (fr_mono (fun _ _ _ y => fp_78 y) gx) (fr_mono (fun t i k y => by unfold fp_e8; omega) g18)
      have L18 : lo_f b v u18 := lo_trans lx (lo_fr g18 (by omega))
      rw [h18.2.2.1]
      rcases W1 with _ | ⟨c, V⟩
      · rw [if_pos rfl] at hn
        rw [if_pos (by decide)]
        refine h1 p o1 u18 (Option.some.inj hn).symm h18.1 h18.2.1 ?_ L18 U18 G18
        rw [e18, pa_A_sA_self, pw_upd, if_pos rfl]
      · rw [if_neg (List.cons_ne_nil _ _)] at hn
        rw [List.length_cons] at hlx
        rw [if_neg (show ¬ nI (c :: V).length = 0 from nI_ne0 (by rw [List.length_cons]; omega) (by rw [List.length_cons]; omega))]
        by_cases q : tch T S p = 41
        · have lp := (tch_lt q (by omega)).1
          rw [if_pos q] at hn
          rw [if_pos (by rw [e41]; exact q), List.length_cons, show nI (V.length + 1) - 1 = nI V.length from nI_pred _]
          intro u21 e21
          have g21 : fr_of (fun t _ k => t = 24 ∧ k = 22) u18 u21 := by rw [e21]; exact fr_sI ⟨rfl, rfl⟩ (fr_refl u18)
          have w21 : pa_I u21 24 0 22 = nI V.length := by rw [e21, pI_sI, if_pos ⟨rfl, rfl, rfl⟩]
          have hcc := hx5 c V rfl
          have o21 : pa_I u21 24 0 23 = nI (1 + gop V) := by
            rw [g21.1 24 0 23 (by omega), h18.2.2.2.2.1]
            show nI ((if c = 33 ∨ c = 40 then 1 else 0) + gop V) = _
            rw [if_pos hcc]
          rw [o21, show nI (1 + gop V) - 1 = nI (gop V) from (pk_sub (b := 1) (by omega)).trans (congrArg nI (by omega))]
          intro u22 e22
          obtain ⟨h22, g22⟩ := rE_pop1 h18 g21 w21 e22
          rw [h22.1.2.1, pw_n1, nI_add]
          intro u23 e23
          obtain ⟨h23, g23⟩ := rE_at h22 e23 (by omega)
          have G23 : fr_of fp_e8 v u23 := fr_trans G18 (fr_trans (fr_mono (fun t i k y => by unfold fp_e8; omega) g22) (fr_mono (fun t i k y => by unfold fp_e8; omega) g23))
          have L23 : lo_f b v u23 := lo_trans L18 (lo_trans (lo_fr g22 (by omega)) (lo_fr g23 (by omega)))
          have U23 : up_f c0 v u23 := up_trans U18 (up_trans (up_fr g22 (by omega)) (up_fr g23 (by omega)))
          unfold wp_X7_whole
          refine r_whole hb B1 V o1 5000 u23 (by omega) (by omega) h23 ⟨n, hn⟩ (fun W' o' y hg hy hly ly gy => ?_)
          have G8 : fr_of fp_e8 v y := fr_trans G23 (fr_mono (fun _ _ _ y => fp_78 y) gy)
          have U8 : up_f c0 v y := up_trans U23 (up_fr gy (by unfold fp_e7; omega))
          exact ih f W' (p + 1) o' 2 y po (by omega) (by omega) (Or.inr rfl) hg (by omega) hy
            (fun q z a1 a2 a3 a4 a5 => h0 q z a1 a2 (lo_trans (lo_trans L23 ly) a3) (up_trans U8 a4) (fr_trans G8 a5))
            (fun q c z a1 a2 a3 a4 a5 a6 a7 => h1 q c z a1 a2 a3 a4 (lo_trans (lo_trans L23 ly) a5) (up_trans U8 a6) (fr_trans G8 a7))
        · rw [if_neg q] at hn
          rw [if_neg (by rw [e41]; exact q)]
          exact h0 p u18 (Option.some.inj hn).symm h18.1.2.1 L18 U18 G18
end REFE
