/-! ledgers: book -/
def le_up (g : Nat → Int32) (z : Nat) (x1 x2 x3 x4 : Int32) : Nat → Int32 := upd (upd (upd (upd g (4 * z) x1) (4 * z + 1) x2) (4 * z + 2) x3) (4 * z + 3) x4
theorem sp_add {u : pa_S} {i z : Nat} {x1 x2 x3 x4 : Int32} {po : Int32 → pa_S → Prop} (h : pa_I u 8 i 1 = nI z) (hz : z < 10)
    (hk : po (nI (z + 1)) (pa_sI (pa_sA u 9 i (le_up (pa_A u 9 i) z x1 x2 x3 x4)) 8 i 1 (nI (z + 1)))) : wp_X2_add u i x1 x2 x3 x4 po := by
  have e4 : nI z * 4 = nI (4 * z) := by rw [pw_n4, pk_mul, Nat.mul_comm]
  unfold wp_X2_add wb_X2_add_0
  rw [h, if_neg (nI_pos (by omega)), if_neg (show ¬ (10 : Int32) ≤ nI z from nI_ge (b := 10) (by omega) (by omega)), e4, pw_and (vp_in_nI (by omega) (by omega)), nI_clamp (by omega)]
  simp only [forall_eq, pI_sA, h, e4, pw_n1, pw_n2, pw_n3, nI_add, pA_sA, and_self, if_true, pw_sA_sA]
  rw [pw_and (vp_in_nI (by omega) (by omega)), pw_and (vp_in_nI (by omega) (by omega)), pw_and (vp_in_nI (by omega) (by omega)), nI_clamp (by omega), nI_clamp (by omega), nI_clamp (by omega), pI_sI, if_pos ⟨rfl, rfl, rfl⟩]
  exact hk
theorem le_up_lo {g : Nat → Int32} {z r p : Nat} {x1 x2 x3 x4 : Int32} (h : r < z) (hp : p < 4) : le_up g z x1 x2 x3 x4 (4 * r + p) = g (4 * r + p) := by
  unfold le_up
  rw [pw_upd, if_neg (by omega), pw_upd, if_neg (by omega), pw_upd, if_neg (by omega), pw_upd, if_neg (by omega)]
theorem le_up_at {g : Nat → Int32} {z : Nat} {x1 x2 x3 x4 : Int32} : le_up g z x1 x2 x3 x4 (4 * z) = x1 ∧ le_up g z x1 x2 x3 x4 (4 * z + 1) = x2 ∧ le_up g z x1 x2 x3 x4 (4 * z + 2) = x3 ∧ le_up g z x1 x2 x3 x4 (4 * z + 3) = x4 := by
  unfold le_up
  refine ⟨?_, ?_, ?_, ?_⟩
  · rw [pw_upd, if_neg (by omega), pw_upd, if_neg (by omega), pw_upd, if_neg (by omega), pw_upd, if_pos rfl]
  · rw [pw_upd, if_neg (by omega), pw_upd, if_neg (by omega), pw_upd, if_pos rfl]
  · rw [pw_upd, if_neg (by omega), pw_upd, if_pos rfl]
  · rw [pw_upd, if_pos rfl]
def fp_L (t i k : Nat) : Prop := ((t = 8 ∨ t = 9) ∧ i ≤ 2) ∨ (t = 24 ∧ (k = 30 ∨ k = 36 ∨ k = 40)) ∨ t = 42 ∨ t = 43 ∨ (46 ≤ t ∧ t ≤ 50)
section LEDGER
variable {u v : pa_S} {w : pw_W} {e : pw_E} {N : Nat}
theorem iv_r_L (h : fr_of fp_L u v) (z : iv_r u e N) : iv_r v e N := by
  obtain ⟨z1, z2, z3, z4, z5, z6⟩ := z
  refine ⟨iv_e_fr h ?_ ?_ ?_ ?_ ?_ z1, iv_t_fr h ?_ ?_ ?_ ?_ z2, iv_i_fr h ?_ ?_ ?_ ?_ ?_ ?_ z3, iv_a_fr h ?_ ?_ ?_ ?_ z4, iv_p_fr h ?_ ?_ ?_ ?_ ?_ z5, ?_⟩
  all_goals first
    | (unfold fp_L; omega)
    | (intros; unfold fp_L; omega)
    | (unfold iv_c; rw [h.2.1 38 0 (by unfold fp_L; omega)]; exact z6)
theorem iv_L (h : fr_of fp_L u v) (z : iv_at u w e N) (hl : iv_l v (wo_n w)) : iv_I v := by
  obtain ⟨⟨hf, hd, hc, hm, hz⟩, hr, _, hn⟩ := z
  exact ⟨w, e, N, ⟨hf, hd, wo_C_fr (fun t k _ _ => by unfold fp_L; omega) (by unfold fp_L; omega) h hc, wo_M_fr h (by unfold fp_L; omega) (fun t _ _ => by unfold fp_L; omega) hm, iv_z_fr h (by unfold fp_L; omega) (by unfold fp_L; omega) hz⟩, iv_r_L h hr, hl, fun s hs => by rw [h.2.2.2 _ _ (by unfold fp_L; omega)]; exact hn s hs⟩
end LEDGER
theorem case_k16 {u : pa_S} {a1 a2 a3 a4 a5 : Int32} (hi : iv_I u) : pa_case iv_I u a1 a2 a3 a4 a5 16 := by
  have hi0 := hi
  obtain ⟨w, e, N, hw⟩ := hi
  have hf := iv_F hw
  have hc := iv_C hw
  have hm := iv_M hw
  have h5 := hf.1
  obtain ⟨l1, l2, z, hz, z1, z2, z3⟩ := hw.2.2.1
  show wp_X6_book u a1 a2 a3 _
  have X : ∀ (v : pa_S) po, wp_X7_book v a1 a2 a3 po = wb_X7_book_0 v a1 a2 a3 po := fun _ _ => rfl
  simp only [X]
  unfold wp_X6_book wb_X6_book_0
  by_cases hm1 : a1 = -1
  · rw [if_pos hm1]
    unfold wp_X2_clear wb_X2_clear_0 wb_X7_book_0
    simp only [forall_eq]
    rw [if_pos hm1]
    have g1 : fr_of (fun t i k => (t = 8 ∧ i = 2) ∨ (t = 24 ∧ k = 30)) u (pa_sI (pa_sI u 8 2 1 0) 24 0 30 0) := fr_sI (by omega) (fr_sI (by omega) (fr_refl u))
    refine ⟨by rw [pI_sI, if_pos ⟨rfl, rfl, rfl⟩], iv_L (fr_mono (fun t i k z => by unfold fp_L; omega) g1) hw ⟨le_see_fr g1 (by omega) (by omega) (by omega) (by omega) (by omega) (by omega) (Nat.le_refl _) l1, le_fair_fr g1 (by omega) (by omega) (by omega) (by omega) (by omega) (Nat.le_refl _) l2, 0, by omega, ?_, ?_, fun r hr => absurd hr (Nat.not_lt_zero r)⟩⟩
    · rw [pI_sI, if_neg (by omega), pI_sI, if_pos ⟨rfl, rfl, rfl⟩]; rfl
    · rw [pI_sI, if_pos ⟨rfl, rfl, rfl⟩]; rfl
  rw [if_neg hm1]
  rcases rg_h w a1 hf with ⟨h, hh, rfl⟩ | h
  rotate_left
  · rw [hasL_0 hf hc (Or.inl h), if_pos rfl]; dsimp only
    unfold wb_X7_book_0
    rw [if_neg hm1, ih_0 hf hm h, if_pos rfl]
    exact ⟨rfl, hi0⟩
  rcases rg_01 a2 0 2 (by omega) (by omega) with ⟨l, _, hl2, rfl⟩ | hl2
  rotate_left
  · rw [hasL_0 hf hc (Or.inr hl2), if_pos rfl]; dsimp only
    unfold wb_X7_book_0
    rw [if_neg hm1, ih_1 hf hm hh, if_neg (by decide), il_0 hl2, if_pos rfl]
    exact ⟨rfl, hi0⟩
  rw [sp_hasLine hf hc hh (by omega), if_neg (by decide)]
  rcases rg_01 a3 0 60 (by omega) (by omega) with ⟨n, _, hn2, rfl⟩ | hn2
  rotate_left
  · rw [wi_0 (A := 0) (B := 60) (lo := 0) (hi := 60) rfl rfl hn2, if_pos rfl]; dsimp only
    unfold wb_X7_book_0
    rw [if_neg hm1, ih_1 hf hm hh, if_neg (by decide), il_1 (by omega), if_neg (by decide), ig_0 hn2, if_pos rfl]
    exact ⟨rfl, hi0⟩
  rw [wi_1 (A := 0) (B := 60) (lo := 0) (hi := 60) rfl rfl (by omega) hn2 (by omega), if_neg (by decide), z1]
  by_cases hz8 : z < 8
  rotate_left
  · rw [if_neg (show ¬ nI z < 8 from nI_nlt (b := 8) (a := z) (by omega) (by omega))]; dsimp only
    unfold wb_X7_book_0
    rw [if_neg hm1, ih_1 hf hm hh, if_neg (by decide), il_1 (by omega), if_neg (by decide), ig_1 hn2, if_neg (by decide), z2, if_pos (show nI z = 8 by rw [show z = 8 by omega]; rfl)]
    exact ⟨rfl, hi0⟩
  rw [if_pos (show nI z < 8 from nI_lt (b := 8) hz8 (by omega))]
  refine sp_add z1 (by omega) ?_
  dsimp only
  generalize hv : pa_sI (pa_sA u 9 2 (le_up (pa_A u 9 2) z (nI h) (nI l) (nI n) 0)) 8 2 1 (nI (z + 1)) = v
  have gv : fr_of (fun t i k => (t = 8 ∨ t = 9) ∧ i = 2) u v := by rw [← hv]; exact fr_sI (by omega) (fr_sA (by omega) (fr_refl u))
  have hmv : wo_M v w := wo_M_fr gv (by omega) (fun t _ _ => by omega) hm
  have zv : pa_I v 24 0 30 = nI z := by rw [gv.1 24 0 30 (by omega)]; exact z2
  unfold wb_X7_book_0
  rw [if_neg hm1, ih_1 hf hmv hh, if_neg (by decide), il_1 (by omega), if_neg (by decide), ig_1 hn2, if_neg (by decide), zv, if_neg (show ¬ nI z = 8 from fun q => by have := (nI_eq (b := 8) (by omega) (by omega)).mp q; omega), pw_and (vp_in_nI (by omega) (by omega)), nI_clamp (by omega)]
  simp only [forall_eq, pI_sA, zv, pw_n3, pw_n1, pk_mul, nI_add]
  rw [pw_and (vp_in_nI (by omega) (by omega)), nI_clamp (by omega), pI_sI, if_pos ⟨rfl, rfl, rfl⟩]
  generalize hx : pa_sI (pa_sA (pa_sA v 42 0 (upd (pa_A v 42 0) z (nI (3 * h + l)))) 43 0 (upd (pa_A (pa_sA v 42 0 (upd (pa_A v 42 0) z (nI (3 * h + l)))) 43 0) z (nI n))) 24 0 30 (nI (z + 1)) = x
  have gx : fr_of (fun t i k => t = 42 ∨ t = 43 ∨ (t = 24 ∧ k = 30)) v x := by rw [← hx]; exact fr_sI (by omega) (fr_sA (by omega) (fr_sA (by omega) (fr_refl v)))
  have g : fr_of (fun t i k => ((t = 8 ∨ t = 9) ∧ i = 2) ∨ t = 42 ∨ t = 43 ∨ (t = 24 ∧ k = 30)) u x := fr_trans (fr_mono (fun _ _ _ q => Or.inl q) gv) (fr_mono (fun _ _ _ q => Or.inr q) gx)
  refine ⟨rfl, iv_L (fr_mono (fun t i k z => by unfold fp_L; omega) g) hw ⟨le_see_fr g (by omega) (by omega) (by omega) (by omega) (by omega) (by omega) (Nat.le_refl _) l1, le_fair_fr g (by omega) (by omega) (by omega) (by omega) (by omega) (Nat.le_refl _) l2, z + 1, by omega, ?_, ?_, fun r hr => ?_⟩⟩
  · rw [gx.1 8 2 1 (by omega), ← hv, pI_sI, if_pos ⟨rfl, rfl, rfl⟩]
  · rw [← hx, pI_sI, if_pos ⟨rfl, rfl, rfl⟩]
  · have e9 : pa_A x 9 2 = le_up (pa_A u 9 2) z (nI h) (nI l) (nI n) 0 := by rw [gx.2.1 9 2 (by omega), ← hv, pA_sI, pA_sA, if_pos ⟨rfl, rfl⟩]
    have e42 : pa_A x 42 0 = upd (pa_A u 42 0) z (nI (3 * h + l)) := by rw [← hx, pA_sI, pA_sA, if_neg (by omega), pA_sA, if_pos ⟨rfl, rfl⟩, gv.2.1 42 0 (by omega)]
    have e43 : pa_A x 43 0 = upd (pa_A u 43 0) z (nI n) := by rw [← hx, pA_sI, pA_sA, if_pos ⟨rfl, rfl⟩, pA_sA, if_neg (by omega), gv.2.1 43 0 (by omega)]
    rw [e9, e42, e43, pw_upd, pw_upd]
    by_cases q : r = z
    · subst q
      rw [if_pos rfl, if_pos rfl]
      exact ⟨h, l, n, hh, by omega, hn2, le_up_at.1, le_up_at.2.1, le_up_at.2.2.1, rfl, rfl⟩
    · rw [if_neg q, if_neg q]
      obtain ⟨h', l', x', b1, b2, b3, b4, b5, b6, b7⟩ := z3 r (by omega)
      exact ⟨h', l', x', b1, b2, b3, by have := le_up_lo (g := pa_A u 9 2) (z := z) (r := r) (p := 0) (x1 := nI h) (x2 := nI l) (x3 := nI n) (x4 := 0) (by omega) (by omega); rw [Nat.add_zero] at this; rw [this]; exact b4, by rw [le_up_lo (by omega) (by omega)]; exact b5, by rw [le_up_lo (by omega) (by omega)]; exact b6, b7⟩
