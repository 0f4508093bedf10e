/-! what a booth says: the reference -/
def bI (b : Bool) : Int32 := if b = true then 1 else 0
def pl (v : pa_S) : List Bool → Prop
  | [] => True
  | b :: r => pa_A v 39 0 r.length = bI b ∧ pl v r
theorem pl_up {v x : pa_S} {k : Nat} {c : Int32} (h : pa_A x 39 0 = upd (pa_A v 39 0) k c) : ∀ {st : List Bool}, st.length ≤ k → pl v st → pl x st
  | [], _, _ => trivial
  | d :: r, hk, hr => ⟨by rw [h, pw_upd, if_neg (by rw [List.length_cons] at hk; omega)]; exact hr.1, pl_up h (by rw [List.length_cons] at hk; omega) hr.2⟩
theorem pw_ngt {m : Nat} {k : Int32} (hm : m < 2 ^ 31) (hk : k < 0) : ¬ nI m = k := fun e => nI_pos hm (by rw [e]; exact hk)
theorem nar_b (b : Bool) : vp_nar .boolean (bI b) = bI b := by cases b <;> decide
section REV
variable {v : pa_S} {w : pw_W} {h l c0 : Nat} {po : Int32 → pa_S → Prop}
theorem mp_fact {j : Nat} {po : Int32 → Prop} (hf : wo_WF w) (hM : wo_M v w) (hh : h < wo_n w) (hl : l < 3) (hj : j < 6) : wp_X7_factOf v (nI j) (nI h) (nI l) po = po (nI (wo_f w h l j)) := by
  have h5 := hf.1
  have hd := hf.2.2.2.2.2
  unfold wp_X7_factOf wb_X7_factOf_0 wo_f
  rcases (show j = 0 ∨ j = 1 ∨ j = 2 ∨ j = 3 ∨ j = 4 ∨ j = 5 by omega) with rfl | rfl | rfl | rfl | rfl | rfl
  · rfl
  · rfl
  · rw [if_neg (by decide), if_neg (by decide), if_pos (by decide), pw_and (vp_in_nI (by omega) (by omega)), nI_clamp (by omega), (hM.2.2.2.2.1 h hh).1]; rfl
  · rw [if_neg (by decide), if_neg (by decide), if_neg (by decide), if_pos (by decide), pw_and (vp_in_nI (by omega) (by omega)), nI_clamp (by omega), (hM.2.2.2.2.1 h hh).2.1]; rfl
  · rw [if_neg (by decide), if_neg (by decide), if_neg (by decide), if_neg (by decide), if_pos (by decide), pw_n3, pk_mul, nI_add, pw_and (vp_in_nI (by omega) (by omega)), nI_clamp (by omega), hM.2.2.2.2.2.1 _ (by omega)]; rfl
  · rw [if_neg (by decide), if_neg (by decide), if_neg (by decide), if_neg (by decide), if_neg (by decide), hM.2.2.1, pw_n10, pw_rem (by omega) (by omega) (by omega)]; rfl
theorem rh_code (hf : wo_WF w) (hh : h < wo_n w) (hl : l < 3) (hc0 : c0 < 60) : ∀ (c : List (Nat × Nat)) (f k : Nat) (st : List Bool) (b : Bool) (v : pa_S) (po : Int32 → pa_S → Prop), ru (wo_f w h l) c st = some [b] → st.length ≤ 11 → pl v st → wo_M v w → pa_A v 35 0 c0 = nI (k + c.length) → (∀ i t, c[i]? = some t → pa_A v 36 0 (k + i) = enc_t t) → k + c.length ≤ 600 → c.length < f →
    (∀ x, fr_of fp_g v x → po (bI b) x) → wl_X7_holds_11 po f v (nI c0) (nI h) (nI l) (nI st.length) (nI k)
  | [], f, k, st, b, v, po, hr, hs, hp, hM, ht, hc, hk, hlt, hpo => by
    obtain ⟨f, rfl⟩ : ∃ g, f = g + 1 := ⟨f - 1, by rw [List.length_nil] at hlt; omega⟩
    obtain rfl := Option.some.inj (show some st = some [b] from hr)
    rw [List.length_nil, Nat.add_zero] at ht hk
    unfold wl_X7_holds_11 wb_X7_holds_11
    rw [pw_and (vp_in_nI hc0 (by omega)), nI_clamp (by omega), ht, if_pos (nI_le (Nat.le_refl _) (by omega)), show pa_A v 39 0 0 = bI b from hp.1]
    exact ⟨by cases b <;> decide, hpo v (fr_refl v)⟩
  | t :: c, f, k, st, b, v, po, hr, hs, hp, hM, ht, hc, hk, hlt, hpo => by
    rw [List.length_cons] at ht hk hlt
    obtain ⟨f, rfl⟩ : ∃ g, f = g + 1 := ⟨f - 1, by omega⟩
    have e0 : pa_A v 36 0 k = enc_t t := hc 0 t rfl
    unfold ru at hr
    -- on to the next with one cell of the pile written
    have next : ∀ (r : List Bool) (y : Bool) (x : pa_S), ru (wo_f w h l) c (y :: r) = some [b] → (y :: r).length ≤ 11 → pl v r → x = pa_sA v 39 0 (upd (pa_A v 39 0) r.length (bI y)) → wl_X7_holds_11 po f x (nI c0) (nI h) (nI l) (nI (r.length + 1)) (nI (k + 1)) := by
      intro r y x hr2 hs2 hp2 ex
      have g : fr_of fp_g v x := by rw [ex]; exact fr_sA rfl (fr_refl v)
      have e39 : pa_A x 39 0 = upd (pa_A v 39 0) r.length (bI y) := by rw [ex, pa_A_sA_self]
      refine rh_code hf hh hl hc0 c f (k + 1) (y :: r) b x po hr2 hs2 ⟨by rw [e39, pw_upd, if_pos rfl], pl_up e39 (Nat.le_refl _) hp2⟩ (wo_M_frg g hM) (by rw [g.2.1 35 0 (by unfold fp_g; omega), ht]; exact congrArg nI (by omega)) (fun i s hi => by rw [g.2.1 36 0 (by unfold fp_g; omega), show k + 1 + i = k + (i + 1) by omega]; exact hc (i + 1) s hi) (by omega) (by omega) (fun z hz => hpo z (fr_trans g hz))
    have w147 : ∀ (r : List Bool) (y : Bool) (x4 y1 : Int32), x4 = nI (r.length + 1) → y1 = nI r.length → ru (wo_f w h l) c (y :: r) = some [b] → (y :: r).length ≤ 11 → pl v r → wb_X7_holds_147 (fun u0 x1 x2 x3 x4 x5 => wl_X7_holds_11 po f u0 x1 x2 x3 x4 x5) v (nI c0) (nI h) (nI l) x4 (nI k) y1 (bI y) po := by
      intro r y x4 y1 h4 h1 hr2 hs2 hp2
      subst h4 h1
      rw [List.length_cons] at hs2
      unfold wb_X7_holds_147
      rw [pw_and (vp_in_nI (by omega) (by omega)), nI_clamp (by omega), nar_b]
      intro x ex
      unfold wb_X7_holds_247
      simp only [forall_eq, pw_n1, nI_add]
      exact next r y x hr2 (by rw [List.length_cons]; omega) hp2 ex
    have w63 : ∀ (r : List Bool) (y : Bool) (x4 y1 : Int32), x4 = nI (r.length + 1) → y1 = nI r.length → ru (wo_f w h l) c (y :: r) = some [b] → (y :: r).length ≤ 11 → pl v r → wb_X7_holds_63 (fun u0 x1 x2 x3 x4 x5 => wl_X7_holds_11 po f u0 x1 x2 x3 x4 x5) v (nI c0) (nI h) (nI l) x4 (nI k) y1 (bI y) po := w147
    unfold wl_X7_holds_11 wb_X7_holds_11
    rw [pw_and (vp_in_nI hc0 (by omega)), nI_clamp (by omega), ht, if_neg (nI_ge (by omega) (by omega)), pw_and (vp_in_nI (by omega) (by omega)), nI_clamp (by omega), e0]
    intro v7 e7
    subst e7
    cases htt : ru_t (wo_f w h l) t st with
    | none => rw [htt] at hr; exact absurd hr (by simp)
    | some s2 =>
      rw [htt] at hr
      unfold ru_t at htt
      by_cases q : t.1 < 18
      · rw [if_pos q] at htt
        by_cases q2 : t.2 ≤ 99 ∧ st.length < 11
        rotate_left
        · rw [if_neg q2] at htt; exact absurd htt (by simp)
        rw [if_pos q2] at htt
        obtain rfl := Option.some.inj htt
        have hj : t.1 / 3 < 6 := by omega
        have en : enc_t t = nI (1000 * (t.1 / 3) + 100 * (t.1 % 3) + t.2) := if_pos q
        have F9 := wo_f_le (j := t.1 / 3) hf hh hl
        have m1 : (1000 * (t.1 / 3) + 100 * (t.1 % 3) + t.2) / 1000 = t.1 / 3 := by omega
        have m2 : (1000 * (t.1 / 3) + 100 * (t.1 % 3) + t.2) / 100 % 10 = t.1 % 3 := by omega
        have m3 : (1000 * (t.1 / 3) + 100 * (t.1 % 3) + t.2) % 100 = t.2 := by omega
        rw [en, if_neg (pw_ngt (by omega) (by decide)), if_pos (nI_pos' (by omega)), pw_n1000, pk_div (by omega) (by omega) (by omega), m1, mp_fact hf hM hh hl hj, pw_n100, pk_div (by omega) (by omega) (by omega), pw_n10, pw_rem (by omega) (by omega) (by omega), m2, pw_rem (by omega) (by omega) (by omega), m3]
        intro v11 e11
        subst e11
        have fin : ∀ y : Int32, y = bI (tv_b (wo_f w h l) t) → wb_X7_holds_243 (fun u0 x1 x2 x3 x4 x5 => wl_X7_holds_11 po f u0 x1 x2 x3 x4 x5) v (nI c0) (nI h) (nI l) (nI st.length) (nI k) (nI st.length) y po := by
          intro y hy
          subst hy
          unfold wb_X7_holds_243
          rw [pw_and (vp_in_nI (by omega) (by omega)), nI_clamp (by omega), nar_b]
          intro x ex v17 e17
          subst e17
          unfold wb_X7_holds_247
          simp only [forall_eq, pw_n1, nI_add]
          exact next st _ x hr (by rw [List.length_cons]; omega) hp ex
        rcases (show t.1 % 3 = 0 ∨ t.1 % 3 = 1 ∨ t.1 % 3 = 2 by omega) with m | m | m
        · have tv : tv_b (wo_f w h l) t = decide (wo_f w h l (t.1 / 3) < t.2) := by unfold tv_b; rw [if_pos m]
          rw [m, if_pos (show nI 0 = 0 from rfl)]
          by_cases z : wo_f w h l (t.1 / 3) < t.2
          · rw [if_neg (nI_ge z (by omega))]
            exact fin 1 (by rw [tv, decide_eq_true z]; rfl)
          · rw [if_pos (nI_le (by omega) (by omega))]
            exact fin 0 (by rw [tv, decide_eq_false z]; rfl)
        · have tv : tv_b (wo_f w h l) t = decide (wo_f w h l (t.1 / 3) = t.2) := by unfold tv_b; rw [if_neg (by omega), if_pos m]
          rw [m, if_neg (show ¬ nI 1 = 0 by decide), if_pos (show nI 1 = 1 from rfl)]
          by_cases z : wo_f w h l (t.1 / 3) = t.2
          · rw [if_pos (by rw [z])]
            exact fin 1 (by rw [tv, decide_eq_true z]; rfl)
          · rw [if_neg (fun y => z ((nI_eq (by omega) (by omega)).mp y))]
            exact fin 0 (by rw [tv, decide_eq_false z]; rfl)
        · have tv : tv_b (wo_f w h l) t = decide (t.2 < wo_f w h l (t.1 / 3)) := by unfold tv_b; rw [if_neg (by omega), if_neg (by omega)]
          rw [m, if_neg (show ¬ nI 2 = 0 by decide), if_neg (show ¬ nI 2 = 1 by decide)]
          by_cases z : t.2 < wo_f w h l (t.1 / 3)
          · rw [if_neg (nI_ge z (by omega))]
            exact fin 1 (by rw [tv, decide_eq_true z]; rfl)
          · rw [if_pos (nI_le (by omega) (by omega))]
            exact fin 0 (by rw [tv, decide_eq_false z]; rfl)
      · rw [if_neg q] at htt
        by_cases q18 : t.1 = 18
        · rw [if_pos q18] at htt
          have en : enc_t t = -33 := by unfold enc_t; rw [if_neg q, if_pos q18]
          rw [en, if_pos rfl]
          rcases st with _ | ⟨a, r⟩
          · exact absurd htt (by simp)
          obtain rfl := Option.some.inj htt
          rw [List.length_cons] at hs
          rw [List.length_cons, show nI (r.length + 1) - 1 = nI r.length from nI_pred _, pw_and (vp_in_nI (by omega) (by omega)), nI_clamp (by omega), hp.1]
          cases a
          · rw [if_pos (by decide)]
            exact w63 r true _ _ rfl rfl hr (by rw [List.length_cons]; omega) hp.2
          · rw [if_neg (by decide)]
            exact w63 r false _ _ rfl rfl hr (by rw [List.length_cons]; omega) hp.2
        · rw [if_neg q18] at htt
          by_cases q19 : t.1 = 19
          · rw [if_pos q19] at htt
            have en : enc_t t = -38 := by unfold enc_t; rw [if_neg q, if_neg q18, if_pos q19]
            rw [en, if_neg (by decide), if_neg (by decide)]
            rcases st with _ | ⟨a, _ | ⟨b', r⟩⟩
            · exact absurd htt (by simp)
            · exact absurd htt (by simp)
            obtain rfl := Option.some.inj htt
            rw [List.length_cons, List.length_cons] at hs
            intro v21 e21
            rw [List.length_cons, List.length_cons, pk_m1] at e21
            subst e21
            rw [if_pos rfl, show nI (r.length + 1) - 1 = nI r.length from nI_pred _, pw_and (vp_in_nI (by omega) (by omega)), nI_clamp (by omega), nI_clamp (by omega), hp.2.1, show pa_A v 39 0 (r.length + 1) = bI a from hp.1]
            cases b'
            · rw [if_pos (by decide)]
              exact w147 r false _ _ rfl rfl hr (by rw [List.length_cons]; omega) hp.2.2
            · rw [if_neg (by decide), pw_and (vp_in_nI (by omega) (by omega))]
              cases a
              · rw [if_pos (by decide)]
                exact w147 r false _ _ rfl rfl hr (by rw [List.length_cons]; omega) hp.2.2
              · rw [if_neg (by decide)]
                exact w147 r true _ _ rfl rfl hr (by rw [List.length_cons]; omega) hp.2.2
          · rw [if_neg q19] at htt
            by_cases q20 : t.1 = 20
            rotate_left
            · rw [if_neg q20] at htt; exact absurd htt (by simp)
            rw [if_pos q20] at htt
            have en : enc_t t = -124 := by unfold enc_t; rw [if_neg q, if_neg q18, if_neg q19]
            rw [en, if_neg (by decide), if_neg (by decide)]
            rcases st with _ | ⟨a, _ | ⟨b', r⟩⟩
            · exact absurd htt (by simp)
            · exact absurd htt (by simp)
            obtain rfl := Option.some.inj htt
            rw [List.length_cons, List.length_cons] at hs
            intro v21 e21
            rw [List.length_cons, List.length_cons, pk_m1] at e21
            subst e21
            rw [if_neg (by decide), show nI (r.length + 1) - 1 = nI r.length from nI_pred _, pw_and (vp_in_nI (by omega) (by omega)), nI_clamp (by omega), nI_clamp (by omega), hp.2.1, show pa_A v 39 0 (r.length + 1) = bI a from hp.1]
            cases b'
            · rw [if_pos (by decide), pw_and (vp_in_nI (by omega) (by omega))]
              cases a
              · rw [if_pos (by decide)]
                exact w147 r false _ _ rfl rfl hr (by rw [List.length_cons]; omega) hp.2.2
              · rw [if_neg (by decide)]
                exact w147 r true _ _ rfl rfl hr (by rw [List.length_cons]; omega) hp.2.2
            · rw [if_neg (by decide)]
              exact w147 r true _ _ rfl rfl hr (by rw [List.length_cons]; omega) hp.2.2
/-- booth f of the reference holds these clauses -/
def bo_M (v : pa_S) (f : Nat) (CS : List pw_Cl) : Prop := f < 6 ∧ CS.length ≤ 10 ∧ (cs_t CS).length ≤ 100 ∧ pa_A v 31 0 f = nI CS.length ∧ rC v (100 * f) (10 * f) 0 CS ∧ ∀ j t, (cs_t CS)[j]? = some t → pa_A v 36 0 (100 * f + j) = enc_t t
theorem mp_behind {f n : Nat} {po : Int32 → Prop} (hf : f < 6) (h9 : pa_I v 24 0 9 = nI f) (h31 : pa_A v 31 0 f = nI n) : wp_X7_behind v po = po (nI (10 * f + n)) := by
  unfold wp_X7_behind wb_X7_behind_0
  rw [h9, if_pos (nI_pos' (by omega)), pw_and (vp_in_nI hf (by omega)), nI_clamp (by omega), h31, pw_n10, pk_mul, nI_add]
theorem rC_fr {v x : pa_S} {b : Nat} (h : ∀ t, 32 ≤ t → t ≤ 35 → pa_A x t 0 = pa_A v t 0) : ∀ {CS : List pw_Cl} {i off : Nat}, rC v b i off CS → rC x b i off CS
  | [], _, _, _ => trivial
  | c :: cs, i, off, hr => ⟨by rw [h 32 (by omega) (by omega)]; exact hr.1, by rw [h 33 (by omega) (by omega)]; exact hr.2.1, by rw [h 34 (by omega) (by omega), h 35 (by omega) (by omega)]; exact hr.2.2.1, rC_fr h hr.2.2.2⟩
theorem rg_all {f N : Nat} (hf : wo_WF w) (hh : h < wo_n w) (hl : l < 3) (hf6 : f < 6) (hN : N ≤ 10) : ∀ (CS : List pw_Cl) (fu i off : Nat) (tot : Int) (v : pa_S) (po : Int32 → pa_S → Prop), (∀ c, c ∈ CS → gC c) → wo_M v w → pa_I v 24 0 9 = nI f → pa_A v 31 0 f = nI N → i + CS.length = 10 * f + N → rC v (100 * f) i off CS → (∀ j t, (cs_t CS)[j]? = some t → pa_A v 36 0 (100 * f + off + j) = enc_t t) → off + (cs_t CS).length ≤ 100 → -99 * (10 - CS.length : Int) ≤ tot → tot ≤ 99 * (10 - CS.length : Int) → CS.length < fu →
    (∀ x, fr_of fp_g v x → po (nS (tot + ev_s (wo_f w h l) CS)) x) → wl_X7_grace_8 po fu v (nI h) (nI l) (nS tot) (nI i)
  | [], fu, i, off, tot, v, po, _, hM, h9, h31, hi, _, _, _, _, _, hlt, hpo => by
    obtain ⟨fu, rfl⟩ : ∃ g, fu = g + 1 := ⟨fu - 1, by rw [List.length_nil] at hlt; omega⟩
    rw [List.length_nil] at hi
    unfold wl_X7_grace_8 wb_X7_grace_8
    rw [mp_behind hf6 h9 h31, if_pos (nI_le (by omega) (by omega))]
    have := hpo v (fr_refl v)
    rw [show tot + ev_s (wo_f w h l) [] = tot from Int.add_zero tot] at this
    exact this
  | c :: cs, fu, i, off, tot, v, po, hg, hM, h9, h31, hi, hC, hT, ho, h1, h2, hlt, hpo => by
    rw [List.length_cons] at hi h1 h2 hlt
    obtain ⟨fu, rfl⟩ : ∃ g, fu = g + 1 := ⟨fu - 1, by omega⟩
    have g := hg c List.mem_cons_self
    have g3 := g.1
    have g99 := g.2.1
    obtain ⟨c1, c2, c3, c4⟩ := hC
    have et : cs_t (c :: cs) = c.2.2 ++ cs_t cs := rfl
    rw [et] at hT ho
    rw [List.length_append] at ho
    have e1 := ev_1_le (F := wo_f w h l) g
    have ev : ev_s (wo_f w h l) (c :: cs) = ev_1 (wo_f w h l) c + ev_s (wo_f w h l) cs := rfl
    have rest : ∀ j t, (cs_t cs)[j]? = some t → pa_A v 36 0 (100 * f + (off + c.2.2.length) + j) = enc_t t := fun j t hj => by
      have := hT (c.2.2.length + j) t (by rw [List.getElem?_append_right (by omega), show c.2.2.length + j - c.2.2.length = j by omega]; exact hj)
      rw [show 100 * f + (off + c.2.2.length) + j = 100 * f + off + (c.2.2.length + j) by omega]
      exact this
    -- on to the next clause
    have next : ∀ (x : pa_S) (tot' : Int), fr_of fp_g v x → tot' = tot + ev_1 (wo_f w h l) c → wl_X7_grace_8 po fu x (nI h) (nI l) (nS tot') (nI (i + 1)) := by
      intro x tot' gx ht
      refine rg_all hf hh hl hf6 hN cs fu (i + 1) (off + c.2.2.length) tot' x po (fun d hd => hg d (List.mem_cons_of_mem _ hd)) (wo_M_frg gx hM) (by rw [gx.1 24 0 9 (by unfold fp_g; omega)]; exact h9) (by rw [gx.2.1 31 0 (by unfold fp_g; omega)]; exact h31) (by omega) (rC_fr (fun t a b => gx.2.1 t 0 (by unfold fp_g; omega)) c4) (fun j t hj => by rw [gx.2.1 36 0 (by unfold fp_g; omega)]; exact rest j t hj) (by omega) (by omega) (by omega) (by omega) (fun z hz => ?_)
      have := hpo z (fr_trans gx hz)
      rw [ev, ← Int.add_assoc, ← ht] at this
      exact this
    unfold wl_X7_grace_8 wb_X7_grace_8
    rw [mp_behind hf6 h9 h31, if_neg (nI_ge (by omega) (by omega)), pw_and (vp_in_nI (by omega) (by omega)), nI_clamp (by omega), c1]
    by_cases w2 : c.1 < 2
    · rw [if_neg (show ¬ (1 : Int32) < nI c.1 from nI_nlt (a := 1) (by omega) (by omega))]
      obtain ⟨b, hb⟩ := g.2.2.2 w2 (wo_f w h l)
      obtain ⟨c34, c35⟩ := c3 w2
      unfold wp_X7_holds wb_X7_holds_0
      rw [pw_and (vp_in_nI (by omega) (by omega)), nI_clamp (by omega), c34]
      intro v2 e2
      subst e2
      refine rh_code hf hh hl (by omega) c.2.2 5000 (100 * f + off) [] b v _ hb (by decide) trivial hM c35 (fun j t hj => hT j t (by
        have hil : j < c.2.2.length := by
          by_cases q : j < c.2.2.length
          · exact q
          · rw [List.getElem?_eq_none (by omega)] at hj; exact absurd hj (by simp)
        rw [List.getElem?_append_left hil]; exact hj)) (by omega) (by omega) (fun x gx => ?_)
      have ee : ev_1 (wo_f w h l) c = if b = true then (if c.1 = 0 then (c.2.1 : Int) else -(c.2.1 : Int)) else 0 := by unfold ev_1; rw [if_pos w2, ev_b_of hb]
      cases b
      · rw [if_pos (by decide)]
        unfold wb_X7_grace_73
        simp only [forall_eq, pw_n1, nI_add]
        exact next x tot gx (by rw [ee, if_neg (by decide)]; omega)
      · rw [if_neg (by decide), pw_and (vp_in_nI (by omega) (by omega)), gx.2.1 32 0 (by unfold fp_g; omega), gx.2.1 33 0 (by unfold fp_g; omega), c1, c2]
        rw [if_pos rfl] at ee
        by_cases w0 : c.1 = 0
        · rw [if_pos (show nI c.1 = 0 by rw [w0]; rfl), pw_and (vp_in_nI (by omega) (by omega))]
          unfold wb_X7_grace_71 wb_X7_grace_73
          simp only [forall_eq, pw_n1, nI_add]
          rw [nS_add (by omega) (by omega) (by omega)]
          exact next x _ gx (by rw [ee, if_pos w0])
        · rw [if_neg (show ¬ nI c.1 = 0 from nI_ne0 (by omega) (by omega)), pw_and (vp_in_nI (by omega) (by omega))]
          unfold wb_X7_grace_71 wb_X7_grace_73
          simp only [forall_eq, pw_n1, nI_add]
          rw [← Int32.sub_eq_add_neg, nS_sub (by omega) (by omega) (by omega)]
          exact next x _ gx (by rw [ee, if_neg w0]; omega)
    · rw [if_pos (show (1 : Int32) < nI c.1 from nI_lt (a := 1) (by omega) (by omega))]
      unfold wb_X7_grace_73
      simp only [forall_eq, pw_n1, nI_add]
      exact next v tot (fr_refl v) (by unfold ev_1; rw [if_neg w2]; omega)
theorem mp_graceB {f : Nat} {CS : List pw_Cl} (hf : wo_WF w) (hM : wo_M v w) (hh : h < wo_n w) (hl : l < 3) (hb : bo_M v f CS) (h9 : pa_I v 24 0 9 = nI f) (hg : ∀ c, c ∈ CS → gC c)
    (hpo : ∀ x, fr_of fp_g v x → po (nS (ev_s (wo_f w h l) CS)) x) : wp_X7_grace v (nI h) (nI l) po := by
  obtain ⟨b1, b2, b3, b4, b5, b6⟩ := hb
  unfold wp_X7_grace wb_X7_grace_0 wp_X7_begin wb_X7_begin_0
  rw [h9, if_pos (nI_pos' (by omega)), pw_n10, pk_mul]
  have := rg_all hf hh hl b1 b2 CS 5000 (10 * f) 0 0 v po hg hM h9 b4 rfl b5 (fun j t hj => by rw [Nat.add_zero]; exact b6 j t hj) (by omega) (by omega) (by omega) (by omega) (fun x hx => by rw [Int.zero_add]; exact hpo x hx)
  rw [nS_0] at this
  exact this
theorem rl_all {f N k : Nat} {po : Int32 → Prop} (hf6 : f < 6) (hN : N ≤ 10) (hk : k ≤ 3) (h9 : pa_I v 24 0 9 = nI f) (h31 : pa_A v 31 0 f = nI N) : ∀ (CS : List pw_Cl) (fu i off d : Nat), (∀ c, c ∈ CS → gC c) → i + CS.length = 10 * f + N → rC v (100 * f) i off CS → CS.length < fu →
    wl_X7_lastOf_8 po v fu (nI k) (nI d) (nI i) = po (nI (cs_m k d CS))
  | [], fu, i, off, d, _, hi, _, hlt => by
    obtain ⟨fu, rfl⟩ : ∃ g, fu = g + 1 := ⟨fu - 1, by rw [List.length_nil] at hlt; omega⟩
    rw [List.length_nil] at hi
    unfold wl_X7_lastOf_8 wb_X7_lastOf_8
    rw [mp_behind hf6 h9 h31, if_pos (nI_le (by omega) (by omega))]
    rfl
  | c :: cs, fu, i, off, d, hg, hi, hC, hlt => by
    rw [List.length_cons] at hi hlt
    obtain ⟨fu, rfl⟩ : ∃ g, fu = g + 1 := ⟨fu - 1, by omega⟩
    have g3 := (hg c List.mem_cons_self).1
    obtain ⟨c1, c2, c3, c4⟩ := hC
    have em : cs_m k d (c :: cs) = cs_m k (if c.1 = k then c.2.1 else d) cs := rfl
    unfold wl_X7_lastOf_8 wb_X7_lastOf_8
    rw [mp_behind hf6 h9 h31, if_neg (nI_ge (by omega) (by omega)), pw_and (vp_in_nI (by omega) (by omega)), nI_clamp (by omega), c1, c2, em]
    by_cases q : c.1 = k
    · rw [if_pos (show nI c.1 = nI k by rw [q]), pw_and (vp_in_nI (by omega) (by omega)), if_pos q]
      unfold wb_X7_lastOf_39
      simp only [forall_eq, pw_n1, nI_add]
      exact rl_all hf6 hN hk h9 h31 cs fu (i + 1) _ _ (fun e he => hg e (List.mem_cons_of_mem _ he)) (by omega) c4 (by omega)
    · rw [if_neg (fun y => q ((nI_eq (by omega) (by omega)).mp y)), if_neg q]
      unfold wb_X7_lastOf_39
      simp only [forall_eq, pw_n1, nI_add]
      exact rl_all hf6 hN hk h9 h31 cs fu (i + 1) _ _ (fun e he => hg e (List.mem_cons_of_mem _ he)) (by omega) c4 (by omega)
theorem cs_m_le {k : Nat} : ∀ (CS : List pw_Cl) (d : Nat), (∀ c, c ∈ CS → gC c) → d ≤ 99 → cs_m k d CS ≤ 99
  | [], d, _, hd => hd
  | c :: cs, d, hg, hd => by
    have g := (hg c List.mem_cons_self).2.1
    unfold cs_m
    refine cs_m_le cs _ (fun e he => hg e (List.mem_cons_of_mem _ he)) ?_
    split <;> omega
theorem mp_roomB {f : Nat} {CS : List pw_Cl} {po : Int32 → Prop} (hb : bo_M v f CS) (h9 : pa_I v 24 0 9 = nI f) (hg : ∀ c, c ∈ CS → gC c) : wp_X7_room v po = po (nI (min (cs_m 2 20 CS) 60)) := by
  obtain ⟨b1, b2, b3, b4, b5, b6⟩ := hb
  have m := cs_m_le (k := 2) CS 20 hg (by omega)
  unfold wp_X7_room wb_X7_room_0 wp_X7_lastOf wb_X7_lastOf_0 wp_X7_begin wb_X7_begin_0
  rw [h9, if_pos (nI_pos' (by omega)), pw_n10, pk_mul]
  have := rl_all (k := 2) (po := fun r1 => wp_X7_least v r1 60 (fun r2 => po r2)) b1 b2 (by omega) h9 b4 CS 5000 (10 * f) 0 20 hg rfl b5 (by omega)
  refine Eq.trans this ?_
  rw [pw_n60, mp_least (by omega) (by omega)]
theorem mp_pressB {f : Nat} {CS : List pw_Cl} {po : Int32 → Prop} (hb : bo_M v f CS) (h9 : pa_I v 24 0 9 = nI f) (hg : ∀ c, c ∈ CS → gC c) : wp_X7_press v po = po (nI (max (cs_m 3 4 CS) 1)) := by
  obtain ⟨b1, b2, b3, b4, b5, b6⟩ := hb
  have m := cs_m_le (k := 3) CS 4 hg (by omega)
  unfold wp_X7_press wb_X7_press_0 wp_X7_lastOf wb_X7_lastOf_0 wp_X7_begin wb_X7_begin_0
  rw [h9, if_pos (nI_pos' (by omega)), pw_n10, pk_mul]
  have := rl_all (k := 3) (po := fun r1 => (if 1 ≤ r1 then po r1 else po 1)) b1 b2 (by omega) h9 b4 CS 5000 (10 * f) 0 4 hg rfl b5 (by omega)
  refine Eq.trans this ?_
  by_cases q : 1 ≤ cs_m 3 4 CS
  · rw [if_pos (show (1 : Int32) ≤ nI (cs_m 3 4 CS) from nI_le (a := 1) q (by omega)), Nat.max_eq_left q]
  · rw [if_neg (show ¬ (1 : Int32) ≤ nI (cs_m 3 4 CS) from nI_ge (b := 1) (by omega) (by omega)), Nat.max_eq_right (by omega)]
    rfl
end REV
