/-! the text's grammar, as a machine over characters -/
def tch (T : Nat → Nat) (S p : Nat) : Nat := if p < S then T p else 128
def le_i (c : Nat) : Nat := if c = 104 then 0 else if c = 108 then 1 else if c = 107 then 2 else if c = 118 then 3 else if c = 120 then 4 else if c = 100 then 5 else 6
def nu_k (T : Nat → Nat) (S p : Nat) : Nat := if 48 ≤ tch T S p ∧ tch T S p ≤ 57 then (if 48 ≤ tch T S (p + 1) ∧ tch T S (p + 1) ≤ 57 then 2 else 1) else 0
def nu_v (T : Nat → Nat) (S p : Nat) : Nat := if nu_k T S p = 2 then 10 * (tch T S p - 48) + (tch T S (p + 1) - 48) else tch T S p - 48
def te_k (T : Nat → Nat) (S p : Nat) : Nat := if le_i (tch T S p) < 6 ∧ 60 ≤ tch T S (p + 1) ∧ tch T S (p + 1) ≤ 62 ∧ nu_k T S (p + 2) ≠ 0 then 1 else 0
def te_f (T : Nat → Nat) (S p : Nat) : Nat := if le_i (tch T S p) = 6 then p else if 60 ≤ tch T S (p + 1) ∧ tch T S (p + 1) ≤ 62 then p + 2 else p + 1
def te_q (T : Nat → Nat) (S p : Nat) : Nat := p + 2 + nu_k T S (p + 2)
def te_t (T : Nat → Nat) (S p : Nat) : Nat × Nat := (3 * le_i (tch T S p) + (tch T S (p + 1) - 60), nu_v T S (p + 2))
def gop : List Nat → Nat
  | [] => 0
  | c :: W => (if c = 33 ∨ c = 40 then 1 else 0) + gop W
def gse (s : Nat) : List Nat → List (Nat × Nat) → List Nat × List (Nat × Nat)
  | [], o => ([], o)
  | c :: W, o => if c = 38 then gse s W (o ++ [(19, 0)]) else if c = 124 ∧ s ≠ 38 then gse s W (o ++ [(20, 0)]) else (c :: W, o)
def g_s (T : Nat → Nat) (S p : Nat) : Nat := if tch T S p = 38 then 38 else 124
/-- modes: 0 an operand is wanted, 1 one has just been, 2 what joins -/
def gm (T : Nat → Nat) (S : Nat) : Nat → List Nat → Nat → List (Nat × Nat) → Nat → Option (Bool × Nat × List (Nat × Nat))
  | 0, _, _, _, _ => none
  | n + 1, W, p, o, 0 => if tch T S p = 33 ∨ tch T S p = 40 then (if gop W = 4 then some (false, p, []) else gm T S n (tch T S p :: W) (p + 1) o 0) else if te_k T S p = 1 then gm T S n W (te_q T S p) (o ++ [te_t T S p]) 1 else some (false, te_f T S p, [])
  | n + 1, W, p, o, 1 => if W.head? = some 33 then gm T S n W.tail p (o ++ [(18, 0)]) 1 else gm T S n W p o 2
  | n + 1, W, p, o, _ + 2 => if tch T S p = 38 ∨ tch T S p = 124 then gm T S n (tch T S p :: (gse (g_s T S p) W o).1) (p + 1) (gse (g_s T S p) W o).2 0 else if (gse (g_s T S p) W o).1 = [] then some (true, p, (gse (g_s T S p) W o).2) else if tch T S p = 41 then gm T S n (gse (g_s T S p) W o).1.tail (p + 1) (gse (g_s T S p) W o).2 1 else some (false, p, [])
def gR (T : Nat → Nat) (S : Nat) (W : List Nat) (p : Nat) (o : List (Nat × Nat)) (m : Nat) (R : Bool × Nat × List (Nat × Nat)) : Prop := ∃ n, gm T S n W p o m = some R
def grt (T : Nat → Nat) (S : Nat) (W : List Nat) (p : Nat) (o : List (Nat × Nat)) (m : Nat) (W' : List Nat) (p' : Nat) (o' : List (Nat × Nat)) (m' : Nat) : Prop := ∀ R, gR T S W' p' o' m' R → gR T S W p o m R
section GRAM
variable {T : Nat → Nat} {S : Nat}
theorem grt_refl {W p o m} : grt T S W p o m W p o m := fun _ h => h
theorem grt_trans {W p o m W' p' o' m' W2 p2 o2 m2} (a : grt T S W p o m W' p' o' m') (b : grt T S W' p' o' m' W2 p2 o2 m2) : grt T S W p o m W2 p2 o2 m2 := fun R h => a R (b R h)
theorem g_step {W p o m W' p' o' m'} (h : ∀ n, gm T S (n + 1) W p o m = gm T S n W' p' o' m') : grt T S W p o m W' p' o' m' := fun R ⟨n, hn⟩ => ⟨n + 1, by rw [h, hn]⟩
theorem g0_push {W p o} (h : tch T S p = 33 ∨ tch T S p = 40) (h4 : gop W ≠ 4) : grt T S W p o 0 (tch T S p :: W) (p + 1) o 0 :=
  g_step (fun n => by
    show (if tch T S p = 33 ∨ tch T S p = 40 then (if gop W = 4 then some (false, p, []) else gm T S n (tch T S p :: W) (p + 1) o 0) else _) = _
    rw [if_pos h, if_neg h4])
theorem g0_deep {W p o} (h : tch T S p = 33 ∨ tch T S p = 40) (h4 : gop W = 4) : gR T S W p o 0 (false, p, []) := ⟨1, by
    show (if tch T S p = 33 ∨ tch T S p = 40 then (if gop W = 4 then some (false, p, []) else gm T S 0 (tch T S p :: W) (p + 1) o 0) else _) = _
    rw [if_pos h, if_pos h4]⟩
theorem g0_test {W p o} (h : ¬ (tch T S p = 33 ∨ tch T S p = 40)) (h4 : te_k T S p = 1) : grt T S W p o 0 W (te_q T S p) (o ++ [te_t T S p]) 1 :=
  g_step (fun n => by
    show (if tch T S p = 33 ∨ tch T S p = 40 then _ else if te_k T S p = 1 then gm T S n W (te_q T S p) (o ++ [te_t T S p]) 1 else some (false, te_f T S p, [])) = _
    rw [if_neg h, if_pos h4])
theorem g0_bad {W p o} (h : ¬ (tch T S p = 33 ∨ tch T S p = 40)) (h4 : ¬ te_k T S p = 1) : gR T S W p o 0 (false, te_f T S p, []) := ⟨1, by
    show (if tch T S p = 33 ∨ tch T S p = 40 then _ else if te_k T S p = 1 then gm T S 0 W (te_q T S p) (o ++ [te_t T S p]) 1 else some (false, te_f T S p, [])) = _
    rw [if_neg h, if_neg h4]⟩
theorem g1_not {W p o} : grt T S (33 :: W) p o 1 W p (o ++ [(18, 0)]) 1 := g_step (fun n => rfl)
theorem g1_on {W p o} (h : W.head? ≠ some 33) : grt T S W p o 1 W p o 2 := g_step (fun n => if_neg h)
theorem g2_t {n W p o} : gm T S (n + 1) W p o 2 = if tch T S p = 38 ∨ tch T S p = 124 then gm T S n (tch T S p :: (gse (g_s T S p) W o).1) (p + 1) (gse (g_s T S p) W o).2 0 else if (gse (g_s T S p) W o).1 = [] then some (true, p, (gse (g_s T S p) W o).2) else if tch T S p = 41 then gm T S n (gse (g_s T S p) W o).1.tail (p + 1) (gse (g_s T S p) W o).2 1 else some (false, p, []) := rfl
theorem gse_and {s W o} : gse s (38 :: W) o = gse s W (o ++ [(19, 0)]) := if_pos rfl
theorem gse_or {s W o} (h : s ≠ 38) : gse s (124 :: W) o = gse s W (o ++ [(20, 0)]) := (if_neg (by decide)).trans (if_pos ⟨rfl, h⟩)
theorem gse_or0 {W o} : gse 38 (124 :: W) o = (124 :: W, o) := (if_neg (by decide)).trans (if_neg (fun h => h.2 rfl))
theorem gse_no {s c W o} (h : c ≠ 38) (h2 : c ≠ 124) : gse s (c :: W) o = (c :: W, o) := (if_neg h).trans (if_neg (fun y => h2 y.1))
theorem g2_and {W p o} : grt T S (38 :: W) p o 2 W p (o ++ [(19, 0)]) 2 := fun R ⟨n, hn⟩ => by
  cases n with
  | zero => exact absurd hn (by unfold gm; simp)
  | succ n => exact ⟨n + 1, by rw [g2_t, gse_and, ← g2_t]; exact hn⟩
theorem g2_or {W p o} (h : tch T S p ≠ 38) : grt T S (124 :: W) p o 2 W p (o ++ [(20, 0)]) 2 := fun R ⟨n, hn⟩ => by
  cases n with
  | zero => exact absurd hn (by unfold gm; simp)
  | succ n => exact ⟨n + 1, by rw [g2_t, gse_or (show g_s T S p ≠ 38 by unfold g_s; rw [if_neg h]; decide), ← g2_t]; exact hn⟩
/-- what is not settled by & (or, if or, by |) -/
theorem g2_push {W p o} (h : tch T S p = 38 ∨ tch T S p = 124) (hs : gse (g_s T S p) W o = (W, o)) : grt T S W p o 2 (tch T S p :: W) (p + 1) o 0 :=
  g_step (fun n => by rw [g2_t, hs, if_pos h])
theorem g2_end {p o} (h : ¬ (tch T S p = 38 ∨ tch T S p = 124)) : gR T S [] p o 2 (true, p, o) := ⟨1, by rw [g2_t, if_neg h]; exact if_pos rfl⟩
theorem g2_close {W p o} (h : tch T S p = 41) : grt T S (40 :: W) p o 2 W (p + 1) o 1 :=
  g_step (fun n => by rw [g2_t, if_neg (by rw [h]; decide), gse_no (by decide) (by decide), if_neg (List.cons_ne_nil _ _), if_pos h]; rfl)
theorem g2_open {W p o} (h1 : ¬ (tch T S p = 38 ∨ tch T S p = 124)) (h : tch T S p ≠ 41) : gR T S (40 :: W) p o 2 (false, p, []) :=
  ⟨1, by rw [g2_t, if_neg h1, gse_no (by decide) (by decide), if_neg (List.cons_ne_nil _ _), if_neg h]⟩
end GRAM
/-! what a code says -/
def tv_b (F : Nat → Nat) (t : Nat × Nat) : Bool := if t.1 % 3 = 0 then decide (F (t.1 / 3) < t.2) else if t.1 % 3 = 1 then decide (F (t.1 / 3) = t.2) else decide (t.2 < F (t.1 / 3))
def ru_t (F : Nat → Nat) (t : Nat × Nat) (st : List Bool) : Option (List Bool) :=
  if t.1 < 18 then (if t.2 ≤ 99 ∧ st.length < 11 then some (tv_b F t :: st) else none)
  else if t.1 = 18 then (match st with
    | a :: r => some ((!a) :: r)
    | [] => none)
  else if t.1 = 19 then (match st with
    | a :: b :: r => some ((b && a) :: r)
    | _ => none)
  else if t.1 = 20 then (match st with
    | a :: b :: r => some ((b || a) :: r)
    | _ => none)
  else none
def ru (F : Nat → Nat) : List (Nat × Nat) → List Bool → Option (List Bool)
  | [], st => some st
  | t :: c, st => match ru_t F t st with
    | some s => ru F c s
    | none => none
theorem ru_app {F : Nat → Nat} : ∀ a b st, ru F (a ++ b) st = (match ru F a st with
    | some s => ru F b s
    | none => none)
  | [], b, st => rfl
  | t :: c, b, st => by
    show (match ru_t F t st with
      | some s => ru F (c ++ b) s
      | none => none) = (match (match ru_t F t st with
        | some s => ru F c s
        | none => none) with
      | some s => ru F b s
      | none => none)
    cases h : ru_t F t st with
    | none => rfl
    | some s => exact ru_app c b s
theorem ru_one {F : Nat → Nat} {o t st s} (h : ru F o [] = some st) (h2 : ru_t F t st = some s) : ru F (o ++ [t]) [] = some s := by
  rw [ru_app, h]
  show (match ru_t F t st with | some s => ru F [] s | none => none) = _
  rw [h2]
  rfl
def bn : List Nat → Nat
  | [] => 0
  | c :: W => (if c = 38 ∨ c = 124 then 1 else 0) + bn W
def gw : List Nat → Prop
  | [] => True
  | c :: W => (c = 33 ∨ c = 40 ∨ (c = 124 ∧ W.head? ≠ some 38 ∧ W.head? ≠ some 124) ∨ (c = 38 ∧ W.head? ≠ some 38)) ∧ gw W
theorem bn_le : ∀ W, gw W → bn W ≤ 2 * gop W + (if W.head? = some 38 then 2 else if W.head? = some 124 then 1 else 0)
  | [], _ => Nat.zero_le _
  | c :: W, h => by
    have ih := bn_le W h.2
    unfold bn gop
    rcases h.1 with rfl | rfl | ⟨rfl, a, b⟩ | ⟨rfl, a⟩
    · rw [if_neg (by decide), if_pos (by decide), if_neg (show ¬ (33 :: W).head? = some 38 by simp), if_neg (show ¬ (33 :: W).head? = some 124 by simp)]
      split at ih
      · omega
      · split at ih <;> omega
    · rw [if_neg (by decide), if_pos (by decide), if_neg (show ¬ (40 :: W).head? = some 38 by simp), if_neg (show ¬ (40 :: W).head? = some 124 by simp)]
      split at ih
      · omega
      · split at ih <;> omega
    · rw [if_pos (by decide), if_neg (by decide), if_neg (show ¬ (124 :: W).head? = some 38 by simp), if_pos (show (124 :: W).head? = some 124 from rfl)]
      rw [if_neg a, if_neg b] at ih
      omega
    · rw [if_pos (by decide), if_neg (by decide), if_pos (show (38 :: W).head? = some 38 from rfl)]
      rw [if_neg a] at ih
      split at ih <;> omega
def gH (o : List (Nat × Nat)) (k : Nat) : Prop := ∀ F, ∃ st, ru F o [] = some st ∧ st.length = k
theorem gH_bin {o k c} (h : gH o (k + 2)) (hc : c = 19 ∨ c = 20) : gH (o ++ [(c, 0)]) (k + 1) := by
  intro F
  obtain ⟨st, h1, h2⟩ := h F
  rcases st with _ | ⟨a, _ | ⟨b, r⟩⟩
  · simp at h2
  · simp at h2
  · have h2 : r.length + 1 + 1 = k + 2 := h2
    rcases hc with rfl | rfl
    · exact ⟨(b && a) :: r, ru_one h1 rfl, by rw [List.length_cons]; omega⟩
    · exact ⟨(b || a) :: r, ru_one h1 rfl, by rw [List.length_cons]; omega⟩
theorem gH_not {o k} (h : gH o (k + 1)) : gH (o ++ [(18, 0)]) (k + 1) := by
  intro F
  obtain ⟨st, h1, h2⟩ := h F
  rcases st with _ | ⟨a, r⟩
  · simp at h2
  · exact ⟨(!a) :: r, ru_one h1 rfl, h2⟩
theorem gH_test {o k t} (h : gH o k) (hk : k < 11) (ht : t.1 < 18) (ht2 : t.2 ≤ 99) : gH (o ++ [t]) (k + 1) := by
  intro F
  obtain ⟨st, h1, h2⟩ := h F
  refine ⟨tv_b F t :: st, ru_one h1 ?_, by rw [List.length_cons, h2]⟩
  unfold ru_t
  rw [if_pos ht, if_pos ⟨ht2, by omega⟩]
theorem gse_ok {s : Nat} : ∀ W o, gw W → gH o (bn W + 1) → gw (gse s W o).1 ∧ gop (gse s W o).1 = gop W ∧ gH (gse s W o).2 (bn (gse s W o).1 + 1) ∧ (gse s W o).1.head? ≠ some 38 ∧ (s ≠ 38 → (gse s W o).1.head? ≠ some 124)
  | [], o, h, hH => ⟨trivial, rfl, hH, by simp [gse], fun _ => by simp [gse]⟩
  | c :: W, o, h, hH => by
    by_cases q : c = 38
    · subst q
      rw [gse_and]
      have hb : bn (38 :: W) = 1 + bn W := rfl
      have hg : gop (38 :: W) = 0 + gop W := rfl
      have ih := gse_ok (s := s) W (o ++ [(19, 0)]) h.2 (gH_bin (by rw [hb, Nat.add_comm 1] at hH; exact hH) (Or.inl rfl))
      rw [hg, Nat.zero_add]
      exact ih
    · by_cases q2 : c = 124 ∧ s ≠ 38
      · obtain ⟨rfl, q3⟩ := q2
        rw [gse_or q3]
        have hb : bn (124 :: W) = 1 + bn W := rfl
        have hg : gop (124 :: W) = 0 + gop W := rfl
        have ih := gse_ok (s := s) W (o ++ [(20, 0)]) h.2 (gH_bin (by rw [hb, Nat.add_comm 1] at hH; exact hH) (Or.inr rfl))
        rw [hg, Nat.zero_add]
        exact ih
      · have e : gse s (c :: W) o = (c :: W, o) := (if_neg q).trans (if_neg q2)
        rw [e]
        refine ⟨h, rfl, hH, fun y => q (Option.some.inj y), fun hs y => q2 ⟨Option.some.inj y, hs⟩⟩
def gi (W : List Nat) (o : List (Nat × Nat)) (m : Nat) : Prop := gw W ∧ gop W ≤ 4 ∧ gH o (bn W + (if m = 0 then 0 else 1))
section GRAM2
variable {T : Nat → Nat} {S : Nat}
theorem nu_le {p : Nat} : nu_v T S p ≤ 99 ∨ nu_k T S p = 0 := by
  unfold nu_v nu_k
  by_cases a : 48 ≤ tch T S p ∧ tch T S p ≤ 57
  · rw [if_pos a]
    by_cases b : 48 ≤ tch T S (p + 1) ∧ tch T S (p + 1) ≤ 57
    · rw [if_pos b, if_pos rfl]; omega
    · rw [if_neg b, if_neg (by decide)]; omega
  · rw [if_neg a]; exact Or.inr rfl
theorem le_i_le (c : Nat) : le_i c ≤ 6 := by
  unfold le_i
  repeat' split
  all_goals omega
theorem te_ok {p : Nat} (h : te_k T S p = 1) : (le_i (tch T S p) < 6 ∧ 60 ≤ tch T S (p + 1) ∧ tch T S (p + 1) ≤ 62 ∧ nu_k T S (p + 2) ≠ 0) ∧ (te_t T S p).1 < 18 ∧ (te_t T S p).2 ≤ 99 := by
  unfold te_k at h
  by_cases q : le_i (tch T S p) < 6 ∧ 60 ≤ tch T S (p + 1) ∧ tch T S (p + 1) ≤ 62 ∧ nu_k T S (p + 2) ≠ 0
  · refine ⟨q, ?_, ?_⟩
    · show 3 * le_i (tch T S p) + (tch T S (p + 1) - 60) < 18
      omega
    · rcases nu_le (T := T) (S := S) (p := p + 2) with y | y
      · exact y
      · exact absurd y q.2.2.2
  · rw [if_neg q] at h; omega
theorem gm_ok : ∀ n W p o m, gi W o m → ∀ q c, gm T S n W p o m = some (true, q, c) → ∀ F, ∃ b, ru F c [] = some [b]
  | 0, W, p, o, m, _, q, c, h => absurd h (by unfold gm; simp)
  | n + 1, W, p, o, 0, hi, q, c, h => by
    obtain ⟨h1, h2, h3⟩ := hi
    have hb := bn_le W h1
    rw [if_pos rfl, Nat.add_zero] at h3
    have h : (if tch T S p = 33 ∨ tch T S p = 40 then (if gop W = 4 then some (false, p, []) else gm T S n (tch T S p :: W) (p + 1) o 0) else if te_k T S p = 1 then gm T S n W (te_q T S p) (o ++ [te_t T S p]) 1 else some (false, te_f T S p, [])) = some (true, q, c) := h
    by_cases a : tch T S p = 33 ∨ tch T S p = 40
    · rw [if_pos a] at h
      by_cases b : gop W = 4
      · rw [if_pos b] at h; simp at h
      · rw [if_neg b] at h
        refine gm_ok n (tch T S p :: W) _ _ 0 ⟨⟨by omega, h1⟩, ?_, ?_⟩ q c h
        · unfold gop; rw [if_pos a]; omega
        · unfold bn; rw [if_neg (show ¬ (tch T S p = 38 ∨ tch T S p = 124) by omega), if_pos rfl, Nat.zero_add]; exact h3
    · rw [if_neg a] at h
      by_cases b : te_k T S p = 1
      · rw [if_pos b] at h
        have te := te_ok b
        have hk : bn W < 11 := by
          split at hb
          · omega
          · split at hb <;> omega
        exact gm_ok n _ _ _ 1 ⟨h1, h2, gH_test h3 hk te.2.1 te.2.2⟩ q c h
      · rw [if_neg b] at h; simp at h
  | n + 1, W, p, o, 1, hi, q, c, h => by
    obtain ⟨h1, h2, h3⟩ := hi
    have h : (if W.head? = some 33 then gm T S n W.tail p (o ++ [(18, 0)]) 1 else gm T S n W p o 2) = some (true, q, c) := h
    by_cases a : W.head? = some 33
    · rw [if_pos a] at h
      rcases W with _ | ⟨x, W⟩
      · simp at a
      · obtain rfl : x = 33 := Option.some.inj a
        have hb : bn (33 :: W) = 0 + bn W := rfl
        have hg : gop (33 :: W) = 1 + gop W := rfl
        rw [hb, Nat.zero_add] at h3
        exact gm_ok n W p _ 1 ⟨h1.2, by omega, gH_not h3⟩ q c h
    · rw [if_neg a] at h
      exact gm_ok n W p o 2 ⟨h1, h2, h3⟩ q c h
  | n + 1, W, p, o, m + 2, hi, q, c, h => by
    obtain ⟨h1, h2, h3⟩ := hi
    rw [if_neg (by omega)] at h3
    have g := gse_ok (s := g_s T S p) W o h1 h3
    have h : (if tch T S p = 38 ∨ tch T S p = 124 then gm T S n (tch T S p :: (gse (g_s T S p) W o).1) (p + 1) (gse (g_s T S p) W o).2 0 else if (gse (g_s T S p) W o).1 = [] then some (true, p, (gse (g_s T S p) W o).2) else if tch T S p = 41 then gm T S n (gse (g_s T S p) W o).1.tail (p + 1) (gse (g_s T S p) W o).2 1 else some (false, p, [])) = some (true, q, c) := h
    by_cases a : tch T S p = 38 ∨ tch T S p = 124
    · rw [if_pos a] at h
      refine gm_ok n (tch T S p :: (gse (g_s T S p) W o).1) _ _ 0 ⟨⟨?_, g.1⟩, ?_, ?_⟩ q c h
      · rcases a with a | a
        · exact Or.inr (Or.inr (Or.inr ⟨a, g.2.2.2.1⟩))
        · refine Or.inr (Or.inr (Or.inl ⟨a, g.2.2.2.1, g.2.2.2.2 ?_⟩))
          unfold g_s
          rw [if_neg (by omega)]
          decide
      · unfold gop; rw [if_neg (by omega)]; omega
      · unfold bn; rw [if_pos a, if_pos rfl, Nat.add_comm 1]; exact g.2.2.1
    · rw [if_neg a] at h
      by_cases b : (gse (g_s T S p) W o).1 = []
      · rw [if_pos b] at h
        have e := Option.some.inj h
        injection e with _ e
        injection e with _ e
        subst e
        have := g.2.2.1
        rw [b] at this
        intro F
        obtain ⟨st, s1, s2⟩ := this F
        rcases st with _ | ⟨x, _ | ⟨y, r⟩⟩
        · simp [bn] at s2
        · exact ⟨x, s1⟩
        · simp [bn] at s2
      · rw [if_neg b] at h
        by_cases d : tch T S p = 41
        · rw [if_pos d] at h
          generalize gse (g_s T S p) W o = r at *
          obtain ⟨r1, r2⟩ := r
          rcases r1 with _ | ⟨x, r1⟩
          · exact absurd rfl b
          · obtain ⟨g1, g2, g3, g4, g5⟩ := g
            have hs : g_s T S p ≠ 38 := by
              unfold g_s
              rw [if_neg (by omega)]
              decide
            have x38 : x ≠ 38 := fun y => g4 (by rw [y]; rfl)
            have x124 : x ≠ 124 := fun y => g5 hs (by rw [y]; rfl)
            have hx : x = 33 ∨ x = 40 := by
              rcases g1.1 with y | y | y | y
              · exact Or.inl y
              · exact Or.inr y
              · exact absurd y.1 x124
              · exact absurd y.1 x38
            refine gm_ok n r1 _ _ 1 ⟨g1.2, ?_, ?_⟩ q c h
            · have : gop (x :: r1) = (if x = 33 ∨ x = 40 then 1 else 0) + gop r1 := rfl
              rw [if_pos hx] at this
              have g2 : gop (x :: r1) = gop W := g2
              omega
            · have : bn (x :: r1) = (if x = 38 ∨ x = 124 then 1 else 0) + bn r1 := rfl
              rw [if_neg (by omega), Nat.zero_add] at this
              have g3 : gH r2 (bn (x :: r1) + 1) := g3
              rw [this] at g3
              exact g3
        · rw [if_neg d] at h; simp at h
theorem gR_ok {p q c} (h : gR T S [] p [] 0 (true, q, c)) : ∀ F, ∃ b, ru F c [] = some [b] := by
  obtain ⟨n, h⟩ := h
  exact gm_ok n [] p [] 0 ⟨trivial, by decide, fun F => ⟨[], rfl, rfl⟩⟩ q c h
end GRAM2
