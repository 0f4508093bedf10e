/-! the start: nothing has been told -/
def wo_0 : pw_W := (0, (fun _ => 0), (fun _ => 0), (fun _ => 0), (fun _ => 0), (fun _ => 0), 100, 0, 0)
def en_0 : pw_E := ((fun _ _ => 0), (fun _ => 20), (fun _ => 4))
theorem st_A {t i j : Nat} (h : t ≠ 38) (h2 : t ≠ 64) : pa_A pa_s0 t i j = 0 := by
  show pa_A0 t j = 0
  unfold pa_A0
  rw [if_neg h, if_neg h2]
theorem st_N {t i : Nat} (h : t ≠ 70) : pa_N pa_s0 t i = 0 := if_neg h
theorem st_b : bo_C pa_s0 0 [] := ⟨st_N (by decide), st_N (by decide), by decide, fun j t h => absurd h (by simp)⟩
theorem st_C : en_C pa_s0 en_0 := by
  intro b hb
  obtain rfl : b = 0 := by have : pa_N pa_s0 70 0 = 1 := rfl; omega
  refine ⟨by decide, by decide, fun v s F po z1 z2 z3 z4 hF hF9 => ?_⟩
  exact sp_graceB (CS := []) (bo_C_fr z1 z2 z3 z4 st_b) hF hF9 (fun c hc => absurd hc List.not_mem_nil) (by decide)
theorem st_m1 {v : pa_S} (h : pa_I v 24 0 9 = nI 0 - 1) : ¬ (0 : Int32) ≤ pa_I v 24 0 9 := by rw [h]; decide
theorem st_last {v : pa_S} {k d : Int32} {po : Int32 → Prop} (h : pa_I v 24 0 9 = nI 0 - 1) : wp_X7_lastOf v k d po = po d := by
  unfold wp_X7_lastOf wb_X7_lastOf_0 wp_X7_begin wb_X7_begin_0
  rw [if_neg (st_m1 h)]
  show wb_X7_lastOf_8 _ v k d 0 po = _
  unfold wb_X7_lastOf_8 wp_X7_behind wb_X7_behind_0
  rw [if_neg (st_m1 h)]; dsimp only
  rw [if_pos (show (0 : Int32) ≤ 0 by decide)]
theorem st_M : en_M pa_s0 en_0 1 := by
  intro b hb v _ h9
  obtain rfl : b = 0 := by omega
  refine ⟨fun po => ?_, fun po => ?_, fun w h l po _ _ _ _ _ hpo => ?_⟩
  · unfold wp_X7_room wb_X7_room_0
    rw [st_last h9, pw_n60, pw_n20, mp_least (by decide) (by decide)]
    rfl
  · unfold wp_X7_press wb_X7_press_0
    rw [st_last h9, if_pos (by decide)]
    rfl
  · unfold wp_X7_grace wb_X7_grace_0 wp_X7_begin wb_X7_begin_0
    rw [if_neg (st_m1 h9)]
    show wb_X7_grace_8 _ v (nI h) (nI l) 0 0 po
    unfold wb_X7_grace_8 wp_X7_behind wb_X7_behind_0
    rw [if_neg (st_m1 h9)]; dsimp only
    rw [if_pos (show (0 : Int32) ≤ 0 by decide)]
    exact hpo v (fr_refl v)
theorem st_W : wo_WF wo_0 := ⟨Nat.zero_le _, fun h hh => absurd hh (Nat.not_lt_zero _), fun j hj => absurd hj (Nat.not_lt_zero _), fun j hj => absurd hj (Nat.not_lt_zero _), by decide, by decide⟩
theorem st_iv : iv_I pa_s0 := by
  refine ⟨wo_0, en_0, 1, ⟨st_W, by decide, ⟨by decide, by decide, by decide, rfl, by decide, fun h hh => absurd hh (Nat.not_lt_zero _), fun j hj => absurd hj (Nat.not_lt_zero _), fun j hj => absurd hj (Nat.not_lt_zero _)⟩, ⟨by decide, by decide, by decide, by decide, fun h hh => absurd hh (Nat.not_lt_zero _), fun j hj => absurd hj (Nat.not_lt_zero _), fun j hj => absurd hj (Nat.not_lt_zero _)⟩, ⟨fun h _ _ => st_A (by decide) (by decide), fun j _ _ => st_A (by decide) (by decide)⟩⟩,
    ⟨⟨rfl, by decide, by decide, by decide, by decide, st_C, st_M, fun b _ => ⟨by show 20 ≤ 60; omega, by show 1 ≤ 4; omega, by show 4 ≤ 99; omega, fun F => ⟨by show (-990 : Int) ≤ 0; omega, by show (0 : Int) ≤ 990; omega⟩⟩⟩, ⟨0, by omega, by decide, by decide, fun j hj => absurd hj (Nat.not_lt_zero _)⟩, Or.inl ⟨by decide, by decide⟩, ⟨0, by omega, by decide, by decide, fun j hj => absurd hj (Nat.not_lt_zero _)⟩, fun t ht => ⟨0, by omega, ?_, st_A (by decide) (by decide), ?_, Or.inl ⟨?_, rfl⟩, fun j _ => rfl⟩, rfl⟩,
    ⟨⟨0, by omega, by decide, by decide, fun j hj => absurd hj (Nat.not_lt_zero _)⟩, ⟨0, by omega, by decide, by decide, fun j hj => absurd hj (Nat.not_lt_zero _)⟩, ⟨0, by omega, by decide, by decide, fun j hj => absurd hj (Nat.not_lt_zero _)⟩⟩, fun s hs => by rw [st_N (by decide)]; omega⟩
  · rcases (show t = 0 ∨ t = 1 ∨ t = 2 ∨ t = 3 ∨ t = 4 ∨ t = 5 by omega) with rfl | rfl | rfl | rfl | rfl | rfl <;> decide
  · rcases (show t = 0 ∨ t = 1 ∨ t = 2 ∨ t = 3 ∨ t = 4 ∨ t = 5 by omega) with rfl | rfl | rfl | rfl | rfl | rfl <;> decide
  · rcases (show t = 0 ∨ t = 1 ∨ t = 2 ∨ t = 3 ∨ t = 4 ∨ t = 5 by omega) with rfl | rfl | rfl | rfl | rfl | rfl <;> decide
