def pa_W0 (g : pa_G) (ad : Nat → Nat) : va_W := [
  ((ad 0), .inr (6, [.ref (ad 24), .ref (ad 31), .ref (ad 38), .int 0, .ref (ad 1), .ref (ad 3), .ref (ad 5), .ref (ad 7), .ref (ad 9), .ref (ad 11), .ref (ad 13), .ref (ad 14), .int 0, .ref (ad 18), .ref (ad 20)])),
  ((ad 1), .inr (2, [.ref (ad 2), .int 0])),
  ((ad 2), .inl (g.1 1, 40, .inl (fun _ => 0))),
  ((ad 3), .inr (2, [.ref (ad 4), .int 0])),
  ((ad 4), .inl (g.1 1, 40, .inl (fun _ => 0))),
  ((ad 5), .inr (2, [.ref (ad 6), .int 0])),
  ((ad 6), .inl (g.1 1, 40, .inl (fun _ => 0))),
  ((ad 7), .inr (2, [.ref (ad 8), .int 0])),
  ((ad 8), .inl (g.1 1, 40, .inl (fun _ => 0))),
  ((ad 9), .inr (2, [.ref (ad 10), .int 0])),
  ((ad 10), .inl (g.1 1, 40, .inl (fun _ => 0))),
  ((ad 11), .inr (2, [.ref (ad 12), .int 0])),
  ((ad 12), .inl (g.1 1, 40, .inl (fun _ => 0))),
  ((ad 13), .inl (g.1 1, 3, .inl (fun _ => 0))),
  ((ad 14), .inr (5, [.ref (ad 15), .ref (ad 16), .ref (ad 17), .int 0, .int 0, .int 0, .int 0, .int 0])),
  ((ad 15), .inl (g.1 0, 100, .inl (fun _ => 0))),
  ((ad 16), .inl (g.1 1, 100, .inl (fun _ => 0))),
  ((ad 17), .inl (g.1 1, 100, .inl (fun _ => 0))),
  ((ad 18), .inr (0, [.ref (ad 19), .int 0, .int 0, .int 0, .int 0])),
  ((ad 19), .inl (g.1 1, 20, .inl (fun _ => 0))),
  ((ad 20), .inl (g.1 5, 6, .inr (.inr (.inr (.inr (va_up (va_up (va_up (va_up (va_up (va_up (fun _ => none) 0 (some (ad 67))) 1 (some (ad 69))) 2 (some (ad 71))) 3 (some (ad 73))) 4 (some (ad 75))) 5 (some (ad 77)))))))),
  ((ad 21), .inr (1, [.ref (ad 22), .ref (ad 23), .int (pa_min 60 20), .int (pa_max 1 4)])),
  ((ad 22), .inl (g.1 1, 0, .inl (fun _ => 0))),
  ((ad 23), .inl (g.1 1, 0, .inl (fun _ => 0))),
  ((ad 24), .inr (3, [.ref (ad 25), .ref (ad 26), .ref (ad 27), .ref (ad 28), .ref (ad 29), .ref (ad 30), .int 0, .int 100, .int 0, .ref (ad 21)])),
  ((ad 25), .inl (g.1 1, 5, .inl (fun _ => 0))),
  ((ad 26), .inl (g.1 1, 5, .inl (fun _ => 0))),
  ((ad 27), .inl (g.1 1, 5, .inl (fun _ => 0))),
  ((ad 28), .inl (g.1 1, 15, .inl (fun _ => 0))),
  ((ad 29), .inl (g.1 1, 20, .inl (fun _ => 0))),
  ((ad 30), .inl (g.1 1, 6, .inl (fun _ => 0))),
  ((ad 31), .inr (3, [.ref (ad 32), .ref (ad 33), .ref (ad 34), .ref (ad 35), .ref (ad 36), .ref (ad 37), .int 0, .int 100, .int 0, .ref (ad 21)])),
  ((ad 32), .inl (g.1 1, 5, .inl (fun _ => 0))),
  ((ad 33), .inl (g.1 1, 5, .inl (fun _ => 0))),
  ((ad 34), .inl (g.1 1, 5, .inl (fun _ => 0))),
  ((ad 35), .inl (g.1 1, 15, .inl (fun _ => 0))),
  ((ad 36), .inl (g.1 1, 20, .inl (fun _ => 0))),
  ((ad 37), .inl (g.1 1, 6, .inl (fun _ => 0))),
  ((ad 38), .inl (g.1 4, 4, .inr (.inr (.inr (.inr (va_up (va_up (va_up (va_up (fun _ => none) 0 (some (ad 39))) 1 (some (ad 46))) 2 (some (ad 53))) 3 (some (ad 60)))))))),
  ((ad 39), .inr (3, [.ref (ad 40), .ref (ad 41), .ref (ad 42), .ref (ad 43), .ref (ad 44), .ref (ad 45), .int 0, .int 100, .int 0, .ref (ad 21)])),
  ((ad 40), .inl (g.1 1, 5, .inl (fun _ => 0))),
  ((ad 41), .inl (g.1 1, 5, .inl (fun _ => 0))),
  ((ad 42), .inl (g.1 1, 5, .inl (fun _ => 0))),
  ((ad 43), .inl (g.1 1, 15, .inl (fun _ => 0))),
  ((ad 44), .inl (g.1 1, 20, .inl (fun _ => 0))),
  ((ad 45), .inl (g.1 1, 6, .inl (fun _ => 0))),
  ((ad 46), .inr (3, [.ref (ad 47), .ref (ad 48), .ref (ad 49), .ref (ad 50), .ref (ad 51), .ref (ad 52), .int 0, .int 100, .int 0, .ref (ad 21)])),
  ((ad 47), .inl (g.1 1, 5, .inl (fun _ => 0))),
  ((ad 48), .inl (g.1 1, 5, .inl (fun _ => 0))),
  ((ad 49), .inl (g.1 1, 5, .inl (fun _ => 0))),
  ((ad 50), .inl (g.1 1, 15, .inl (fun _ => 0))),
  ((ad 51), .inl (g.1 1, 20, .inl (fun _ => 0))),
  ((ad 52), .inl (g.1 1, 6, .inl (fun _ => 0))),
  ((ad 53), .inr (3, [.ref (ad 54), .ref (ad 55), .ref (ad 56), .ref (ad 57), .ref (ad 58), .ref (ad 59), .int 0, .int 100, .int 0, .ref (ad 21)])),
  ((ad 54), .inl (g.1 1, 5, .inl (fun _ => 0))),
  ((ad 55), .inl (g.1 1, 5, .inl (fun _ => 0))),
  ((ad 56), .inl (g.1 1, 5, .inl (fun _ => 0))),
  ((ad 57), .inl (g.1 1, 15, .inl (fun _ => 0))),
  ((ad 58), .inl (g.1 1, 20, .inl (fun _ => 0))),
  ((ad 59), .inl (g.1 1, 6, .inl (fun _ => 0))),
  ((ad 60), .inr (3, [.ref (ad 61), .ref (ad 62), .ref (ad 63), .ref (ad 64), .ref (ad 65), .ref (ad 66), .int 0, .int 100, .int 0, .ref (ad 21)])),
  ((ad 61), .inl (g.1 1, 5, .inl (fun _ => 0))),
  ((ad 62), .inl (g.1 1, 5, .inl (fun _ => 0))),
  ((ad 63), .inl (g.1 1, 5, .inl (fun _ => 0))),
  ((ad 64), .inl (g.1 1, 15, .inl (fun _ => 0))),
  ((ad 65), .inl (g.1 1, 20, .inl (fun _ => 0))),
  ((ad 66), .inl (g.1 1, 6, .inl (fun _ => 0))),
  ((ad 67), .inr (4, [.ref (ad 68), .int (-1 : Int32), .int 0])),
  ((ad 68), .inl (g.1 2, 60, .inr (.inl (fun _ => 0)))),
  ((ad 69), .inr (4, [.ref (ad 70), .int (-1 : Int32), .int 0])),
  ((ad 70), .inl (g.1 2, 60, .inr (.inl (fun _ => 0)))),
  ((ad 71), .inr (4, [.ref (ad 72), .int (-1 : Int32), .int 0])),
  ((ad 72), .inl (g.1 2, 60, .inr (.inl (fun _ => 0)))),
  ((ad 73), .inr (4, [.ref (ad 74), .int (-1 : Int32), .int 0])),
  ((ad 74), .inl (g.1 2, 60, .inr (.inl (fun _ => 0)))),
  ((ad 75), .inr (4, [.ref (ad 76), .int (-1 : Int32), .int 0])),
  ((ad 76), .inl (g.1 2, 60, .inr (.inl (fun _ => 0)))),
  ((ad 77), .inr (4, [.ref (ad 78), .int (-1 : Int32), .int 0])),
  ((ad 78), .inl (g.1 2, 60, .inr (.inl (fun _ => 0)))),
  ((ad 79), .inr (7, [.int 0, .int 0, .int 100, .ref (ad 80), .ref (ad 81), .ref (ad 82), .ref (ad 83), .ref (ad 84), .int 0, .int (-1 : Int32), .int 0, .int 0, .int 0, .ref (ad 85), .ref (ad 86), .ref (ad 87), .ref (ad 88), .ref (ad 89), .ref (ad 90), .ref (ad 91), .ref (ad 92), .int 0, .int 0, .int 0, .ref (ad 93), .ref (ad 94), .int 0, .int 0, .ref (ad 95), .ref (ad 96), .int 0, .ref (ad 97), .ref (ad 98), .ref (ad 99), .ref (ad 100), .int 0, .int 0, .ref (ad 101), .ref (ad 102), .ref (ad 103), .int 0, .ref (ad 104), .ref (ad 105), .int 0, .int (-1 : Int32), .int 0, .int 0, .int 0, .int 0, .int 0, .int 0, .ref (ad 106), .ref (ad 107), .ref (ad 108), .ref (ad 109), .ref (ad 110), .ref (ad 111), .ref (ad 112), .ref (ad 113), .ref (ad 114), .ref (ad 115), .ref (ad 116), .ref (ad 117), .int 0, .ref (ad 118), .ref (ad 119), .ref (ad 120), .ref (ad 121), .ref (ad 122)])),
  ((ad 80), .inl (g.1 1, 5, .inl (fun _ => 0))),
  ((ad 81), .inl (g.1 1, 5, .inl (fun _ => 0))),
  ((ad 82), .inl (g.1 1, 5, .inl (fun _ => 0))),
  ((ad 83), .inl (g.1 1, 15, .inl (fun _ => 0))),
  ((ad 84), .inl (g.1 1, 20, .inl (fun _ => 0))),
  ((ad 85), .inl (g.1 1, 100, .inl (fun _ => 0))),
  ((ad 86), .inl (g.1 1, 6, .inl (fun _ => 0))),
  ((ad 87), .inl (g.1 1, 60, .inl (fun _ => 0))),
  ((ad 88), .inl (g.1 1, 60, .inl (fun _ => 0))),
  ((ad 89), .inl (g.1 1, 60, .inl (fun _ => 0))),
  ((ad 90), .inl (g.1 1, 60, .inl (fun _ => 0))),
  ((ad 91), .inl (g.1 1, 600, .inl (fun _ => 0))),
  ((ad 92), .inl (g.1 1, 101, .inl (fun _ => 0))),
  ((ad 93), .inl (g.1 1, 20, .inl (upd (upd (upd (upd (upd (upd (upd (upd (upd (upd (upd (upd (upd (upd (upd (upd (upd (upd (upd (upd (fun _ => 0) 0 98) 1 108) 2 101) 3 115) 4 115) 5 98) 6 108) 7 105) 8 103) 9 104) 10 116) 11 114) 12 111) 13 111) 14 109) 15 112) 16 114) 17 101) 18 115) 19 115))),
  ((ad 94), .inl (g.1 3, 100, .inl (fun _ => 0))),
  ((ad 95), .inl (g.1 1, 5, .inl (fun _ => 0))),
  ((ad 96), .inl (g.1 1, 15, .inl (fun _ => 0))),
  ((ad 97), .inl (g.1 1, 8, .inl (fun _ => 0))),
  ((ad 98), .inl (g.1 1, 8, .inl (fun _ => 0))),
  ((ad 99), .inl (g.1 1, 10, .inl (fun _ => 0))),
  ((ad 100), .inl (g.1 1, 10, .inl (fun _ => 0))),
  ((ad 101), .inl (g.1 1, 5, .inl (fun _ => 0))),
  ((ad 102), .inl (g.1 1, 5, .inl (fun _ => 0))),
  ((ad 103), .inl (g.1 1, 5, .inl (fun _ => 0))),
  ((ad 104), .inl (g.1 1, 10, .inl (fun _ => 0))),
  ((ad 105), .inl (g.1 1, 10, .inl (fun _ => 0))),
  ((ad 106), .inl (g.1 1, 5, .inl (fun _ => 0))),
  ((ad 107), .inl (g.1 1, 5, .inl (fun _ => 0))),
  ((ad 108), .inl (g.1 1, 5, .inl (fun _ => 0))),
  ((ad 109), .inl (g.1 1, 15, .inl (fun _ => 0))),
  ((ad 110), .inl (g.1 1, 20, .inl (fun _ => 0))),
  ((ad 111), .inl (g.1 1, 5, .inl (fun _ => 0))),
  ((ad 112), .inl (g.1 1, 5, .inl (fun _ => 0))),
  ((ad 113), .inl (g.1 1, 5, .inl (fun _ => 0))),
  ((ad 114), .inl (g.1 1, 10, .inl (fun _ => 0))),
  ((ad 115), .inl (g.1 1, 10, .inl (fun _ => 0))),
  ((ad 116), .inl (g.1 1, 8, .inl (fun _ => 0))),
  ((ad 117), .inl (g.1 1, 8, .inl (fun _ => 0))),
  ((ad 118), .inl (g.1 1, 20, .inl (fun _ => 0))),
  ((ad 119), .inl (g.1 1, 6, .inl (upd (upd (upd (upd (upd (upd (fun _ => 0) 0 (-1 : Int32)) 1 (-1 : Int32)) 2 (-1 : Int32)) 3 (-1 : Int32)) 4 (-1 : Int32)) 5 (-1 : Int32)))),
  ((ad 120), .inl (g.1 1, 6, .inl (fun _ => 0))),
  ((ad 121), .inl (g.1 2, 360, .inr (.inl (fun _ => 0)))),
  ((ad 122), .inl (g.1 2, 60, .inr (.inl (fun _ => 0))))]
def pa_I0 (t k : Nat) : Int32 :=
  if t = 1 ∧ k = 7 then 100 else
  if t = 14 ∧ k = 2 then (pa_min 60 20) else
  if t = 14 ∧ k = 3 then (pa_max 1 4) else
  if t = 19 ∧ k = 1 then (-1 : Int32) else
  if t = 24 ∧ k = 2 then 100 else
  if t = 24 ∧ k = 9 then (-1 : Int32) else
  if t = 24 ∧ k = 44 then (-1 : Int32) else
  0
def pa_A0 (t : Nat) : Nat → Int32 :=
  if t = 38 then (upd (upd (upd (upd (upd (upd (upd (upd (upd (upd (upd (upd (upd (upd (upd (upd (upd (upd (upd (upd (fun _ => 0) 0 98) 1 108) 2 101) 3 115) 4 115) 5 98) 6 108) 7 105) 8 103) 9 104) 10 116) 11 114) 12 111) 13 111) 14 109) 15 112) 16 114) 17 101) 18 115) 19 115) else
  if t = 64 then (upd (upd (upd (upd (upd (upd (fun _ => 0) 0 (-1 : Int32)) 1 (-1 : Int32)) 2 (-1 : Int32)) 3 (-1 : Int32)) 4 (-1 : Int32)) 5 (-1 : Int32)) else
  (fun _ => 0)
def pa_s0 : pa_S := (fun t _ k => pa_I0 t k, fun t _ => pa_A0 t, fun _ _ _ => 0, fun t _ => if t = 70 then 1 else 0)
def pa_look0 (t i : Nat) : List (Nat × Nat × Nat) → Nat
  | [] => 0
  | x :: r => cond (Nat.beq x.1 t && Nat.beq x.2.1 i) x.2.2 (pa_look0 t i r)
def pa_tab0 : List (Nat × Nat × Nat) := [(0, 0, 0), (1, 0, 24), (1, 1, 31), (1, 2, 39), (1, 3, 46), (1, 4, 53), (1, 5, 60), (2, 0, 25), (2, 1, 32), (2, 2, 40), (2, 3, 47), (2, 4, 54), (2, 5, 61), (3, 0, 26), (3, 1, 33), (3, 2, 41), (3, 3, 48), (3, 4, 55), (3, 5, 62), (4, 0, 27), (4, 1, 34), (4, 2, 42), (4, 3, 49), (4, 4, 56), (4, 5, 63), (5, 0, 28), (5, 1, 35), (5, 2, 43), (5, 3, 50), (5, 4, 57), (5, 5, 64), (6, 0, 29), (6, 1, 36), (6, 2, 44), (6, 3, 51), (6, 4, 58), (6, 5, 65), (7, 0, 30), (7, 1, 37), (7, 2, 45), (7, 3, 52), (7, 4, 59), (7, 5, 66), (8, 0, 1), (8, 1, 3), (8, 2, 5), (8, 3, 7), (8, 4, 9), (8, 5, 11), (9, 0, 2), (9, 1, 4), (9, 2, 6), (9, 3, 8), (9, 4, 10), (9, 5, 12), (10, 0, 14), (11, 0, 15), (12, 0, 16), (13, 0, 17), (17, 0, 18), (18, 0, 19), (19, 0, 67), (19, 1, 69), (19, 2, 71), (19, 3, 73), (19, 4, 75), (19, 5, 77), (20, 0, 68), (20, 1, 70), (20, 2, 72), (20, 3, 74), (20, 4, 76), (20, 5, 78), (21, 0, 38), (22, 0, 20), (23, 0, 13), (24, 0, 79), (25, 0, 80), (26, 0, 81), (27, 0, 82), (28, 0, 83), (29, 0, 84), (30, 0, 85), (31, 0, 86), (32, 0, 87), (33, 0, 88), (34, 0, 89), (35, 0, 90), (36, 0, 91), (37, 0, 92), (38, 0, 93), (39, 0, 94), (40, 0, 95), (41, 0, 96), (42, 0, 97), (43, 0, 98), (44, 0, 99), (45, 0, 100), (46, 0, 101), (47, 0, 102), (48, 0, 103), (49, 0, 104), (50, 0, 105), (51, 0, 106), (52, 0, 107), (53, 0, 108), (54, 0, 109), (55, 0, 110), (56, 0, 111), (57, 0, 112), (58, 0, 113), (59, 0, 114), (60, 0, 115), (61, 0, 116), (62, 0, 117), (63, 0, 118), (64, 0, 119), (65, 0, 120), (66, 0, 121), (67, 0, 122), (14, 0, 21), (15, 0, 22), (16, 0, 23)]
def pa_q0 (ad : Nat → Nat) (t i : Nat) : Nat := ad (pa_look0 t i pa_tab0)
theorem pa_perm {W0 : va_W} {h : Nat × Nat → Nat × va_E} : ∀ {l : List (Nat × Nat × Nat)}, (∀ x ∈ l, W0[x.2.2]? = some (h (x.1, x.2.1))) → (l.map (fun x => x.2.2)).map (fun i => W0[i]?) = ((l.map (fun x => (x.1, x.2.1))).map h).map some
  | [], _ => rfl
  | x :: l, hx => by
    have h1 := hx x List.mem_cons_self
    have h2 := pa_perm (l := l) (fun y hy => hx y (List.mem_cons_of_mem _ hy))
    simp only [List.map_cons] at h2 ⊢
    rw [h1, h2]
theorem pa_permF {W0 ws : va_W} {is : List Nat} (h : is.map (fun i => W0[i]?) = ws.map some) : is.filterMap (fun i => W0[i]?) = ws := by
  have e : is.filterMap (fun i => W0[i]?) = (is.map (fun i => W0[i]?)).filterMap id := by rw [List.filterMap_map]; rfl
  rw [e, h, List.filterMap_map]
  show ws.filterMap (fun x => some x) = ws
  simp
set_option maxRecDepth 100000 in
theorem pa_z0 (g : pa_G) (ad : Nat → Nat) : (pa_W0 g ad)[0]? = some (pa_q0 ad 0 0, pa_ce g (pa_q0 ad) pa_s0 0 0) := rfl
set_option maxRecDepth 100000 in
theorem pa_z1 (g : pa_G) (ad : Nat → Nat) : (pa_W0 g ad)[24]? = some (pa_q0 ad 1 0, pa_ce g (pa_q0 ad) pa_s0 1 0) := rfl
set_option maxRecDepth 100000 in
theorem pa_z2 (g : pa_G) (ad : Nat → Nat) : (pa_W0 g ad)[31]? = some (pa_q0 ad 1 1, pa_ce g (pa_q0 ad) pa_s0 1 1) := rfl
set_option maxRecDepth 100000 in
theorem pa_z3 (g : pa_G) (ad : Nat → Nat) : (pa_W0 g ad)[39]? = some (pa_q0 ad 1 2, pa_ce g (pa_q0 ad) pa_s0 1 2) := rfl
set_option maxRecDepth 100000 in
theorem pa_z4 (g : pa_G) (ad : Nat → Nat) : (pa_W0 g ad)[46]? = some (pa_q0 ad 1 3, pa_ce g (pa_q0 ad) pa_s0 1 3) := rfl
set_option maxRecDepth 100000 in
theorem pa_z5 (g : pa_G) (ad : Nat → Nat) : (pa_W0 g ad)[53]? = some (pa_q0 ad 1 4, pa_ce g (pa_q0 ad) pa_s0 1 4) := rfl
set_option maxRecDepth 100000 in
theorem pa_z6 (g : pa_G) (ad : Nat → Nat) : (pa_W0 g ad)[60]? = some (pa_q0 ad 1 5, pa_ce g (pa_q0 ad) pa_s0 1 5) := rfl
set_option maxRecDepth 100000 in
theorem pa_z7 (g : pa_G) (ad : Nat → Nat) : (pa_W0 g ad)[25]? = some (pa_q0 ad 2 0, pa_ce g (pa_q0 ad) pa_s0 2 0) := rfl
set_option maxRecDepth 100000 in
theorem pa_z8 (g : pa_G) (ad : Nat → Nat) : (pa_W0 g ad)[32]? = some (pa_q0 ad 2 1, pa_ce g (pa_q0 ad) pa_s0 2 1) := rfl
set_option maxRecDepth 100000 in
theorem pa_z9 (g : pa_G) (ad : Nat → Nat) : (pa_W0 g ad)[40]? = some (pa_q0 ad 2 2, pa_ce g (pa_q0 ad) pa_s0 2 2) := rfl
set_option maxRecDepth 100000 in
theorem pa_z10 (g : pa_G) (ad : Nat → Nat) : (pa_W0 g ad)[47]? = some (pa_q0 ad 2 3, pa_ce g (pa_q0 ad) pa_s0 2 3) := rfl
set_option maxRecDepth 100000 in
theorem pa_z11 (g : pa_G) (ad : Nat → Nat) : (pa_W0 g ad)[54]? = some (pa_q0 ad 2 4, pa_ce g (pa_q0 ad) pa_s0 2 4) := rfl
set_option maxRecDepth 100000 in
theorem pa_z12 (g : pa_G) (ad : Nat → Nat) : (pa_W0 g ad)[61]? = some (pa_q0 ad 2 5, pa_ce g (pa_q0 ad) pa_s0 2 5) := rfl
set_option maxRecDepth 100000 in
theorem pa_z13 (g : pa_G) (ad : Nat → Nat) : (pa_W0 g ad)[26]? = some (pa_q0 ad 3 0, pa_ce g (pa_q0 ad) pa_s0 3 0) := rfl
set_option maxRecDepth 100000 in
theorem pa_z14 (g : pa_G) (ad : Nat → Nat) : (pa_W0 g ad)[33]? = some (pa_q0 ad 3 1, pa_ce g (pa_q0 ad) pa_s0 3 1) := rfl
set_option maxRecDepth 100000 in
theorem pa_z15 (g : pa_G) (ad : Nat → Nat) : (pa_W0 g ad)[41]? = some (pa_q0 ad 3 2, pa_ce g (pa_q0 ad) pa_s0 3 2) := rfl
set_option maxRecDepth 100000 in
theorem pa_z16 (g : pa_G) (ad : Nat → Nat) : (pa_W0 g ad)[48]? = some (pa_q0 ad 3 3, pa_ce g (pa_q0 ad) pa_s0 3 3) := rfl
set_option maxRecDepth 100000 in
theorem pa_z17 (g : pa_G) (ad : Nat → Nat) : (pa_W0 g ad)[55]? = some (pa_q0 ad 3 4, pa_ce g (pa_q0 ad) pa_s0 3 4) := rfl
set_option maxRecDepth 100000 in
theorem pa_z18 (g : pa_G) (ad : Nat → Nat) : (pa_W0 g ad)[62]? = some (pa_q0 ad 3 5, pa_ce g (pa_q0 ad) pa_s0 3 5) := rfl
set_option maxRecDepth 100000 in
theorem pa_z19 (g : pa_G) (ad : Nat → Nat) : (pa_W0 g ad)[27]? = some (pa_q0 ad 4 0, pa_ce g (pa_q0 ad) pa_s0 4 0) := rfl
set_option maxRecDepth 100000 in
theorem pa_z20 (g : pa_G) (ad : Nat → Nat) : (pa_W0 g ad)[34]? = some (pa_q0 ad 4 1, pa_ce g (pa_q0 ad) pa_s0 4 1) := rfl
set_option maxRecDepth 100000 in
theorem pa_z21 (g : pa_G) (ad : Nat → Nat) : (pa_W0 g ad)[42]? = some (pa_q0 ad 4 2, pa_ce g (pa_q0 ad) pa_s0 4 2) := rfl
set_option maxRecDepth 100000 in
theorem pa_z22 (g : pa_G) (ad : Nat → Nat) : (pa_W0 g ad)[49]? = some (pa_q0 ad 4 3, pa_ce g (pa_q0 ad) pa_s0 4 3) := rfl
set_option maxRecDepth 100000 in
theorem pa_z23 (g : pa_G) (ad : Nat → Nat) : (pa_W0 g ad)[56]? = some (pa_q0 ad 4 4, pa_ce g (pa_q0 ad) pa_s0 4 4) := rfl
set_option maxRecDepth 100000 in
theorem pa_z24 (g : pa_G) (ad : Nat → Nat) : (pa_W0 g ad)[63]? = some (pa_q0 ad 4 5, pa_ce g (pa_q0 ad) pa_s0 4 5) := rfl
set_option maxRecDepth 100000 in
theorem pa_z25 (g : pa_G) (ad : Nat → Nat) : (pa_W0 g ad)[28]? = some (pa_q0 ad 5 0, pa_ce g (pa_q0 ad) pa_s0 5 0) := rfl
set_option maxRecDepth 100000 in
theorem pa_z26 (g : pa_G) (ad : Nat → Nat) : (pa_W0 g ad)[35]? = some (pa_q0 ad 5 1, pa_ce g (pa_q0 ad) pa_s0 5 1) := rfl
set_option maxRecDepth 100000 in
theorem pa_z27 (g : pa_G) (ad : Nat → Nat) : (pa_W0 g ad)[43]? = some (pa_q0 ad 5 2, pa_ce g (pa_q0 ad) pa_s0 5 2) := rfl
set_option maxRecDepth 100000 in
theorem pa_z28 (g : pa_G) (ad : Nat → Nat) : (pa_W0 g ad)[50]? = some (pa_q0 ad 5 3, pa_ce g (pa_q0 ad) pa_s0 5 3) := rfl
set_option maxRecDepth 100000 in
theorem pa_z29 (g : pa_G) (ad : Nat → Nat) : (pa_W0 g ad)[57]? = some (pa_q0 ad 5 4, pa_ce g (pa_q0 ad) pa_s0 5 4) := rfl
set_option maxRecDepth 100000 in
theorem pa_z30 (g : pa_G) (ad : Nat → Nat) : (pa_W0 g ad)[64]? = some (pa_q0 ad 5 5, pa_ce g (pa_q0 ad) pa_s0 5 5) := rfl
set_option maxRecDepth 100000 in
theorem pa_z31 (g : pa_G) (ad : Nat → Nat) : (pa_W0 g ad)[29]? = some (pa_q0 ad 6 0, pa_ce g (pa_q0 ad) pa_s0 6 0) := rfl
set_option maxRecDepth 100000 in
theorem pa_z32 (g : pa_G) (ad : Nat → Nat) : (pa_W0 g ad)[36]? = some (pa_q0 ad 6 1, pa_ce g (pa_q0 ad) pa_s0 6 1) := rfl
set_option maxRecDepth 100000 in
theorem pa_z33 (g : pa_G) (ad : Nat → Nat) : (pa_W0 g ad)[44]? = some (pa_q0 ad 6 2, pa_ce g (pa_q0 ad) pa_s0 6 2) := rfl
set_option maxRecDepth 100000 in
theorem pa_z34 (g : pa_G) (ad : Nat → Nat) : (pa_W0 g ad)[51]? = some (pa_q0 ad 6 3, pa_ce g (pa_q0 ad) pa_s0 6 3) := rfl
set_option maxRecDepth 100000 in
theorem pa_z35 (g : pa_G) (ad : Nat → Nat) : (pa_W0 g ad)[58]? = some (pa_q0 ad 6 4, pa_ce g (pa_q0 ad) pa_s0 6 4) := rfl
set_option maxRecDepth 100000 in
theorem pa_z36 (g : pa_G) (ad : Nat → Nat) : (pa_W0 g ad)[65]? = some (pa_q0 ad 6 5, pa_ce g (pa_q0 ad) pa_s0 6 5) := rfl
set_option maxRecDepth 100000 in
theorem pa_z37 (g : pa_G) (ad : Nat → Nat) : (pa_W0 g ad)[30]? = some (pa_q0 ad 7 0, pa_ce g (pa_q0 ad) pa_s0 7 0) := rfl
set_option maxRecDepth 100000 in
theorem pa_z38 (g : pa_G) (ad : Nat → Nat) : (pa_W0 g ad)[37]? = some (pa_q0 ad 7 1, pa_ce g (pa_q0 ad) pa_s0 7 1) := rfl
set_option maxRecDepth 100000 in
theorem pa_z39 (g : pa_G) (ad : Nat → Nat) : (pa_W0 g ad)[45]? = some (pa_q0 ad 7 2, pa_ce g (pa_q0 ad) pa_s0 7 2) := rfl
set_option maxRecDepth 100000 in
theorem pa_z40 (g : pa_G) (ad : Nat → Nat) : (pa_W0 g ad)[52]? = some (pa_q0 ad 7 3, pa_ce g (pa_q0 ad) pa_s0 7 3) := rfl
set_option maxRecDepth 100000 in
theorem pa_z41 (g : pa_G) (ad : Nat → Nat) : (pa_W0 g ad)[59]? = some (pa_q0 ad 7 4, pa_ce g (pa_q0 ad) pa_s0 7 4) := rfl
set_option maxRecDepth 100000 in
theorem pa_z42 (g : pa_G) (ad : Nat → Nat) : (pa_W0 g ad)[66]? = some (pa_q0 ad 7 5, pa_ce g (pa_q0 ad) pa_s0 7 5) := rfl
set_option maxRecDepth 100000 in
theorem pa_z43 (g : pa_G) (ad : Nat → Nat) : (pa_W0 g ad)[1]? = some (pa_q0 ad 8 0, pa_ce g (pa_q0 ad) pa_s0 8 0) := rfl
set_option maxRecDepth 100000 in
theorem pa_z44 (g : pa_G) (ad : Nat → Nat) : (pa_W0 g ad)[3]? = some (pa_q0 ad 8 1, pa_ce g (pa_q0 ad) pa_s0 8 1) := rfl
set_option maxRecDepth 100000 in
theorem pa_z45 (g : pa_G) (ad : Nat → Nat) : (pa_W0 g ad)[5]? = some (pa_q0 ad 8 2, pa_ce g (pa_q0 ad) pa_s0 8 2) := rfl
set_option maxRecDepth 100000 in
theorem pa_z46 (g : pa_G) (ad : Nat → Nat) : (pa_W0 g ad)[7]? = some (pa_q0 ad 8 3, pa_ce g (pa_q0 ad) pa_s0 8 3) := rfl
set_option maxRecDepth 100000 in
theorem pa_z47 (g : pa_G) (ad : Nat → Nat) : (pa_W0 g ad)[9]? = some (pa_q0 ad 8 4, pa_ce g (pa_q0 ad) pa_s0 8 4) := rfl
set_option maxRecDepth 100000 in
theorem pa_z48 (g : pa_G) (ad : Nat → Nat) : (pa_W0 g ad)[11]? = some (pa_q0 ad 8 5, pa_ce g (pa_q0 ad) pa_s0 8 5) := rfl
set_option maxRecDepth 100000 in
theorem pa_z49 (g : pa_G) (ad : Nat → Nat) : (pa_W0 g ad)[2]? = some (pa_q0 ad 9 0, pa_ce g (pa_q0 ad) pa_s0 9 0) := rfl
set_option maxRecDepth 100000 in
theorem pa_z50 (g : pa_G) (ad : Nat → Nat) : (pa_W0 g ad)[4]? = some (pa_q0 ad 9 1, pa_ce g (pa_q0 ad) pa_s0 9 1) := rfl
set_option maxRecDepth 100000 in
theorem pa_z51 (g : pa_G) (ad : Nat → Nat) : (pa_W0 g ad)[6]? = some (pa_q0 ad 9 2, pa_ce g (pa_q0 ad) pa_s0 9 2) := rfl
set_option maxRecDepth 100000 in
theorem pa_z52 (g : pa_G) (ad : Nat → Nat) : (pa_W0 g ad)[8]? = some (pa_q0 ad 9 3, pa_ce g (pa_q0 ad) pa_s0 9 3) := rfl
set_option maxRecDepth 100000 in
theorem pa_z53 (g : pa_G) (ad : Nat → Nat) : (pa_W0 g ad)[10]? = some (pa_q0 ad 9 4, pa_ce g (pa_q0 ad) pa_s0 9 4) := rfl
set_option maxRecDepth 100000 in
theorem pa_z54 (g : pa_G) (ad : Nat → Nat) : (pa_W0 g ad)[12]? = some (pa_q0 ad 9 5, pa_ce g (pa_q0 ad) pa_s0 9 5) := rfl
set_option maxRecDepth 100000 in
theorem pa_z55 (g : pa_G) (ad : Nat → Nat) : (pa_W0 g ad)[14]? = some (pa_q0 ad 10 0, pa_ce g (pa_q0 ad) pa_s0 10 0) := rfl
set_option maxRecDepth 100000 in
theorem pa_z56 (g : pa_G) (ad : Nat → Nat) : (pa_W0 g ad)[15]? = some (pa_q0 ad 11 0, pa_ce g (pa_q0 ad) pa_s0 11 0) := rfl
set_option maxRecDepth 100000 in
theorem pa_z57 (g : pa_G) (ad : Nat → Nat) : (pa_W0 g ad)[16]? = some (pa_q0 ad 12 0, pa_ce g (pa_q0 ad) pa_s0 12 0) := rfl
set_option maxRecDepth 100000 in
theorem pa_z58 (g : pa_G) (ad : Nat → Nat) : (pa_W0 g ad)[17]? = some (pa_q0 ad 13 0, pa_ce g (pa_q0 ad) pa_s0 13 0) := rfl
set_option maxRecDepth 100000 in
theorem pa_z59 (g : pa_G) (ad : Nat → Nat) : (pa_W0 g ad)[18]? = some (pa_q0 ad 17 0, pa_ce g (pa_q0 ad) pa_s0 17 0) := rfl
set_option maxRecDepth 100000 in
theorem pa_z60 (g : pa_G) (ad : Nat → Nat) : (pa_W0 g ad)[19]? = some (pa_q0 ad 18 0, pa_ce g (pa_q0 ad) pa_s0 18 0) := rfl
set_option maxRecDepth 100000 in
theorem pa_z61 (g : pa_G) (ad : Nat → Nat) : (pa_W0 g ad)[67]? = some (pa_q0 ad 19 0, pa_ce g (pa_q0 ad) pa_s0 19 0) := rfl
set_option maxRecDepth 100000 in
theorem pa_z62 (g : pa_G) (ad : Nat → Nat) : (pa_W0 g ad)[69]? = some (pa_q0 ad 19 1, pa_ce g (pa_q0 ad) pa_s0 19 1) := rfl
set_option maxRecDepth 100000 in
theorem pa_z63 (g : pa_G) (ad : Nat → Nat) : (pa_W0 g ad)[71]? = some (pa_q0 ad 19 2, pa_ce g (pa_q0 ad) pa_s0 19 2) := rfl
set_option maxRecDepth 100000 in
theorem pa_z64 (g : pa_G) (ad : Nat → Nat) : (pa_W0 g ad)[73]? = some (pa_q0 ad 19 3, pa_ce g (pa_q0 ad) pa_s0 19 3) := rfl
set_option maxRecDepth 100000 in
theorem pa_z65 (g : pa_G) (ad : Nat → Nat) : (pa_W0 g ad)[75]? = some (pa_q0 ad 19 4, pa_ce g (pa_q0 ad) pa_s0 19 4) := rfl
set_option maxRecDepth 100000 in
theorem pa_z66 (g : pa_G) (ad : Nat → Nat) : (pa_W0 g ad)[77]? = some (pa_q0 ad 19 5, pa_ce g (pa_q0 ad) pa_s0 19 5) := rfl
set_option maxRecDepth 100000 in
theorem pa_z67 (g : pa_G) (ad : Nat → Nat) : (pa_W0 g ad)[68]? = some (pa_q0 ad 20 0, pa_ce g (pa_q0 ad) pa_s0 20 0) := rfl
set_option maxRecDepth 100000 in
theorem pa_z68 (g : pa_G) (ad : Nat → Nat) : (pa_W0 g ad)[70]? = some (pa_q0 ad 20 1, pa_ce g (pa_q0 ad) pa_s0 20 1) := rfl
set_option maxRecDepth 100000 in
theorem pa_z69 (g : pa_G) (ad : Nat → Nat) : (pa_W0 g ad)[72]? = some (pa_q0 ad 20 2, pa_ce g (pa_q0 ad) pa_s0 20 2) := rfl
set_option maxRecDepth 100000 in
theorem pa_z70 (g : pa_G) (ad : Nat → Nat) : (pa_W0 g ad)[74]? = some (pa_q0 ad 20 3, pa_ce g (pa_q0 ad) pa_s0 20 3) := rfl
set_option maxRecDepth 100000 in
theorem pa_z71 (g : pa_G) (ad : Nat → Nat) : (pa_W0 g ad)[76]? = some (pa_q0 ad 20 4, pa_ce g (pa_q0 ad) pa_s0 20 4) := rfl
set_option maxRecDepth 100000 in
theorem pa_z72 (g : pa_G) (ad : Nat → Nat) : (pa_W0 g ad)[78]? = some (pa_q0 ad 20 5, pa_ce g (pa_q0 ad) pa_s0 20 5) := rfl
set_option maxRecDepth 100000 in
theorem pa_z73 (g : pa_G) (ad : Nat → Nat) : (pa_W0 g ad)[38]? = some (pa_q0 ad 21 0, pa_ce g (pa_q0 ad) pa_s0 21 0) := rfl
set_option maxRecDepth 100000 in
theorem pa_z74 (g : pa_G) (ad : Nat → Nat) : (pa_W0 g ad)[20]? = some (pa_q0 ad 22 0, pa_ce g (pa_q0 ad) pa_s0 22 0) := rfl
set_option maxRecDepth 100000 in
theorem pa_z75 (g : pa_G) (ad : Nat → Nat) : (pa_W0 g ad)[13]? = some (pa_q0 ad 23 0, pa_ce g (pa_q0 ad) pa_s0 23 0) := rfl
set_option maxRecDepth 100000 in
theorem pa_z76 (g : pa_G) (ad : Nat → Nat) : (pa_W0 g ad)[79]? = some (pa_q0 ad 24 0, pa_ce g (pa_q0 ad) pa_s0 24 0) := rfl
set_option maxRecDepth 100000 in
theorem pa_z77 (g : pa_G) (ad : Nat → Nat) : (pa_W0 g ad)[80]? = some (pa_q0 ad 25 0, pa_ce g (pa_q0 ad) pa_s0 25 0) := rfl
set_option maxRecDepth 100000 in
theorem pa_z78 (g : pa_G) (ad : Nat → Nat) : (pa_W0 g ad)[81]? = some (pa_q0 ad 26 0, pa_ce g (pa_q0 ad) pa_s0 26 0) := rfl
set_option maxRecDepth 100000 in
theorem pa_z79 (g : pa_G) (ad : Nat → Nat) : (pa_W0 g ad)[82]? = some (pa_q0 ad 27 0, pa_ce g (pa_q0 ad) pa_s0 27 0) := rfl
set_option maxRecDepth 100000 in
theorem pa_z80 (g : pa_G) (ad : Nat → Nat) : (pa_W0 g ad)[83]? = some (pa_q0 ad 28 0, pa_ce g (pa_q0 ad) pa_s0 28 0) := rfl
set_option maxRecDepth 100000 in
theorem pa_z81 (g : pa_G) (ad : Nat → Nat) : (pa_W0 g ad)[84]? = some (pa_q0 ad 29 0, pa_ce g (pa_q0 ad) pa_s0 29 0) := rfl
set_option maxRecDepth 100000 in
theorem pa_z82 (g : pa_G) (ad : Nat → Nat) : (pa_W0 g ad)[85]? = some (pa_q0 ad 30 0, pa_ce g (pa_q0 ad) pa_s0 30 0) := rfl
set_option maxRecDepth 100000 in
theorem pa_z83 (g : pa_G) (ad : Nat → Nat) : (pa_W0 g ad)[86]? = some (pa_q0 ad 31 0, pa_ce g (pa_q0 ad) pa_s0 31 0) := rfl
set_option maxRecDepth 100000 in
theorem pa_z84 (g : pa_G) (ad : Nat → Nat) : (pa_W0 g ad)[87]? = some (pa_q0 ad 32 0, pa_ce g (pa_q0 ad) pa_s0 32 0) := rfl
set_option maxRecDepth 100000 in
theorem pa_z85 (g : pa_G) (ad : Nat → Nat) : (pa_W0 g ad)[88]? = some (pa_q0 ad 33 0, pa_ce g (pa_q0 ad) pa_s0 33 0) := rfl
set_option maxRecDepth 100000 in
theorem pa_z86 (g : pa_G) (ad : Nat → Nat) : (pa_W0 g ad)[89]? = some (pa_q0 ad 34 0, pa_ce g (pa_q0 ad) pa_s0 34 0) := rfl
set_option maxRecDepth 100000 in
theorem pa_z87 (g : pa_G) (ad : Nat → Nat) : (pa_W0 g ad)[90]? = some (pa_q0 ad 35 0, pa_ce g (pa_q0 ad) pa_s0 35 0) := rfl
set_option maxRecDepth 100000 in
theorem pa_z88 (g : pa_G) (ad : Nat → Nat) : (pa_W0 g ad)[91]? = some (pa_q0 ad 36 0, pa_ce g (pa_q0 ad) pa_s0 36 0) := rfl
set_option maxRecDepth 100000 in
theorem pa_z89 (g : pa_G) (ad : Nat → Nat) : (pa_W0 g ad)[92]? = some (pa_q0 ad 37 0, pa_ce g (pa_q0 ad) pa_s0 37 0) := rfl
set_option maxRecDepth 100000 in
theorem pa_z90 (g : pa_G) (ad : Nat → Nat) : (pa_W0 g ad)[93]? = some (pa_q0 ad 38 0, pa_ce g (pa_q0 ad) pa_s0 38 0) := rfl
set_option maxRecDepth 100000 in
theorem pa_z91 (g : pa_G) (ad : Nat → Nat) : (pa_W0 g ad)[94]? = some (pa_q0 ad 39 0, pa_ce g (pa_q0 ad) pa_s0 39 0) := rfl
set_option maxRecDepth 100000 in
theorem pa_z92 (g : pa_G) (ad : Nat → Nat) : (pa_W0 g ad)[95]? = some (pa_q0 ad 40 0, pa_ce g (pa_q0 ad) pa_s0 40 0) := rfl
set_option maxRecDepth 100000 in
theorem pa_z93 (g : pa_G) (ad : Nat → Nat) : (pa_W0 g ad)[96]? = some (pa_q0 ad 41 0, pa_ce g (pa_q0 ad) pa_s0 41 0) := rfl
set_option maxRecDepth 100000 in
theorem pa_z94 (g : pa_G) (ad : Nat → Nat) : (pa_W0 g ad)[97]? = some (pa_q0 ad 42 0, pa_ce g (pa_q0 ad) pa_s0 42 0) := rfl
set_option maxRecDepth 100000 in
theorem pa_z95 (g : pa_G) (ad : Nat → Nat) : (pa_W0 g ad)[98]? = some (pa_q0 ad 43 0, pa_ce g (pa_q0 ad) pa_s0 43 0) := rfl
set_option maxRecDepth 100000 in
theorem pa_z96 (g : pa_G) (ad : Nat → Nat) : (pa_W0 g ad)[99]? = some (pa_q0 ad 44 0, pa_ce g (pa_q0 ad) pa_s0 44 0) := rfl
set_option maxRecDepth 100000 in
theorem pa_z97 (g : pa_G) (ad : Nat → Nat) : (pa_W0 g ad)[100]? = some (pa_q0 ad 45 0, pa_ce g (pa_q0 ad) pa_s0 45 0) := rfl
set_option maxRecDepth 100000 in
theorem pa_z98 (g : pa_G) (ad : Nat → Nat) : (pa_W0 g ad)[101]? = some (pa_q0 ad 46 0, pa_ce g (pa_q0 ad) pa_s0 46 0) := rfl
set_option maxRecDepth 100000 in
theorem pa_z99 (g : pa_G) (ad : Nat → Nat) : (pa_W0 g ad)[102]? = some (pa_q0 ad 47 0, pa_ce g (pa_q0 ad) pa_s0 47 0) := rfl
set_option maxRecDepth 100000 in
theorem pa_z100 (g : pa_G) (ad : Nat → Nat) : (pa_W0 g ad)[103]? = some (pa_q0 ad 48 0, pa_ce g (pa_q0 ad) pa_s0 48 0) := rfl
set_option maxRecDepth 100000 in
theorem pa_z101 (g : pa_G) (ad : Nat → Nat) : (pa_W0 g ad)[104]? = some (pa_q0 ad 49 0, pa_ce g (pa_q0 ad) pa_s0 49 0) := rfl
set_option maxRecDepth 100000 in
theorem pa_z102 (g : pa_G) (ad : Nat → Nat) : (pa_W0 g ad)[105]? = some (pa_q0 ad 50 0, pa_ce g (pa_q0 ad) pa_s0 50 0) := rfl
set_option maxRecDepth 100000 in
theorem pa_z103 (g : pa_G) (ad : Nat → Nat) : (pa_W0 g ad)[106]? = some (pa_q0 ad 51 0, pa_ce g (pa_q0 ad) pa_s0 51 0) := rfl
set_option maxRecDepth 100000 in
theorem pa_z104 (g : pa_G) (ad : Nat → Nat) : (pa_W0 g ad)[107]? = some (pa_q0 ad 52 0, pa_ce g (pa_q0 ad) pa_s0 52 0) := rfl
set_option maxRecDepth 100000 in
theorem pa_z105 (g : pa_G) (ad : Nat → Nat) : (pa_W0 g ad)[108]? = some (pa_q0 ad 53 0, pa_ce g (pa_q0 ad) pa_s0 53 0) := rfl
set_option maxRecDepth 100000 in
theorem pa_z106 (g : pa_G) (ad : Nat → Nat) : (pa_W0 g ad)[109]? = some (pa_q0 ad 54 0, pa_ce g (pa_q0 ad) pa_s0 54 0) := rfl
set_option maxRecDepth 100000 in
theorem pa_z107 (g : pa_G) (ad : Nat → Nat) : (pa_W0 g ad)[110]? = some (pa_q0 ad 55 0, pa_ce g (pa_q0 ad) pa_s0 55 0) := rfl
set_option maxRecDepth 100000 in
theorem pa_z108 (g : pa_G) (ad : Nat → Nat) : (pa_W0 g ad)[111]? = some (pa_q0 ad 56 0, pa_ce g (pa_q0 ad) pa_s0 56 0) := rfl
set_option maxRecDepth 100000 in
theorem pa_z109 (g : pa_G) (ad : Nat → Nat) : (pa_W0 g ad)[112]? = some (pa_q0 ad 57 0, pa_ce g (pa_q0 ad) pa_s0 57 0) := rfl
set_option maxRecDepth 100000 in
theorem pa_z110 (g : pa_G) (ad : Nat → Nat) : (pa_W0 g ad)[113]? = some (pa_q0 ad 58 0, pa_ce g (pa_q0 ad) pa_s0 58 0) := rfl
set_option maxRecDepth 100000 in
theorem pa_z111 (g : pa_G) (ad : Nat → Nat) : (pa_W0 g ad)[114]? = some (pa_q0 ad 59 0, pa_ce g (pa_q0 ad) pa_s0 59 0) := rfl
set_option maxRecDepth 100000 in
theorem pa_z112 (g : pa_G) (ad : Nat → Nat) : (pa_W0 g ad)[115]? = some (pa_q0 ad 60 0, pa_ce g (pa_q0 ad) pa_s0 60 0) := rfl
set_option maxRecDepth 100000 in
theorem pa_z113 (g : pa_G) (ad : Nat → Nat) : (pa_W0 g ad)[116]? = some (pa_q0 ad 61 0, pa_ce g (pa_q0 ad) pa_s0 61 0) := rfl
set_option maxRecDepth 100000 in
theorem pa_z114 (g : pa_G) (ad : Nat → Nat) : (pa_W0 g ad)[117]? = some (pa_q0 ad 62 0, pa_ce g (pa_q0 ad) pa_s0 62 0) := rfl
set_option maxRecDepth 100000 in
theorem pa_z115 (g : pa_G) (ad : Nat → Nat) : (pa_W0 g ad)[118]? = some (pa_q0 ad 63 0, pa_ce g (pa_q0 ad) pa_s0 63 0) := rfl
set_option maxRecDepth 100000 in
theorem pa_z116 (g : pa_G) (ad : Nat → Nat) : (pa_W0 g ad)[119]? = some (pa_q0 ad 64 0, pa_ce g (pa_q0 ad) pa_s0 64 0) := rfl
set_option maxRecDepth 100000 in
theorem pa_z117 (g : pa_G) (ad : Nat → Nat) : (pa_W0 g ad)[120]? = some (pa_q0 ad 65 0, pa_ce g (pa_q0 ad) pa_s0 65 0) := rfl
set_option maxRecDepth 100000 in
theorem pa_z118 (g : pa_G) (ad : Nat → Nat) : (pa_W0 g ad)[121]? = some (pa_q0 ad 66 0, pa_ce g (pa_q0 ad) pa_s0 66 0) := rfl
set_option maxRecDepth 100000 in
theorem pa_z119 (g : pa_G) (ad : Nat → Nat) : (pa_W0 g ad)[122]? = some (pa_q0 ad 67 0, pa_ce g (pa_q0 ad) pa_s0 67 0) := rfl
set_option maxRecDepth 100000 in
theorem pa_z120 (g : pa_G) (ad : Nat → Nat) : (pa_W0 g ad)[21]? = some (pa_q0 ad 14 0, pa_ce g (pa_q0 ad) pa_s0 14 0) := rfl
set_option maxRecDepth 100000 in
theorem pa_z121 (g : pa_G) (ad : Nat → Nat) : (pa_W0 g ad)[22]? = some (pa_q0 ad 15 0, pa_ce g (pa_q0 ad) pa_s0 15 0) := rfl
set_option maxRecDepth 100000 in
theorem pa_z122 (g : pa_G) (ad : Nat → Nat) : (pa_W0 g ad)[23]? = some (pa_q0 ad 16 0, pa_ce g (pa_q0 ad) pa_s0 16 0) := rfl
set_option maxRecDepth 100000 in
theorem pa_zall (g : pa_G) (ad : Nat → Nat) : ∀ x ∈ pa_tab0, (pa_W0 g ad)[x.2.2]? = some ((fun a : Nat × Nat => (pa_q0 ad a.1 a.2, pa_ce g (pa_q0 ad) pa_s0 a.1 a.2)) (x.1, x.2.1)) :=
  List.forall_mem_cons.mpr ⟨pa_z0 g ad, List.forall_mem_cons.mpr ⟨pa_z1 g ad, List.forall_mem_cons.mpr ⟨pa_z2 g ad, List.forall_mem_cons.mpr ⟨pa_z3 g ad, List.forall_mem_cons.mpr ⟨pa_z4 g ad, List.forall_mem_cons.mpr ⟨pa_z5 g ad, List.forall_mem_cons.mpr ⟨pa_z6 g ad, List.forall_mem_cons.mpr ⟨pa_z7 g ad, List.forall_mem_cons.mpr ⟨pa_z8 g ad, List.forall_mem_cons.mpr ⟨pa_z9 g ad, List.forall_mem_cons.mpr ⟨pa_z10 g ad, List.forall_mem_cons.mpr ⟨pa_z11 g ad, List.forall_mem_cons.mpr ⟨pa_z12 g ad, List.forall_mem_cons.mpr ⟨pa_z13 g ad, List.forall_mem_cons.mpr ⟨pa_z14 g ad, List.forall_mem_cons.mpr ⟨pa_z15 g ad, List.forall_mem_cons.mpr ⟨pa_z16 g ad, List.forall_mem_cons.mpr ⟨pa_z17 g ad, List.forall_mem_cons.mpr ⟨pa_z18 g ad, List.forall_mem_cons.mpr ⟨pa_z19 g ad, List.forall_mem_cons.mpr ⟨pa_z20 g ad, List.forall_mem_cons.mpr ⟨pa_z21 g ad, List.forall_mem_cons.mpr ⟨pa_z22 g ad, List.forall_mem_cons.mpr ⟨pa_z23 g ad, List.forall_mem_cons.mpr ⟨pa_z24 g ad, List.forall_mem_cons.mpr ⟨pa_z25 g ad, List.forall_mem_cons.mpr ⟨pa_z26 g ad, List.forall_mem_cons.mpr ⟨pa_z27 g ad, List.forall_mem_cons.mpr ⟨pa_z28 g ad, List.forall_mem_cons.mpr ⟨pa_z29 g ad, List.forall_mem_cons.mpr ⟨pa_z30 g ad, List.forall_mem_cons.mpr ⟨pa_z31 g ad, List.forall_mem_cons.mpr ⟨pa_z32 g ad, List.forall_mem_cons.mpr ⟨pa_z33 g ad, List.forall_mem_cons.mpr ⟨pa_z34 g ad, List.forall_mem_cons.mpr ⟨pa_z35 g ad, List.forall_mem_cons.mpr ⟨pa_z36 g ad, List.forall_mem_cons.mpr ⟨pa_z37 g ad, List.forall_mem_cons.mpr ⟨pa_z38 g ad, List.forall_mem_cons.mpr ⟨pa_z39 g ad, List.forall_mem_cons.mpr ⟨pa_z40 g ad, List.forall_mem_cons.mpr ⟨pa_z41 g ad, List.forall_mem_cons.mpr ⟨pa_z42 g ad, List.forall_mem_cons.mpr ⟨pa_z43 g ad, List.forall_mem_cons.mpr ⟨pa_z44 g ad, List.forall_mem_cons.mpr ⟨pa_z45 g ad, List.forall_mem_cons.mpr ⟨pa_z46 g ad, List.forall_mem_cons.mpr ⟨pa_z47 g ad, List.forall_mem_cons.mpr ⟨pa_z48 g ad, List.forall_mem_cons.mpr ⟨pa_z49 g ad, List.forall_mem_cons.mpr ⟨pa_z50 g ad, List.forall_mem_cons.mpr ⟨pa_z51 g ad, List.forall_mem_cons.mpr ⟨pa_z52 g ad, List.forall_mem_cons.mpr ⟨pa_z53 g ad, List.forall_mem_cons.mpr ⟨pa_z54 g ad, List.forall_mem_cons.mpr ⟨pa_z55 g ad, List.forall_mem_cons.mpr ⟨pa_z56 g ad, List.forall_mem_cons.mpr ⟨pa_z57 g ad, List.forall_mem_cons.mpr ⟨pa_z58 g ad, List.forall_mem_cons.mpr ⟨pa_z59 g ad, List.forall_mem_cons.mpr ⟨pa_z60 g ad, List.forall_mem_cons.mpr ⟨pa_z61 g ad, List.forall_mem_cons.mpr ⟨pa_z62 g ad, List.forall_mem_cons.mpr ⟨pa_z63 g ad, List.forall_mem_cons.mpr ⟨pa_z64 g ad, List.forall_mem_cons.mpr ⟨pa_z65 g ad, List.forall_mem_cons.mpr ⟨pa_z66 g ad, List.forall_mem_cons.mpr ⟨pa_z67 g ad, List.forall_mem_cons.mpr ⟨pa_z68 g ad, List.forall_mem_cons.mpr ⟨pa_z69 g ad, List.forall_mem_cons.mpr ⟨pa_z70 g ad, List.forall_mem_cons.mpr ⟨pa_z71 g ad, List.forall_mem_cons.mpr ⟨pa_z72 g ad, List.forall_mem_cons.mpr ⟨pa_z73 g ad, List.forall_mem_cons.mpr ⟨pa_z74 g ad, List.forall_mem_cons.mpr ⟨pa_z75 g ad, List.forall_mem_cons.mpr ⟨pa_z76 g ad, List.forall_mem_cons.mpr ⟨pa_z77 g ad, List.forall_mem_cons.mpr ⟨pa_z78 g ad, List.forall_mem_cons.mpr ⟨pa_z79 g ad, List.forall_mem_cons.mpr ⟨pa_z80 g ad, List.forall_mem_cons.mpr ⟨pa_z81 g ad, List.forall_mem_cons.mpr ⟨pa_z82 g ad, List.forall_mem_cons.mpr ⟨pa_z83 g ad, List.forall_mem_cons.mpr ⟨pa_z84 g ad, List.forall_mem_cons.mpr ⟨pa_z85 g ad, List.forall_mem_cons.mpr ⟨pa_z86 g ad, List.forall_mem_cons.mpr ⟨pa_z87 g ad, List.forall_mem_cons.mpr ⟨pa_z88 g ad, List.forall_mem_cons.mpr ⟨pa_z89 g ad, List.forall_mem_cons.mpr ⟨pa_z90 g ad, List.forall_mem_cons.mpr ⟨pa_z91 g ad, List.forall_mem_cons.mpr ⟨pa_z92 g ad, List.forall_mem_cons.mpr ⟨pa_z93 g ad, List.forall_mem_cons.mpr ⟨pa_z94 g ad, List.forall_mem_cons.mpr ⟨pa_z95 g ad, List.forall_mem_cons.mpr ⟨pa_z96 g ad, List.forall_mem_cons.mpr ⟨pa_z97 g ad, List.forall_mem_cons.mpr ⟨pa_z98 g ad, List.forall_mem_cons.mpr ⟨pa_z99 g ad, List.forall_mem_cons.mpr ⟨pa_z100 g ad, List.forall_mem_cons.mpr ⟨pa_z101 g ad, List.forall_mem_cons.mpr ⟨pa_z102 g ad, List.forall_mem_cons.mpr ⟨pa_z103 g ad, List.forall_mem_cons.mpr ⟨pa_z104 g ad, List.forall_mem_cons.mpr ⟨pa_z105 g ad, List.forall_mem_cons.mpr ⟨pa_z106 g ad, List.forall_mem_cons.mpr ⟨pa_z107 g ad, List.forall_mem_cons.mpr ⟨pa_z108 g ad, List.forall_mem_cons.mpr ⟨pa_z109 g ad, List.forall_mem_cons.mpr ⟨pa_z110 g ad, List.forall_mem_cons.mpr ⟨pa_z111 g ad, List.forall_mem_cons.mpr ⟨pa_z112 g ad, List.forall_mem_cons.mpr ⟨pa_z113 g ad, List.forall_mem_cons.mpr ⟨pa_z114 g ad, List.forall_mem_cons.mpr ⟨pa_z115 g ad, List.forall_mem_cons.mpr ⟨pa_z116 g ad, List.forall_mem_cons.mpr ⟨pa_z117 g ad, List.forall_mem_cons.mpr ⟨pa_z118 g ad, List.forall_mem_cons.mpr ⟨pa_z119 g ad, List.forall_mem_cons.mpr ⟨pa_z120 g ad, List.forall_mem_cons.mpr ⟨pa_z121 g ad, List.forall_mem_cons.mpr ⟨pa_z122 g ad, fun _ h => absurd h List.not_mem_nil⟩⟩⟩⟩⟩⟩⟩⟩⟩⟩⟩⟩⟩⟩⟩⟩⟩⟩⟩⟩⟩⟩⟩⟩⟩⟩⟩⟩⟩⟩⟩⟩⟩⟩⟩⟩⟩⟩⟩⟩⟩⟩⟩⟩⟩⟩⟩⟩⟩⟩⟩⟩⟩⟩⟩⟩⟩⟩⟩⟩⟩⟩⟩⟩⟩⟩⟩⟩⟩⟩⟩⟩⟩⟩⟩⟩⟩⟩⟩⟩⟩⟩⟩⟩⟩⟩⟩⟩⟩⟩⟩⟩⟩⟩⟩⟩⟩⟩⟩⟩⟩⟩⟩⟩⟩⟩⟩⟩⟩⟩⟩⟩⟩⟩⟩⟩⟩⟩⟩⟩⟩⟩⟩
set_option maxRecDepth 100000 in
theorem pa_zLs : pa_tab0.map (fun x => (x.1, x.2.1)) = pa_Ls pa_s0 := by decide +kernel
theorem pa_znd : va_nd (pa_tab0.map (fun x => x.2.2)) = true := by decide +kernel
theorem pa_zmap (g : pa_G) (ad : Nat → Nat) : (pa_tab0.map (fun x => x.2.2)).map (fun i => (pa_W0 g ad)[i]?) = (pa_ws g (pa_q0 ad) pa_s0).map some := by
  rw [pa_perm (h := fun a : Nat × Nat => (pa_q0 ad a.1 a.2, pa_ce g (pa_q0 ad) pa_s0 a.1 a.2)) (pa_zall g ad), pa_zLs]
  rfl
theorem pa_begin {p : Program} {l : Launch} {e : Env} {R : Room} {s : State} {m : MethodId} {args : Array Value} {below : List Frame} {meth : Method} {c : Code} {Q : State → Prop} {A : Nat → Prop} {D : va_G} {g : pa_G} {nL kc ks : Nat} {ad : Nat → Nat} {pc : Nat} {lv : List (Nat × Value)} {st : List Value} (k : pa_At p l e R s m args below meth c Q A D g nL kc ks (pa_q0 ad) pa_s0 pc lv st) : pb_At p l e R s m args below meth c Q A D nL kc ks (pa_W0 g ad) pc lv st :=
  fun H locs ls hP hD hS hl => k H locs ls (hP.sub _ (pa_permF (pa_zmap g ad))) (hD.sub _ pa_znd (pa_zmap g ad)) hS hl
theorem ci_RL_X6_init : pb_CI R_law 9 yX6_init cX6_init 3 0 := ⟨⟨by decide +kernel, by decide +kernel, by decide +kernel⟩, rfl, pa_m1 19 rfl rfl, pa_m1 20 rfl rfl, pa_m1 1 rfl rfl, pa_m1 21 rfl rfl⟩
theorem ci_RL_X7_init : pb_CI R_law 12 yX7_init cX7_init 1 0 := ⟨⟨by decide +kernel, by decide +kernel, by decide +kernel⟩, rfl, pa_m4 117 rfl rfl, pa_m4 118 rfl rfl, pa_m1 10 rfl rfl, pa_m4 119 rfl rfl⟩
set_option maxRecDepth 100000 in
theorem pa_fs7 : ∀ j, j < 69 → defaultValue (tyX7 j) = vp_V [.int 0, .int 0, .int 0, .null, .null, .null, .null, .null, .int 0, .int 0, .int 0, .int 0, .int 0, .null, .null, .null, .null, .null, .null, .null, .null, .int 0, .int 0, .int 0, .null, .null, .int 0, .int 0, .null, .null, .int 0, .null, .null, .null, .null, .int 0, .int 0, .null, .null, .null, .int 0, .null, .null, .int 0, .int 0, .int 0, .int 0, .int 0, .int 0, .int 0, .int 0, .null, .null, .null, .null, .null, .null, .null, .null, .null, .null, .null, .null, .int 0, .null, .null, .null, .null, .null] j := by
  intro j hj
  have h : ∀ k, k < 69 → defaultValue (tyX7 k) = vp_V [.int 0, .int 0, .int 0, .null, .null, .null, .null, .null, .int 0, .int 0, .int 0, .int 0, .int 0, .null, .null, .null, .null, .null, .null, .null, .null, .int 0, .int 0, .int 0, .null, .null, .int 0, .int 0, .null, .null, .int 0, .null, .null, .null, .null, .int 0, .int 0, .null, .null, .null, .int 0, .null, .null, .int 0, .int 0, .int 0, .int 0, .int 0, .int 0, .int 0, .int 0, .null, .null, .null, .null, .null, .null, .null, .null, .null, .null, .null, .null, .int 0, .null, .null, .null, .null, .null] k := by decide +kernel
  exact h j hj
set_option maxRecDepth 100000 in
set_option maxHeartbeats 40000000 in
theorem law_begin {Inv : pa_S → Prop} {p : Program} {l : Launch} {e : Env} {s : State} {m : MethodId} {below : List Frame} {meth : Method} {c : Code} {D : va_G} {g : pa_G} {b L : Nat} {xs : Nat → Int32} (hcase : ∀ (u : pa_S) (a1 a2 a3 a4 a5 : Int32) (k : Nat), Inv u → pa_case Inv u a1 a2 a3 a4 a5 k) (hinv : Inv pa_s0) (hE : pa_Fx p s m #[Value.ref b] meth c (fun q : Nat => s.heap.size ≤ q) D g 4 cL_law R_law) (hr : meth.sig.returnType = ret) (hL : L ≤ 3072) (hX : va_X b L xs s s.heap) (hbl : b < s.heap.size) :
    pb_At p l e room_1 s m #[Value.ref b] below meth c (lw_Z below #[Value.ref b] s) (fun q : Nat => s.heap.size ≤ q) D 4 0 0 [] 0 [(0, .ref b)] [] := by
  refine pb_newO (C := RX6) (T := TX6) (N := 15) (ty := tyX6) (ci := 6) (fs := [.null, .null, .null, .int 0, .null, .null, .null, .null, .null, .null, .null, .null, .int 0, .null, .null]) hE dL_law_0 (pa_m1 17 rfl rfl) (pa_m1 18 rfl rfl) (pa_m1 1 rfl rfl) tyX6_ok pa_uX6 rfl (fun j hj => by rcases (show j = 0 ∨ j = 1 ∨ j = 2 ∨ j = 3 ∨ j = 4 ∨ j = 5 ∨ j = 6 ∨ j = 7 ∨ j = 8 ∨ j = 9 ∨ j = 10 ∨ j = 11 ∨ j = 12 ∨ j = 13 ∨ j = 14 by omega) with rfl | rfl | rfl | rfl | rfl | rfl | rfl | rfl | rfl | rfl | rfl | rfl | rfl | rfl | rfl <;> rfl) (Nat.le_of_ble_eq_true rfl) (Nat.le_of_ble_eq_true rfl) (fun xh w1 e1 => ?_)
  have e1 : w1 = [] ++ [(xh, .inr (6, [.null, .null, .null, .int 0, .null, .null, .null, .null, .null, .null, .null, .null, .int 0, .null, .null]))] := e1
  subst e1
  refine pb_dup hE dL_law_3 rfl ?_
  refine pb_callI hE (ct_X6_init l g D [] xh) ci_RL_X6_init rfl ⟨Nat.le_of_ble_eq_true rfl, Nat.le_of_ble_eq_true rfl, Nat.le_of_ble_eq_true rfl, Nat.le_of_ble_eq_true rfl⟩ rfl (Nat.le_of_ble_eq_true rfl) dL_law_4 (fun w2 e2 => ?_)
  obtain ⟨xa1, xa3, xa6, xa8, xa11, xa13, xa16, xa18, xa21, xa23, xa26, xa28, xa31, xa34, xa36, xa37, xa38, xa41, xa43, xa46, xa49, xa51, xa53, xa56, xa58, xa59, xa60, xa61, xa62, xa63, xa66, xa68, xa69, xa70, xa71, xa72, xa73, xa76, xa79, xa81, xa82, xa83, xa84, xa85, xa86, xa90, xa92, xa93, xa94, xa95, xa96, xa97, xa101, xa103, xa104, xa105, xa106, xa107, xa108, xa112, xa114, xa115, xa116, xa117, xa118, xa119, xa123, xa125, xa129, xa131, xa135, xa137, xa141, xa143, xa147, xa149, xa153, xa155, e2⟩ := e2
  subst e2
  refine pb_astore_n hE dL_law_7 rfl (by decide) (lvr := [(0, .ref b)]) rfl ?_
  refine pb_newO (C := RX7) (T := TX7) (N := 69) (ty := tyX7) (ci := 7) (fs := [.int 0, .int 0, .int 0, .null, .null, .null, .null, .null, .int 0, .int 0, .int 0, .int 0, .int 0, .null, .null, .null, .null, .null, .null, .null, .null, .int 0, .int 0, .int 0, .null, .null, .int 0, .int 0, .null, .null, .int 0, .null, .null, .null, .null, .int 0, .int 0, .null, .null, .null, .int 0, .null, .null, .int 0, .int 0, .int 0, .int 0, .int 0, .int 0, .int 0, .int 0, .null, .null, .null, .null, .null, .null, .null, .null, .null, .null, .null, .null, .int 0, .null, .null, .null, .null, .null]) hE dL_law_8 (pa_m4 115 rfl rfl) (pa_m4 116 rfl rfl) (pa_m1 10 rfl rfl) tyX7_ok pa_uX7 rfl pa_fs7 (Nat.le_of_ble_eq_true rfl) (Nat.le_of_ble_eq_true rfl) (fun yh w3 e3 => ?_)
  subst e3
  refine pb_dup hE dL_law_11 rfl ?_
  refine pb_callI hE (ct_X7_init l g D _ yh) ci_RL_X7_init rfl ⟨Nat.le_of_ble_eq_true rfl, Nat.le_of_ble_eq_true rfl, Nat.le_of_ble_eq_true rfl, Nat.le_of_ble_eq_true rfl⟩ rfl (Nat.le_of_ble_eq_true rfl) dL_law_12 (fun w4 e4 => ?_)
  obtain ⟨ya4, ya7, ya10, ya13, ya16, ya24, ya27, ya30, ya33, ya36, ya39, ya42, ya45, ya51, ya74, ya79, ya82, ya86, ya89, ya92, ya95, ya100, ya103, ya106, ya110, ya113, ya124, ya127, ya130, ya133, ya136, ya139, ya142, ya145, ya148, ya151, ya154, ya157, ya161, ya164, ya173, ya176, ya179, e4⟩ := e4
  refine pb_astore_n hE dL_law_15 rfl (by decide) (lvr := [(1, .ref xh), (0, .ref b)]) rfl ?_
  refine pb_iconst hE dL_law_16 (v := 0) (by decide) ?_
  refine pb_istore_n hE dL_law_17 rfl (by decide) (lvr := [(2, .ref yh), (1, .ref xh), (0, .ref b)]) rfl ?_
  have e5 : w4 = pa_W0 g (fun k => [xh, xa1, xa3, xa6, xa8, xa11, xa13, xa16, xa18, xa21, xa23, xa26, xa28, xa31, xa34, xa36, xa37, xa38, xa41, xa43, xa46, xa49, xa51, xa53, xa56, xa58, xa59, xa60, xa61, xa62, xa63, xa66, xa68, xa69, xa70, xa71, xa72, xa73, xa76, xa79, xa81, xa82, xa83, xa84, xa85, xa86, xa90, xa92, xa93, xa94, xa95, xa96, xa97, xa101, xa103, xa104, xa105, xa106, xa107, xa108, xa112, xa114, xa115, xa116, xa117, xa118, xa119, xa123, xa125, xa129, xa131, xa135, xa137, xa141, xa143, xa147, xa149, xa153, xa155, yh, ya4, ya7, ya10, ya13, ya16, ya24, ya27, ya30, ya33, ya36, ya39, ya42, ya45, ya51, ya74, ya79, ya82, ya86, ya89, ya92, ya95, ya100, ya103, ya106, ya110, ya113, ya124, ya127, ya130, ya133, ya136, ya139, ya142, ya145, ya148, ya151, ya154, ya157, ya161, ya164, ya173, ya176, ya179].getD k 0) := e4.trans rfl
  subst e5
  refine pa_begin ?_
  refine pa_sub [0, 2, 1, 3] rfl ?_
  exact law_loop hcase hE hr hL hX hbl 600 0 _ _ _ pa_s0 (by omega) (by omega) (by decide) (by decide) hinv
