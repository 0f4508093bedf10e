theorem cv_RX3_31 : pa_CV RX3 RJ0 31 yJ0_length_8abf5 cJ0_length_8abf5 1 (some .int) 0 := ⟨⟨rfl, by decide +kernel, by decide +kernel, by decide +kernel⟩, pa_m1 132 rfl rfl, pa_m1 133 rfl rfl, pa_m1 134 rfl rfl, pa_m1 8 rfl rfl, pa_m1 135 rfl rfl⟩
theorem cm_RX1_18 : Cond.methodLink RX1 18 Lib.Math.min.name ∈ pa_tb ∧ Cond.static Lib.Math.min.name ∈ pa_tb ∧ Cond.initialized "java/lang/Math" ∈ pa_tb ∧ Cond.code Lib.Math.min.name Lib.Math.min.code 2 (some .int) ∈ pa_tb := ⟨pa_m1 102 rfl rfl, pa_m1 103 rfl rfl, pa_m1 6 rfl rfl, pa_m1 104 rfl rfl⟩
theorem cm_RX1_28 : Cond.methodLink RX1 28 Lib.Math.max.name ∈ pa_tb ∧ Cond.static Lib.Math.max.name ∈ pa_tb ∧ Cond.initialized "java/lang/Math" ∈ pa_tb ∧ Cond.code Lib.Math.max.name Lib.Math.max.code 2 (some .int) ∈ pa_tb := ⟨pa_m1 105 rfl rfl, pa_m1 106 rfl rfl, pa_m1 6 rfl rfl, pa_m1 107 rfl rfl⟩
theorem pb_world {p : Program} {l : Launch} {e : Env} {R : Room} {s : State} {m : MethodId} {args : Array Value} {below : List Frame} {meth : Method} {c : Code} {Q : State → Prop} {A : Nat → Prop} {D : va_G} {nL kc ks pc : Nat} {w w1 : va_W} {lv : List (Nat × Value)} {st : List Value} (h : w1 = w) (k : pb_At p l e R s m args below meth c Q A D nL kc ks w1 pc lv st) : pb_At p l e R s m args below meth c Q A D nL kc ks w pc lv st := h ▸ k
theorem pb_coder (l : Launch) (g : pa_G) (D : va_G) (ws : va_W) (i : Nat) (hi : i < 7) : pb_Ct l yJ0_coder_7d493 cJ0_coder_7d493 1 (some .byte) 2 0 0 g D ws [.ref (g.2.2.1 i)] (fun r => some (.int r)) (fun r w => r = 0 ∧ w = ws) := by
  refine pb_met rfl rfl (Nat.le_of_ble_eq_true rfl) rfl (fun p e s m args below meth c A hE hr hnm => ?_)
  refine pb_getsC hE (pa_m1 140 rfl rfl) dJ0_coder_7d493_0 ?_
  refine pb_if_eq hE dJ0_coder_7d493_3 (tgt := 13) (by decide) (fun hq => absurd hq (by decide)) (fun _ => ?_)
  refine pb_aload_n hE dJ0_coder_7d493_6 rfl 0 rfl ?_
  refine pb_sgC hE hi (pa_m6 235 rfl rfl) dJ0_coder_7d493_7 ?_
  refine pb_goto hE dJ0_coder_7d493_10 (tgt := 14) (by decide) ?_
  exact pb_zret (r := (0 : Int32)) hE hr (by decide) ⟨rfl, rfl⟩ rfl dJ0_coder_7d493_14
theorem pb_length (l : Launch) (g : pa_G) (D : va_G) (ws : va_W) (i : Nat) (hi : i < 7) : pb_Ct l yJ0_length_8abf5 cJ0_length_8abf5 1 (some .int) 3 0 0 g D ws [.ref (g.2.2.1 i)] (fun r => some (.int r)) (fun r w => r = nI (pa_slen.getD i 0) >>> ((0 : Int32) &&& 31) ∧ w = ws) := by
  refine pb_met rfl rfl (Nat.le_of_ble_eq_true rfl) rfl (fun p e s m args below meth c A hE hr hnm => ?_)
  refine pb_aload_n hE dJ0_length_8abf5_0 rfl 0 rfl ?_
  refine pb_sgV hE hi (pa_m6 234 rfl rfl) dJ0_length_8abf5_1 ?_
  refine pb_sbn hE hi dJ0_length_8abf5_4 ?_
  refine pb_aload_n hE dJ0_length_8abf5_5 rfl 0 rfl ?_
  refine pb_callVg hE (pb_coder l g D ws i hi) cv_RJ0_335 (fun H locs hP hS => vk_recv hE.2.2.2.2.2.2.2.2.2.2.2.2.2.1 hi hS) rfl ⟨Nat.le_of_ble_eq_true rfl, Nat.le_of_ble_eq_true rfl, Nat.le_of_ble_eq_true rfl, Nat.le_of_ble_eq_true rfl⟩ rfl (Nat.le_of_ble_eq_true rfl) dJ0_length_8abf5_6 (fun r w e1 => ?_)
  obtain ⟨er, ew⟩ := e1
  subst er ew
  refine pb_ishr hE dJ0_length_8abf5_9 ?_
  exact pb_iret (r := nI (pa_slen.getD i 0) >>> ((0 : Int32) &&& 31)) hE hr ⟨rfl, rfl⟩ rfl dJ0_length_8abf5_10
set_option maxRecDepth 100000 in
set_option maxHeartbeats 40000000 in
theorem ct_X2_init (l : Launch) (g : pa_G) (D : va_G) (pre : va_W) (h : Nat) : pb_Ct l yX2_init cX2_init 1 none 2 1 40 g D (pre ++ [(h, .inr (2, [.null, .int 0]))]) [.ref h] (fun (_ : Unit) => none) (fun (_ : Unit) w => ∃ a1, w = pre ++ [(h, .inr (2, [.ref a1, .int 0])), (a1, .inl (g.1 1, 40, .inl (fun _ => 0)))]) := by
  refine pb_met rfl rfl (Nat.le_of_ble_eq_true rfl) rfl (fun p e s m args below meth c A hE hr hnm => ?_)
  refine pb_aload_n hE dX2_init_0 rfl 0 rfl ?_
  refine pb_objInit hE (pa_m1 30 rfl rfl) (pa_m1 23 rfl rfl) (pa_m1 24 rfl rfl) ⟨Nat.le_of_ble_eq_true rfl, Nat.le_of_ble_eq_true rfl⟩ (Nat.le_of_ble_eq_true rfl) dX2_init_1 ?_
  refine pb_aload_n hE dX2_init_4 rfl 0 rfl ?_
  refine pb_bipush hE dX2_init_5 (v := 40) (by decide) ?_
  refine pb_newI hE dX2_init_7 (pa_m1 39 rfl rfl) (by decide) (N := 40) (by decide) (Nat.le_of_ble_eq_true rfl) (Nat.le_of_ble_eq_true rfl) (Nat.le_of_ble_eq_true rfl) (fun a1 w2 ew2 => ?_)
  have ew2 : w2 = pre ++ [(h, .inr (2, [.null, .int 0])), (a1, .inl (g.1 1, 40, .inl (fun _ => 0)))] := ew2.trans (pc_a rfl)
  subst ew2
  refine pb_putF (C := RX2) (T := TX2) (N := 2) (ty0 := tyX2) (ci := 2) hE (pc_j (j := 0) rfl) rfl pa_uX2 tyX2_ok nmX2 0 (by decide) (pa_m1 31 rfl rfl) rfl hnm rfl (ty := tyX2 0) (by decide +kernel) (by rfl) (by rfl) (Nat.le_of_ble_eq_true rfl) dX2_init_9 (fun w3 ew3 => ?_)
  have ew3 : w3 = pre ++ [(h, .inr (2, [.ref a1, .int 0])), (a1, .inl (g.1 1, 40, .inl (fun _ => 0)))] := ew3.trans (pc_s rfl)
  subst ew3
  exact pb_vret (r := ()) hE hr ⟨a1, rfl⟩ rfl dX2_init_12
set_option maxRecDepth 100000 in
set_option maxHeartbeats 40000000 in
theorem ct_X5_init (l : Launch) (g : pa_G) (D : va_G) (pre : va_W) (h : Nat) : pb_Ct l yX5_init cX5_init 1 none 2 3 300 g D (pre ++ [(h, .inr (5, [.null, .null, .null, .int 0, .int 0, .int 0, .int 0, .int 0]))]) [.ref h] (fun (_ : Unit) => none) (fun (_ : Unit) w => ∃ a1 a4 a7, w = pre ++ [(h, .inr (5, [.ref a1, .ref a4, .ref a7, .int 0, .int 0, .int 0, .int 0, .int 0])), (a1, .inl (g.1 0, 100, .inl (fun _ => 0))), (a4, .inl (g.1 1, 100, .inl (fun _ => 0))), (a7, .inl (g.1 1, 100, .inl (fun _ => 0)))]) := by
  refine pb_met rfl rfl (Nat.le_of_ble_eq_true rfl) rfl (fun p e s m args below meth c A hE hr hnm => ?_)
  refine pb_aload_n hE dX5_init_0 rfl 0 rfl ?_
  refine pb_objInit hE (pa_m1 45 rfl rfl) (pa_m1 23 rfl rfl) (pa_m1 24 rfl rfl) ⟨Nat.le_of_ble_eq_true rfl, Nat.le_of_ble_eq_true rfl⟩ (Nat.le_of_ble_eq_true rfl) dX5_init_1 ?_
  refine pb_aload_n hE dX5_init_4 rfl 0 rfl ?_
  refine pb_bipush hE dX5_init_5 (v := 100) (by decide) ?_
  refine pb_newB hE dX5_init_7 (pa_m1 71 rfl rfl) (by decide) (N := 100) (by decide) (Nat.le_of_ble_eq_true rfl) (Nat.le_of_ble_eq_true rfl) (Nat.le_of_ble_eq_true rfl) (fun a1 w2 ew2 => ?_)
  have ew2 : w2 = pre ++ [(h, .inr (5, [.null, .null, .null, .int 0, .int 0, .int 0, .int 0, .int 0])), (a1, .inl (g.1 0, 100, .inl (fun _ => 0)))] := ew2.trans (pc_a rfl)
  subst ew2
  refine pb_putF (C := RX5) (T := TX5) (N := 8) (ty0 := tyX5) (ci := 5) hE (pc_j (j := 0) rfl) rfl pa_uX5 tyX5_ok nmX5 0 (by decide) (pa_m1 46 rfl rfl) rfl hnm rfl (ty := tyX5 0) (by decide +kernel) (by rfl) (by rfl) (Nat.le_of_ble_eq_true rfl) dX5_init_9 (fun w3 ew3 => ?_)
  have ew3 : w3 = pre ++ [(h, .inr (5, [.ref a1, .null, .null, .int 0, .int 0, .int 0, .int 0, .int 0])), (a1, .inl (g.1 0, 100, .inl (fun _ => 0)))] := ew3.trans (pc_s rfl)
  subst ew3
  refine pb_aload_n hE dX5_init_12 rfl 0 rfl ?_
  refine pb_bipush hE dX5_init_13 (v := 100) (by decide) ?_
  refine pb_newI hE dX5_init_15 (pa_m1 39 rfl rfl) (by decide) (N := 100) (by decide) (Nat.le_of_ble_eq_true rfl) (Nat.le_of_ble_eq_true rfl) (Nat.le_of_ble_eq_true rfl) (fun a4 w5 ew5 => ?_)
  have ew5 : w5 = pre ++ [(h, .inr (5, [.ref a1, .null, .null, .int 0, .int 0, .int 0, .int 0, .int 0])), (a1, .inl (g.1 0, 100, .inl (fun _ => 0))), (a4, .inl (g.1 1, 100, .inl (fun _ => 0)))] := ew5.trans (pc_a rfl)
  subst ew5
  refine pb_putF (C := RX5) (T := TX5) (N := 8) (ty0 := tyX5) (ci := 5) hE (pc_j (j := 0) rfl) rfl pa_uX5 tyX5_ok nmX5 1 (by decide) (pa_m1 47 rfl rfl) rfl hnm rfl (ty := tyX5 1) (by decide +kernel) (by rfl) (by rfl) (Nat.le_of_ble_eq_true rfl) dX5_init_17 (fun w6 ew6 => ?_)
  have ew6 : w6 = pre ++ [(h, .inr (5, [.ref a1, .ref a4, .null, .int 0, .int 0, .int 0, .int 0, .int 0])), (a1, .inl (g.1 0, 100, .inl (fun _ => 0))), (a4, .inl (g.1 1, 100, .inl (fun _ => 0)))] := ew6.trans (pc_s rfl)
  subst ew6
  refine pb_aload_n hE dX5_init_20 rfl 0 rfl ?_
  refine pb_bipush hE dX5_init_21 (v := 100) (by decide) ?_
  refine pb_newI hE dX5_init_23 (pa_m1 39 rfl rfl) (by decide) (N := 100) (by decide) (Nat.le_of_ble_eq_true rfl) (Nat.le_of_ble_eq_true rfl) (Nat.le_of_ble_eq_true rfl) (fun a7 w8 ew8 => ?_)
  have ew8 : w8 = pre ++ [(h, .inr (5, [.ref a1, .ref a4, .null, .int 0, .int 0, .int 0, .int 0, .int 0])), (a1, .inl (g.1 0, 100, .inl (fun _ => 0))), (a4, .inl (g.1 1, 100, .inl (fun _ => 0))), (a7, .inl (g.1 1, 100, .inl (fun _ => 0)))] := ew8.trans (pc_a rfl)
  subst ew8
  refine pb_putF (C := RX5) (T := TX5) (N := 8) (ty0 := tyX5) (ci := 5) hE (pc_j (j := 0) rfl) rfl pa_uX5 tyX5_ok nmX5 2 (by decide) (pa_m1 48 rfl rfl) rfl hnm rfl (ty := tyX5 2) (by decide +kernel) (by rfl) (by rfl) (Nat.le_of_ble_eq_true rfl) dX5_init_25 (fun w9 ew9 => ?_)
  have ew9 : w9 = pre ++ [(h, .inr (5, [.ref a1, .ref a4, .ref a7, .int 0, .int 0, .int 0, .int 0, .int 0])), (a1, .inl (g.1 0, 100, .inl (fun _ => 0))), (a4, .inl (g.1 1, 100, .inl (fun _ => 0))), (a7, .inl (g.1 1, 100, .inl (fun _ => 0)))] := ew9.trans (pc_s rfl)
  subst ew9
  exact pb_vret (r := ()) hE hr ⟨a1, a4, a7, rfl⟩ rfl dX5_init_28
set_option maxRecDepth 100000 in
set_option maxHeartbeats 40000000 in
theorem ct_X0_init (l : Launch) (g : pa_G) (D : va_G) (pre : va_W) (h : Nat) : pb_Ct l yX0_init cX0_init 1 none 2 1 20 g D (pre ++ [(h, .inr (0, [.null, .int 0, .int 0, .int 0, .int 0]))]) [.ref h] (fun (_ : Unit) => none) (fun (_ : Unit) w => ∃ a1, w = pre ++ [(h, .inr (0, [.ref a1, .int 0, .int 0, .int 0, .int 0])), (a1, .inl (g.1 1, 20, .inl (fun _ => 0)))]) := by
  refine pb_met rfl rfl (Nat.le_of_ble_eq_true rfl) rfl (fun p e s m args below meth c A hE hr hnm => ?_)
  refine pb_aload_n hE dX0_init_0 rfl 0 rfl ?_
  refine pb_objInit hE (pa_m1 77 rfl rfl) (pa_m1 23 rfl rfl) (pa_m1 24 rfl rfl) ⟨Nat.le_of_ble_eq_true rfl, Nat.le_of_ble_eq_true rfl⟩ (Nat.le_of_ble_eq_true rfl) dX0_init_1 ?_
  refine pb_aload_n hE dX0_init_4 rfl 0 rfl ?_
  refine pb_bipush hE dX0_init_5 (v := 20) (by decide) ?_
  refine pb_newI hE dX0_init_7 (pa_m1 39 rfl rfl) (by decide) (N := 20) (by decide) (Nat.le_of_ble_eq_true rfl) (Nat.le_of_ble_eq_true rfl) (Nat.le_of_ble_eq_true rfl) (fun a1 w2 ew2 => ?_)
  have ew2 : w2 = pre ++ [(h, .inr (0, [.null, .int 0, .int 0, .int 0, .int 0])), (a1, .inl (g.1 1, 20, .inl (fun _ => 0)))] := ew2.trans (pc_a rfl)
  subst ew2
  refine pb_putF (C := RX0) (T := TX0) (N := 5) (ty0 := tyX0) (ci := 0) hE (pc_j (j := 0) rfl) rfl pa_uX0 tyX0_ok nmX0 0 (by decide) (pa_m1 78 rfl rfl) rfl hnm rfl (ty := tyX0 0) (by decide +kernel) (by rfl) (by rfl) (Nat.le_of_ble_eq_true rfl) dX0_init_9 (fun w3 ew3 => ?_)
  have ew3 : w3 = pre ++ [(h, .inr (0, [.ref a1, .int 0, .int 0, .int 0, .int 0])), (a1, .inl (g.1 1, 20, .inl (fun _ => 0)))] := ew3.trans (pc_s rfl)
  subst ew3
  exact pb_vret (r := ()) hE hr ⟨a1, rfl⟩ rfl dX0_init_12
set_option maxRecDepth 100000 in
set_option maxHeartbeats 40000000 in
theorem ct_X4_init (l : Launch) (g : pa_G) (D : va_G) (pre : va_W) (h : Nat) : pb_Ct l yX4_init cX4_init 1 none 2 1 60 g D (pre ++ [(h, .inr (4, [.null, .int 0, .int 0]))]) [.ref h] (fun (_ : Unit) => none) (fun (_ : Unit) w => ∃ a1, w = pre ++ [(h, .inr (4, [.ref a1, .int (-1 : Int32), .int 0])), (a1, .inl (g.1 2, 60, .inr (.inl (fun _ => 0))))]) := by
  refine pb_met rfl rfl (Nat.le_of_ble_eq_true rfl) rfl (fun p e s m args below meth c A hE hr hnm => ?_)
  refine pb_aload_n hE dX4_init_0 rfl 0 rfl ?_
  refine pb_objInit hE (pa_m1 182 rfl rfl) (pa_m1 23 rfl rfl) (pa_m1 24 rfl rfl) ⟨Nat.le_of_ble_eq_true rfl, Nat.le_of_ble_eq_true rfl⟩ (Nat.le_of_ble_eq_true rfl) dX4_init_1 ?_
  refine pb_aload_n hE dX4_init_4 rfl 0 rfl ?_
  refine pb_bipush hE dX4_init_5 (v := 60) (by decide) ?_
  refine pb_newJ hE dX4_init_7 (pa_m1 195 rfl rfl) (by decide) (N := 60) (by decide) (Nat.le_of_ble_eq_true rfl) (Nat.le_of_ble_eq_true rfl) (Nat.le_of_ble_eq_true rfl) (fun a1 w2 ew2 => ?_)
  have ew2 : w2 = pre ++ [(h, .inr (4, [.null, .int 0, .int 0])), (a1, .inl (g.1 2, 60, .inr (.inl (fun _ => 0))))] := ew2.trans (pc_a rfl)
  subst ew2
  refine pb_putF (C := RX4) (T := TX4) (N := 3) (ty0 := tyX4) (ci := 4) hE (pc_j (j := 0) rfl) rfl pa_uX4 tyX4_ok nmX4 0 (by decide) (pa_m1 183 rfl rfl) rfl hnm rfl (ty := tyX4 0) (by decide +kernel) (by rfl) (by rfl) (Nat.le_of_ble_eq_true rfl) dX4_init_9 (fun w3 ew3 => ?_)
  have ew3 : w3 = pre ++ [(h, .inr (4, [.ref a1, .int 0, .int 0])), (a1, .inl (g.1 2, 60, .inr (.inl (fun _ => 0))))] := ew3.trans (pc_s rfl)
  subst ew3
  refine pb_aload_n hE dX4_init_12 rfl 0 rfl ?_
  refine pb_iconst hE dX4_init_13 (v := (-1 : Int32)) (by decide) ?_
  refine pb_put (C := RX4) (T := TX4) (N := 3) (ty0 := tyX4) (ci := 4) hE (pc_j (j := 0) rfl) rfl pa_uX4 tyX4_ok nmX4 1 (by decide) (pa_m1 185 rfl rfl) rfl (ty := tyX4 1) (by decide +kernel) (by rfl) (by rfl) (Nat.le_of_ble_eq_true rfl) dX4_init_14 (fun w4 ew4 => ?_)
  have ew4 : w4 = pre ++ [(h, .inr (4, [.ref a1, .int (-1 : Int32), .int 0])), (a1, .inl (g.1 2, 60, .inr (.inl (fun _ => 0))))] := ew4.trans (pc_s rfl)
  subst ew4
  exact pb_vret (r := ()) hE hr ⟨a1, rfl⟩ rfl dX4_init_17
set_option maxRecDepth 100000 in
set_option maxHeartbeats 40000000 in
theorem ct_X3_init (l : Launch) (g : pa_G) (D : va_G) (pre : va_W) (h : Nat) (b : Nat) : pb_Ct l yX3_init cX3_init 2 none 4 6 56 g D (pre ++ [(h, .inr (3, [.null, .null, .null, .null, .null, .null, .int 0, .int 0, .int 0, .null]))]) [.ref h, .ref b] (fun (_ : Unit) => none) (fun (_ : Unit) w => ∃ a1 a4 a7 a10 a13 a17, w = pre ++ [(h, .inr (3, [.ref a1, .ref a4, .ref a7, .ref a10, .ref a13, .ref a17, .int 0, .int 100, .int 0, .ref b])), (a1, .inl (g.1 1, 5, .inl (fun _ => 0))), (a4, .inl (g.1 1, 5, .inl (fun _ => 0))), (a7, .inl (g.1 1, 5, .inl (fun _ => 0))), (a10, .inl (g.1 1, 15, .inl (fun _ => 0))), (a13, .inl (g.1 1, 20, .inl (fun _ => 0))), (a17, .inl (g.1 1, 6, .inl (fun _ => 0)))]) := by
  refine pb_met rfl rfl (Nat.le_of_ble_eq_true rfl) rfl (fun p e s m args below meth c A hE hr hnm => ?_)
  refine pb_aload_n hE dX3_init_0 rfl 0 rfl ?_
  refine pb_objInit hE (pa_m1 130 rfl rfl) (pa_m1 23 rfl rfl) (pa_m1 24 rfl rfl) ⟨Nat.le_of_ble_eq_true rfl, Nat.le_of_ble_eq_true rfl⟩ (Nat.le_of_ble_eq_true rfl) dX3_init_1 ?_
  refine pb_aload_n hE dX3_init_4 rfl 0 rfl ?_
  refine pb_iconst hE dX3_init_5 (v := 5) (by decide) ?_
  refine pb_newI hE dX3_init_6 (pa_m1 39 rfl rfl) (by decide) (N := 5) (by decide) (Nat.le_of_ble_eq_true rfl) (Nat.le_of_ble_eq_true rfl) (Nat.le_of_ble_eq_true rfl) (fun a1 w2 ew2 => ?_)
  have ew2 : w2 = pre ++ [(h, .inr (3, [.null, .null, .null, .null, .null, .null, .int 0, .int 0, .int 0, .null])), (a1, .inl (g.1 1, 5, .inl (fun _ => 0)))] := ew2.trans (pc_a rfl)
  subst ew2
  refine pb_putF (C := RX3) (T := TX3) (N := 10) (ty0 := tyX3) (ci := 3) hE (pc_j (j := 0) rfl) rfl pa_uX3 tyX3_ok nmX3 0 (by decide) (pa_m1 142 rfl rfl) rfl hnm rfl (ty := tyX3 0) (by decide +kernel) (by rfl) (by rfl) (Nat.le_of_ble_eq_true rfl) dX3_init_8 (fun w3 ew3 => ?_)
  have ew3 : w3 = pre ++ [(h, .inr (3, [.ref a1, .null, .null, .null, .null, .null, .int 0, .int 0, .int 0, .null])), (a1, .inl (g.1 1, 5, .inl (fun _ => 0)))] := ew3.trans (pc_s rfl)
  subst ew3
  refine pb_aload_n hE dX3_init_11 rfl 0 rfl ?_
  refine pb_iconst hE dX3_init_12 (v := 5) (by decide) ?_
  refine pb_newI hE dX3_init_13 (pa_m1 39 rfl rfl) (by decide) (N := 5) (by decide) (Nat.le_of_ble_eq_true rfl) (Nat.le_of_ble_eq_true rfl) (Nat.le_of_ble_eq_true rfl) (fun a4 w5 ew5 => ?_)
  have ew5 : w5 = pre ++ [(h, .inr (3, [.ref a1, .null, .null, .null, .null, .null, .int 0, .int 0, .int 0, .null])), (a1, .inl (g.1 1, 5, .inl (fun _ => 0))), (a4, .inl (g.1 1, 5, .inl (fun _ => 0)))] := ew5.trans (pc_a rfl)
  subst ew5
  refine pb_putF (C := RX3) (T := TX3) (N := 10) (ty0 := tyX3) (ci := 3) hE (pc_j (j := 0) rfl) rfl pa_uX3 tyX3_ok nmX3 1 (by decide) (pa_m1 143 rfl rfl) rfl hnm rfl (ty := tyX3 1) (by decide +kernel) (by rfl) (by rfl) (Nat.le_of_ble_eq_true rfl) dX3_init_15 (fun w6 ew6 => ?_)
  have ew6 : w6 = pre ++ [(h, .inr (3, [.ref a1, .ref a4, .null, .null, .null, .null, .int 0, .int 0, .int 0, .null])), (a1, .inl (g.1 1, 5, .inl (fun _ => 0))), (a4, .inl (g.1 1, 5, .inl (fun _ => 0)))] := ew6.trans (pc_s rfl)
  subst ew6
  refine pb_aload_n hE dX3_init_18 rfl 0 rfl ?_
  refine pb_iconst hE dX3_init_19 (v := 5) (by decide) ?_
  refine pb_newI hE dX3_init_20 (pa_m1 39 rfl rfl) (by decide) (N := 5) (by decide) (Nat.le_of_ble_eq_true rfl) (Nat.le_of_ble_eq_true rfl) (Nat.le_of_ble_eq_true rfl) (fun a7 w8 ew8 => ?_)
  have ew8 : w8 = pre ++ [(h, .inr (3, [.ref a1, .ref a4, .null, .null, .null, .null, .int 0, .int 0, .int 0, .null])), (a1, .inl (g.1 1, 5, .inl (fun _ => 0))), (a4, .inl (g.1 1, 5, .inl (fun _ => 0))), (a7, .inl (g.1 1, 5, .inl (fun _ => 0)))] := ew8.trans (pc_a rfl)
  subst ew8
  refine pb_putF (C := RX3) (T := TX3) (N := 10) (ty0 := tyX3) (ci := 3) hE (pc_j (j := 0) rfl) rfl pa_uX3 tyX3_ok nmX3 2 (by decide) (pa_m1 144 rfl rfl) rfl hnm rfl (ty := tyX3 2) (by decide +kernel) (by rfl) (by rfl) (Nat.le_of_ble_eq_true rfl) dX3_init_22 (fun w9 ew9 => ?_)
  have ew9 : w9 = pre ++ [(h, .inr (3, [.ref a1, .ref a4, .ref a7, .null, .null, .null, .int 0, .int 0, .int 0, .null])), (a1, .inl (g.1 1, 5, .inl (fun _ => 0))), (a4, .inl (g.1 1, 5, .inl (fun _ => 0))), (a7, .inl (g.1 1, 5, .inl (fun _ => 0)))] := ew9.trans (pc_s rfl)
  subst ew9
  refine pb_aload_n hE dX3_init_25 rfl 0 rfl ?_
  refine pb_bipush hE dX3_init_26 (v := 15) (by decide) ?_
  refine pb_newI hE dX3_init_28 (pa_m1 39 rfl rfl) (by decide) (N := 15) (by decide) (Nat.le_of_ble_eq_true rfl) (Nat.le_of_ble_eq_true rfl) (Nat.le_of_ble_eq_true rfl) (fun a10 w11 ew11 => ?_)
  have ew11 : w11 = pre ++ [(h, .inr (3, [.ref a1, .ref a4, .ref a7, .null, .null, .null, .int 0, .int 0, .int 0, .null])), (a1, .inl (g.1 1, 5, .inl (fun _ => 0))), (a4, .inl (g.1 1, 5, .inl (fun _ => 0))), (a7, .inl (g.1 1, 5, .inl (fun _ => 0))), (a10, .inl (g.1 1, 15, .inl (fun _ => 0)))] := ew11.trans (pc_a rfl)
  subst ew11
  refine pb_putF (C := RX3) (T := TX3) (N := 10) (ty0 := tyX3) (ci := 3) hE (pc_j (j := 0) rfl) rfl pa_uX3 tyX3_ok nmX3 3 (by decide) (pa_m1 145 rfl rfl) rfl hnm rfl (ty := tyX3 3) (by decide +kernel) (by rfl) (by rfl) (Nat.le_of_ble_eq_true rfl) dX3_init_30 (fun w12 ew12 => ?_)
  have ew12 : w12 = pre ++ [(h, .inr (3, [.ref a1, .ref a4, .ref a7, .ref a10, .null, .null, .int 0, .int 0, .int 0, .null])), (a1, .inl (g.1 1, 5, .inl (fun _ => 0))), (a4, .inl (g.1 1, 5, .inl (fun _ => 0))), (a7, .inl (g.1 1, 5, .inl (fun _ => 0))), (a10, .inl (g.1 1, 15, .inl (fun _ => 0)))] := ew12.trans (pc_s rfl)
  subst ew12
  refine pb_aload_n hE dX3_init_33 rfl 0 rfl ?_
  refine pb_bipush hE dX3_init_34 (v := 20) (by decide) ?_
  refine pb_newI hE dX3_init_36 (pa_m1 39 rfl rfl) (by decide) (N := 20) (by decide) (Nat.le_of_ble_eq_true rfl) (Nat.le_of_ble_eq_true rfl) (Nat.le_of_ble_eq_true rfl) (fun a13 w14 ew14 => ?_)
  have ew14 : w14 = pre ++ [(h, .inr (3, [.ref a1, .ref a4, .ref a7, .ref a10, .null, .null, .int 0, .int 0, .int 0, .null])), (a1, .inl (g.1 1, 5, .inl (fun _ => 0))), (a4, .inl (g.1 1, 5, .inl (fun _ => 0))), (a7, .inl (g.1 1, 5, .inl (fun _ => 0))), (a10, .inl (g.1 1, 15, .inl (fun _ => 0))), (a13, .inl (g.1 1, 20, .inl (fun _ => 0)))] := ew14.trans (pc_a rfl)
  subst ew14
  refine pb_putF (C := RX3) (T := TX3) (N := 10) (ty0 := tyX3) (ci := 3) hE (pc_j (j := 0) rfl) rfl pa_uX3 tyX3_ok nmX3 4 (by decide) (pa_m1 146 rfl rfl) rfl hnm rfl (ty := tyX3 4) (by decide +kernel) (by rfl) (by rfl) (Nat.le_of_ble_eq_true rfl) dX3_init_38 (fun w15 ew15 => ?_)
  have ew15 : w15 = pre ++ [(h, .inr (3, [.ref a1, .ref a4, .ref a7, .ref a10, .ref a13, .null, .int 0, .int 0, .int 0, .null])), (a1, .inl (g.1 1, 5, .inl (fun _ => 0))), (a4, .inl (g.1 1, 5, .inl (fun _ => 0))), (a7, .inl (g.1 1, 5, .inl (fun _ => 0))), (a10, .inl (g.1 1, 15, .inl (fun _ => 0))), (a13, .inl (g.1 1, 20, .inl (fun _ => 0)))] := ew15.trans (pc_s rfl)
  subst ew15
  refine pb_aload_n hE dX3_init_41 rfl 0 rfl ?_
  refine pb_ldcS hE dX3_init_42 (i := 0) rfl ?_
  refine pb_callVg hE (pb_length l g D _ 0 (by decide)) cv_RX3_31 (fun H locs hP hS => vk_recv hE.2.2.2.2.2.2.2.2.2.2.2.2.2.1 (by decide : 0 < 7) hS) rfl ⟨Nat.le_of_ble_eq_true rfl, Nat.le_of_ble_eq_true rfl, Nat.le_of_ble_eq_true rfl, Nat.le_of_ble_eq_true rfl⟩ rfl (Nat.le_of_ble_eq_true rfl) dX3_init_44 (fun r w16 ew16 => ?_)
  obtain ⟨er, ew16⟩ := ew16
  have er : r = 6 := er.trans (by decide)
  subst er ew16
  show pb_At p l e _ s m args below meth c _ A D _ _ _ _ _ _ (.int 6 :: [.ref h])
  refine pb_newI hE dX3_init_47 (pa_m1 39 rfl rfl) (by decide) (N := 6) (by decide) (Nat.le_of_ble_eq_true rfl) (Nat.le_of_ble_eq_true rfl) (Nat.le_of_ble_eq_true rfl) (fun a17 w18 ew18 => ?_)
  have ew18 : w18 = pre ++ [(h, .inr (3, [.ref a1, .ref a4, .ref a7, .ref a10, .ref a13, .null, .int 0, .int 0, .int 0, .null])), (a1, .inl (g.1 1, 5, .inl (fun _ => 0))), (a4, .inl (g.1 1, 5, .inl (fun _ => 0))), (a7, .inl (g.1 1, 5, .inl (fun _ => 0))), (a10, .inl (g.1 1, 15, .inl (fun _ => 0))), (a13, .inl (g.1 1, 20, .inl (fun _ => 0))), (a17, .inl (g.1 1, 6, .inl (fun _ => 0)))] := ew18.trans (pc_a rfl)
  subst ew18
  refine pb_putF (C := RX3) (T := TX3) (N := 10) (ty0 := tyX3) (ci := 3) hE (pc_j (j := 0) rfl) rfl pa_uX3 tyX3_ok nmX3 5 (by decide) (pa_m1 147 rfl rfl) rfl hnm rfl (ty := tyX3 5) (by decide +kernel) (by rfl) (by rfl) (Nat.le_of_ble_eq_true rfl) dX3_init_49 (fun w19 ew19 => ?_)
  have ew19 : w19 = pre ++ [(h, .inr (3, [.ref a1, .ref a4, .ref a7, .ref a10, .ref a13, .ref a17, .int 0, .int 0, .int 0, .null])), (a1, .inl (g.1 1, 5, .inl (fun _ => 0))), (a4, .inl (g.1 1, 5, .inl (fun _ => 0))), (a7, .inl (g.1 1, 5, .inl (fun _ => 0))), (a10, .inl (g.1 1, 15, .inl (fun _ => 0))), (a13, .inl (g.1 1, 20, .inl (fun _ => 0))), (a17, .inl (g.1 1, 6, .inl (fun _ => 0)))] := ew19.trans (pc_s rfl)
  subst ew19
  refine pb_aload_n hE dX3_init_52 rfl 0 rfl ?_
  refine pb_bipush hE dX3_init_53 (v := 100) (by decide) ?_
  refine pb_put (C := RX3) (T := TX3) (N := 10) (ty0 := tyX3) (ci := 3) hE (pc_j (j := 0) rfl) rfl pa_uX3 tyX3_ok nmX3 7 (by decide) (pa_m1 150 rfl rfl) rfl (ty := tyX3 7) (by decide +kernel) (by rfl) (by rfl) (Nat.le_of_ble_eq_true rfl) dX3_init_55 (fun w20 ew20 => ?_)
  have ew20 : w20 = pre ++ [(h, .inr (3, [.ref a1, .ref a4, .ref a7, .ref a10, .ref a13, .ref a17, .int 0, .int 100, .int 0, .null])), (a1, .inl (g.1 1, 5, .inl (fun _ => 0))), (a4, .inl (g.1 1, 5, .inl (fun _ => 0))), (a7, .inl (g.1 1, 5, .inl (fun _ => 0))), (a10, .inl (g.1 1, 15, .inl (fun _ => 0))), (a13, .inl (g.1 1, 20, .inl (fun _ => 0))), (a17, .inl (g.1 1, 6, .inl (fun _ => 0)))] := ew20.trans (pc_s rfl)
  subst ew20
  refine pb_aload_n hE dX3_init_58 rfl 0 rfl ?_
  refine pb_aload_n hE dX3_init_59 rfl 1 rfl ?_
  refine pb_put (C := RX3) (T := TX3) (N := 10) (ty0 := tyX3) (ci := 3) hE (pc_j (j := 0) rfl) rfl pa_uX3 tyX3_ok nmX3 9 (by decide) (pa_m1 154 rfl rfl) rfl (ty := tyX3 9) (by decide +kernel) (by rfl) (by rfl) (Nat.le_of_ble_eq_true rfl) dX3_init_60 (fun w21 ew21 => ?_)
  have ew21 : w21 = pre ++ [(h, .inr (3, [.ref a1, .ref a4, .ref a7, .ref a10, .ref a13, .ref a17, .int 0, .int 100, .int 0, .ref b])), (a1, .inl (g.1 1, 5, .inl (fun _ => 0))), (a4, .inl (g.1 1, 5, .inl (fun _ => 0))), (a7, .inl (g.1 1, 5, .inl (fun _ => 0))), (a10, .inl (g.1 1, 15, .inl (fun _ => 0))), (a13, .inl (g.1 1, 20, .inl (fun _ => 0))), (a17, .inl (g.1 1, 6, .inl (fun _ => 0)))] := ew21.trans (pc_s rfl)
  subst ew21
  exact pb_vret (r := ()) hE hr ⟨a1, a4, a7, a10, a13, a17, rfl⟩ rfl dX3_init_63
set_option maxRecDepth 100000 in
set_option maxHeartbeats 40000000 in
theorem ct_X1_init (l : Launch) (g : pa_G) (D : va_G) (pre : va_W) (h : Nat) (s1 : Nat) (n1 : Nat) (x3 : Int32) (x4 : Int32) (tl : va_W) : pb_Ct l yX1_init cX1_init 5 none 2 0 0 g D (pre ++ ((h, .inr (1, [.null, .null, .int 0, .int 0])) :: tl)) [.ref h, .ref s1, .ref n1, .int x3, .int x4] (fun (_ : Unit) => none) (fun (_ : Unit) w => w = pre ++ ((h, .inr (1, [.ref s1, .ref n1, .int (pa_min 60 x3), .int (pa_max 1 x4)])) :: tl)) := by
  refine pb_met rfl rfl (Nat.le_of_ble_eq_true rfl) rfl (fun p e s m args below meth c A hE hr hnm => ?_)
  refine pb_aload_n hE dX1_init_0 rfl 0 rfl ?_
  refine pb_objInit hE (pa_m1 101 rfl rfl) (pa_m1 23 rfl rfl) (pa_m1 24 rfl rfl) ⟨Nat.le_of_ble_eq_true rfl, Nat.le_of_ble_eq_true rfl⟩ (Nat.le_of_ble_eq_true rfl) dX1_init_1 ?_
  refine pb_aload_n hE dX1_init_4 rfl 0 rfl ?_
  refine pb_aload_n hE dX1_init_5 rfl 1 rfl ?_
  refine pb_putF (C := RX1) (T := TX1) (N := 4) (ty0 := tyX1) (ci := 1) hE (pc_j (j := 0) rfl) rfl pa_uX1 tyX1_ok nmX1 0 (by decide) (pa_m1 108 rfl rfl) rfl hnm rfl (ty := tyX1 0) (by decide +kernel) (by rfl) (by rfl) (Nat.le_of_ble_eq_true rfl) dX1_init_6 (fun w1 ew1 => ?_)
  have ew1 : w1 = pre ++ ((h, .inr (1, [.ref s1, .null, .int 0, .int 0])) :: tl) := ew1.trans (pc_s rfl)
  subst ew1
  refine pb_aload_n hE dX1_init_9 rfl 0 rfl ?_
  refine pb_aload_n hE dX1_init_10 rfl 2 rfl ?_
  refine pb_putF (C := RX1) (T := TX1) (N := 4) (ty0 := tyX1) (ci := 1) hE (pc_j (j := 0) rfl) rfl pa_uX1 tyX1_ok nmX1 1 (by decide) (pa_m1 109 rfl rfl) rfl hnm rfl (ty := tyX1 1) (by decide +kernel) (by rfl) (by rfl) (Nat.le_of_ble_eq_true rfl) dX1_init_11 (fun w2 ew2 => ?_)
  have ew2 : w2 = pre ++ ((h, .inr (1, [.ref s1, .ref n1, .int 0, .int 0])) :: tl) := ew2.trans (pc_s rfl)
  subst ew2
  refine pb_aload_n hE dX1_init_14 rfl 0 rfl ?_
  refine pb_bipush hE dX1_init_15 (v := 60) (by decide) ?_
  refine pb_iload_n hE dX1_init_17 rfl 3 rfl ?_
  refine pb_mmin hE dX1_init_18 cm_RX1_18 ⟨Nat.le_of_ble_eq_true rfl, Nat.le_of_ble_eq_true rfl, Nat.le_of_ble_eq_true rfl, Nat.le_of_ble_eq_true rfl⟩ (Nat.le_of_ble_eq_true rfl) ?_
  refine pb_putF (C := RX1) (T := TX1) (N := 4) (ty0 := tyX1) (ci := 1) hE (pc_j (j := 0) rfl) rfl pa_uX1 tyX1_ok nmX1 2 (by decide) (pa_m1 110 rfl rfl) rfl hnm rfl (ty := tyX1 2) (by decide +kernel) (by rfl) (by rfl) (Nat.le_of_ble_eq_true rfl) dX1_init_21 (fun w3 ew3 => ?_)
  have ew3 : w3 = pre ++ ((h, .inr (1, [.ref s1, .ref n1, .int (pa_min 60 x3), .int 0])) :: tl) := ew3.trans (pc_s rfl)
  subst ew3
  refine pb_aload_n hE dX1_init_24 rfl 0 rfl ?_
  refine pb_iconst hE dX1_init_25 (v := 1) (by decide) ?_
  refine pb_iload hE dX1_init_26 4 rfl ?_
  refine pb_mmax hE dX1_init_28 cm_RX1_28 ⟨Nat.le_of_ble_eq_true rfl, Nat.le_of_ble_eq_true rfl, Nat.le_of_ble_eq_true rfl, Nat.le_of_ble_eq_true rfl⟩ (Nat.le_of_ble_eq_true rfl) ?_
  refine pb_putF (C := RX1) (T := TX1) (N := 4) (ty0 := tyX1) (ci := 1) hE (pc_j (j := 0) rfl) rfl pa_uX1 tyX1_ok nmX1 3 (by decide) (pa_m1 113 rfl rfl) rfl hnm rfl (ty := tyX1 3) (by decide +kernel) (by rfl) (by rfl) (Nat.le_of_ble_eq_true rfl) dX1_init_31 (fun w4 ew4 => ?_)
  have ew4 : w4 = pre ++ ((h, .inr (1, [.ref s1, .ref n1, .int (pa_min 60 x3), .int (pa_max 1 x4)])) :: tl) := ew4.trans (pc_s rfl)
  subst ew4
  exact pb_vret (r := ()) hE hr rfl rfl dX1_init_34
