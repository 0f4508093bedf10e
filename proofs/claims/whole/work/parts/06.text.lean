
theorem cm_RX5_111 : Cond.methodLink RX5 111 Lib.Math.max.name ∈ pa_tb ∧ Cond.static Lib.Math.max.name ∈ pa_tb ∧ Cond.initialized "java/lang/Math" ∈ pa_tb ∧ Cond.code Lib.Math.max.name Lib.Math.max.code 2 (some .int) ∈ pa_tb := ⟨pa_m2 210 rfl rfl, pa_m1 106 rfl rfl, pa_m1 6 rfl rfl, pa_m1 107 rfl rfl⟩
def wb_X5_isFull_0 (u0 : pa_S) (post : Int32 → Prop) : Prop :=
  (if (pa_I u0 10 0 3) < 100 then post 0 else post 1)
set_option maxRecDepth 100000 in
set_option maxHeartbeats 4000000 in
theorem tb_X5_isFull_0 {p : Program} {l : Launch} {e : Env} {s : State} {m : MethodId} {args : Array Value} {below : List Frame} {meth : Method} {c : Code} {A : Nat → Prop} {D : va_G} {g : pa_G} {q : Nat → Nat → Nat} {u0 : pa_S} {post : Int32 → Prop} (hE : pa_Fx p s m args meth c A D g 1 cX5_isFull RX5) (hr : meth.sig.returnType = (some .boolean)) (hw : wb_X5_isFull_0 u0 post) : pa_At p l e (pa_rm 2) s m args below meth c (MQ below (pa_Qc g D q (fun r => some (.int r)) (fun r u => u = u0 ∧ post r) A) args s 0 0 A) A D g 1 0 0 q u0 0 [(0, .ref (q 10 0))] [] := by
  refine pa_aload_n hE dX5_isFull_0 rfl 0 rfl ?_
  refine pg_10_3 hE (pa_m1 49 rfl rfl) dX5_isFull_1 ?_
  refine pa_aload_n hE dX5_isFull_4 rfl 0 rfl ?_
  refine pg_10_0 hE (pa_m1 46 rfl rfl) dX5_isFull_5 ?_
  refine pn_11 hE (v := 100) (by decide) dX5_isFull_8 ?_
  refine pa_icmp_lt hE dX5_isFull_9 (tgt := 16) (by decide) (fun h1 => ?_) (fun h1 => ?_)
  · have hw := Eq.mp (if_pos h1) hw
    refine pa_iconst hE dX5_isFull_16 (v := 0) (by decide) ?_
    exact pa_zret hE hr (by decide) ⟨rfl, hw⟩ rfl dX5_isFull_17
  · have hw := Eq.mp (if_neg h1) hw
    refine pa_iconst hE dX5_isFull_12 (v := 1) (by decide) ?_
    refine pa_goto hE dX5_isFull_13 (tgt := 17) (by decide) ?_
    exact pa_zret hE hr (by decide) ⟨rfl, hw⟩ rfl dX5_isFull_17
def wp_X5_isFull (u0 : pa_S) (post : Int32 → Prop) : Prop := wb_X5_isFull_0 u0 post
theorem ct_X5_isFull (l : Launch) (g : pa_G) (D : va_G) (q : Nat → Nat → Nat) (u0 : pa_S) (post : Int32 → Prop)  (hw : wp_X5_isFull u0 post) : pa_Ct l yX5_isFull cX5_isFull 1 (some .boolean) 2 g D q u0 [.ref (q 10 0)] (fun r => some (.int r)) (fun r u => u = u0 ∧ post r) := pa_met rfl rfl (Nat.le_of_ble_eq_true rfl) rfl (fun p e s m args below meth c A hE hr => tb_X5_isFull_0 hE hr  hw)
def wb_X5_size_0 (u0 : pa_S) (post : Int32 → Prop) : Prop :=
  post (pa_I u0 10 0 3)
set_option maxRecDepth 100000 in
set_option maxHeartbeats 4000000 in
theorem tb_X5_size_0 {p : Program} {l : Launch} {e : Env} {s : State} {m : MethodId} {args : Array Value} {below : List Frame} {meth : Method} {c : Code} {A : Nat → Prop} {D : va_G} {g : pa_G} {q : Nat → Nat → Nat} {u0 : pa_S} {post : Int32 → Prop} (hE : pa_Fx p s m args meth c A D g 1 cX5_size RX5) (hr : meth.sig.returnType = (some .int)) (hw : wb_X5_size_0 u0 post) : pa_At p l e (pa_rm 2) s m args below meth c (MQ below (pa_Qc g D q (fun r => some (.int r)) (fun r u => u = u0 ∧ post r) A) args s 0 0 A) A D g 1 0 0 q u0 0 [(0, .ref (q 10 0))] [] := by
  refine pa_aload_n hE dX5_size_0 rfl 0 rfl ?_
  refine pg_10_3 hE (pa_m1 49 rfl rfl) dX5_size_1 ?_
  exact pa_iret hE hr ⟨rfl, hw⟩ rfl dX5_size_4
def wp_X5_size (u0 : pa_S) (post : Int32 → Prop) : Prop := wb_X5_size_0 u0 post
theorem ct_X5_size (l : Launch) (g : pa_G) (D : va_G) (q : Nat → Nat → Nat) (u0 : pa_S) (post : Int32 → Prop)  (hw : wp_X5_size u0 post) : pa_Ct l yX5_size cX5_size 1 (some .int) 2 g D q u0 [.ref (q 10 0)] (fun r => some (.int r)) (fun r u => u = u0 ∧ post r) := pa_met rfl rfl (Nat.le_of_ble_eq_true rfl) rfl (fun p e s m args below meth c A hE hr => tb_X5_size_0 hE hr  hw)
def wb_X5_place_0 (u0 : pa_S) (post : Int32 → Prop) : Prop :=
  post (pa_I u0 10 0 4)
set_option maxRecDepth 100000 in
set_option maxHeartbeats 4000000 in
theorem tb_X5_place_0 {p : Program} {l : Launch} {e : Env} {s : State} {m : MethodId} {args : Array Value} {below : List Frame} {meth : Method} {c : Code} {A : Nat → Prop} {D : va_G} {g : pa_G} {q : Nat → Nat → Nat} {u0 : pa_S} {post : Int32 → Prop} (hE : pa_Fx p s m args meth c A D g 1 cX5_place RX5) (hr : meth.sig.returnType = (some .int)) (hw : wb_X5_place_0 u0 post) : pa_At p l e (pa_rm 2) s m args below meth c (MQ below (pa_Qc g D q (fun r => some (.int r)) (fun r u => u = u0 ∧ post r) A) args s 0 0 A) A D g 1 0 0 q u0 0 [(0, .ref (q 10 0))] [] := by
  refine pa_aload_n hE dX5_place_0 rfl 0 rfl ?_
  refine pg_10_4 hE (pa_m1 50 rfl rfl) dX5_place_1 ?_
  exact pa_iret hE hr ⟨rfl, hw⟩ rfl dX5_place_4
def wp_X5_place (u0 : pa_S) (post : Int32 → Prop) : Prop := wb_X5_place_0 u0 post
theorem ct_X5_place (l : Launch) (g : pa_G) (D : va_G) (q : Nat → Nat → Nat) (u0 : pa_S) (post : Int32 → Prop)  (hw : wp_X5_place u0 post) : pa_Ct l yX5_place cX5_place 1 (some .int) 2 g D q u0 [.ref (q 10 0)] (fun r => some (.int r)) (fun r u => u = u0 ∧ post r) := pa_met rfl rfl (Nat.le_of_ble_eq_true rfl) rfl (fun p e s m args below meth c A hE hr => tb_X5_place_0 hE hr  hw)
def wb_X5_clear_0 (u0 : pa_S) (post : pa_S → Prop) : Prop :=
  ∀ u1 : pa_S, u1 = pa_sI u0 10 0 3 0 → post u1
set_option maxRecDepth 100000 in
set_option maxHeartbeats 4000000 in
theorem tb_X5_clear_0 {p : Program} {l : Launch} {e : Env} {s : State} {m : MethodId} {args : Array Value} {below : List Frame} {meth : Method} {c : Code} {A : Nat → Prop} {D : va_G} {g : pa_G} {q : Nat → Nat → Nat} {u0 : pa_S} {post : pa_S → Prop} (hE : pa_Fx p s m args meth c A D g 1 cX5_clear RX5) (hr : meth.sig.returnType = none) (hw : wb_X5_clear_0 u0 post) : pa_At p l e (pa_rm 2) s m args below meth c (MQ below (pa_Qc g D q (fun (_ : Unit) => none) (fun (_ : Unit) u => post u) A) args s 0 0 A) A D g 1 0 0 q u0 0 [(0, .ref (q 10 0))] [] := by
  refine pa_aload_n hE dX5_clear_0 rfl 0 rfl ?_
  refine pa_iconst hE dX5_clear_1 (v := 0) (by decide) ?_
  refine pp_10_3 hE (pa_m1 49 rfl rfl) dX5_clear_2 (fun u1 eu1 => ?_)
  have hw := hw u1 eu1
  exact pa_vret (r := ()) hE hr hw rfl dX5_clear_5
def wp_X5_clear (u0 : pa_S) (post : pa_S → Prop) : Prop := wb_X5_clear_0 u0 post
theorem ct_X5_clear (l : Launch) (g : pa_G) (D : va_G) (q : Nat → Nat → Nat) (u0 : pa_S) (post : pa_S → Prop)  (hw : wp_X5_clear u0 post) : pa_Ct l yX5_clear cX5_clear 1 none 2 g D q u0 [.ref (q 10 0)] (fun (_ : Unit) => none) (fun (_ : Unit) u => post u) := pa_met rfl rfl (Nat.le_of_ble_eq_true rfl) rfl (fun p e s m args below meth c A hE hr => tb_X5_clear_0 hE hr  hw)
def wb_X5_add_0 (u0 : pa_S) (x1 : Int32) (post : Int32 → pa_S → Prop) : Prop :=
  (if 100 ≤ (pa_I u0 10 0 3) then post (pa_I u0 10 0 3) u0 else (vp_in (pa_I u0 10 0 3) 100) ∧ ∀ u3 : pa_S, u3 = pa_sA u0 11 0 (upd (pa_A u0 11 0) (pa_I u0 10 0 3).toNatClampNeg (vp_nar .byte (x1.toInt8.toInt32))) → ∀ u4 : pa_S, u4 = pa_sI u3 10 0 3 ((pa_I u3 10 0 3) + 1) → post (pa_I u4 10 0 3) u4)
set_option maxRecDepth 100000 in
set_option maxHeartbeats 4000000 in
theorem tb_X5_add_0 {p : Program} {l : Launch} {e : Env} {s : State} {m : MethodId} {args : Array Value} {below : List Frame} {meth : Method} {c : Code} {A : Nat → Prop} {D : va_G} {g : pa_G} {q : Nat → Nat → Nat} {u0 : pa_S} {x1 : Int32} {post : Int32 → pa_S → Prop} (hE : pa_Fx p s m args meth c A D g 2 cX5_add RX5) (hr : meth.sig.returnType = (some .int)) (hw : wb_X5_add_0 u0 x1 post) : pa_At p l e (pa_rm 2) s m args below meth c (MQ below (pa_Qc g D q (fun r => some (.int r)) post A) args s 0 0 A) A D g 2 0 0 q u0 0 [(0, .ref (q 10 0)), (1, .int x1)] [] := by
  refine pa_aload_n hE dX5_add_0 rfl 0 rfl ?_
  refine pg_10_3 hE (pa_m1 49 rfl rfl) dX5_add_1 ?_
  refine pa_aload_n hE dX5_add_4 rfl 0 rfl ?_
  refine pg_10_0 hE (pa_m1 46 rfl rfl) dX5_add_5 ?_
  refine pn_11 hE (v := 100) (by decide) dX5_add_8 ?_
  refine pa_icmp_ge hE dX5_add_9 (tgt := 33) (by decide) (fun h1 => ?_) (fun h1 => ?_)
  · have hw := Eq.mp (if_pos h1) hw
    refine pa_aload_n hE dX5_add_33 rfl 0 rfl ?_
    refine pg_10_3 hE (pa_m1 49 rfl rfl) dX5_add_34 ?_
    exact pa_iret hE hr hw rfl dX5_add_37
  · have hw := Eq.mp (if_neg h1) hw
    refine pa_aload_n hE dX5_add_12 rfl 0 rfl ?_
    refine pg_10_0 hE (pa_m1 46 rfl rfl) dX5_add_13 ?_
    refine pa_aload_n hE dX5_add_16 rfl 0 rfl ?_
    refine pg_10_3 hE (pa_m1 49 rfl rfl) dX5_add_17 ?_
    refine pa_iload_n hE dX5_add_20 rfl 1 rfl ?_
    refine pa_i2b hE dX5_add_21 ?_
    obtain ⟨h2, hw⟩ := hw
    refine ps_11 hE h2 dX5_add_22 (fun u3 eu3 => ?_)
    have hw := hw u3 eu3
    refine pa_aload_n hE dX5_add_23 rfl 0 rfl ?_
    refine pa_dup hE dX5_add_24 rfl ?_
    refine pg_10_3 hE (pa_m1 49 rfl rfl) dX5_add_25 ?_
    refine pa_iconst hE dX5_add_28 (v := 1) (by decide) ?_
    refine pa_iadd hE dX5_add_29 ?_
    refine pp_10_3 hE (pa_m1 49 rfl rfl) dX5_add_30 (fun u4 eu4 => ?_)
    have hw := hw u4 eu4
    refine pa_aload_n hE dX5_add_33 rfl 0 rfl ?_
    refine pg_10_3 hE (pa_m1 49 rfl rfl) dX5_add_34 ?_
    exact pa_iret hE hr hw rfl dX5_add_37
def wp_X5_add (u0 : pa_S) (x1 : Int32) (post : Int32 → pa_S → Prop) : Prop := wb_X5_add_0 u0 x1 post
theorem ct_X5_add (l : Launch) (g : pa_G) (D : va_G) (q : Nat → Nat → Nat) (u0 : pa_S) (x1 : Int32) (post : Int32 → pa_S → Prop)  (hw : wp_X5_add u0 x1 post) : pa_Ct l yX5_add cX5_add 2 (some .int) 2 g D q u0 [.ref (q 10 0), .int x1] (fun r => some (.int r)) post := pa_met rfl rfl (Nat.le_of_ble_eq_true rfl) rfl (fun p e s m args below meth c A hE hr => tb_X5_add_0 hE hr  hw)
def wb_X5_emit_0 (u0 : pa_S) (x1 : Int32) (x2 : Int32) (post : Int32 → pa_S → Prop) : Prop :=
  (if 100 ≤ (pa_I u0 10 0 5) then post 0 u0 else (if (pa_I u0 10 0 5) < 100 then (vp_in (pa_I u0 10 0 5) 100) ∧ ∀ u4 : pa_S, u4 = pa_sA u0 12 0 (upd (pa_A u0 12 0) (pa_I u0 10 0 5).toNatClampNeg x1) → (vp_in (pa_I u4 10 0 5) 100) ∧ ∀ u6 : pa_S, u6 = pa_sA u4 13 0 (upd (pa_A u4 13 0) (pa_I u4 10 0 5).toNatClampNeg x2) → ∀ u7 : pa_S, u7 = pa_sI u6 10 0 5 ((pa_I u6 10 0 5) + 1) → post 1 u7 else post 0 u0))
set_option maxRecDepth 100000 in
set_option maxHeartbeats 4000000 in
theorem tb_X5_emit_0 {p : Program} {l : Launch} {e : Env} {s : State} {m : MethodId} {args : Array Value} {below : List Frame} {meth : Method} {c : Code} {A : Nat → Prop} {D : va_G} {g : pa_G} {q : Nat → Nat → Nat} {u0 : pa_S} {x1 : Int32} {x2 : Int32} {post : Int32 → pa_S → Prop} (hE : pa_Fx p s m args meth c A D g 3 cX5_emit RX5) (hr : meth.sig.returnType = (some .boolean)) (hw : wb_X5_emit_0 u0 x1 x2 post) : pa_At p l e (pa_rm 2) s m args below meth c (MQ below (pa_Qc g D q (fun r => some (.int r)) post A) args s 0 0 A) A D g 3 0 0 q u0 0 [(0, .ref (q 10 0)), (1, .int x1), (2, .int x2)] [] := by
  refine pa_aload_n hE dX5_emit_0 rfl 0 rfl ?_
  refine pg_10_5 hE (pa_m1 51 rfl rfl) dX5_emit_1 ?_
  refine pa_aload_n hE dX5_emit_4 rfl 0 rfl ?_
  refine pg_10_1 hE (pa_m1 47 rfl rfl) dX5_emit_5 ?_
  refine pn_12 hE (v := 100) (by decide) dX5_emit_8 ?_
  refine pa_icmp_ge hE dX5_emit_9 (tgt := 24) (by decide) (fun h1 => ?_) (fun h1 => ?_)
  · have hw := Eq.mp (if_pos h1) hw
    refine pa_iconst hE dX5_emit_24 (v := 0) (by decide) ?_
    exact pa_zret hE hr (by decide) hw rfl dX5_emit_25
  · have hw := Eq.mp (if_neg h1) hw
    refine pa_aload_n hE dX5_emit_12 rfl 0 rfl ?_
    refine pg_10_5 hE (pa_m1 51 rfl rfl) dX5_emit_13 ?_
    refine pa_aload_n hE dX5_emit_16 rfl 0 rfl ?_
    refine pg_10_2 hE (pa_m1 48 rfl rfl) dX5_emit_17 ?_
    refine pn_13 hE (v := 100) (by decide) dX5_emit_20 ?_
    refine pa_icmp_lt hE dX5_emit_21 (tgt := 26) (by decide) (fun h2 => ?_) (fun h2 => ?_)
    · have hw := Eq.mp (if_pos h2) hw
      refine pa_aload_n hE dX5_emit_26 rfl 0 rfl ?_
      refine pg_10_1 hE (pa_m1 47 rfl rfl) dX5_emit_27 ?_
      refine pa_aload_n hE dX5_emit_30 rfl 0 rfl ?_
      refine pg_10_5 hE (pa_m1 51 rfl rfl) dX5_emit_31 ?_
      refine pa_iload_n hE dX5_emit_34 rfl 1 rfl ?_
      obtain ⟨h3, hw⟩ := hw
      refine ps_12 hE h3 dX5_emit_35 (fun u4 eu4 => ?_)
      have hw := hw u4 eu4
      refine pa_aload_n hE dX5_emit_36 rfl 0 rfl ?_
      refine pg_10_2 hE (pa_m1 48 rfl rfl) dX5_emit_37 ?_
      refine pa_aload_n hE dX5_emit_40 rfl 0 rfl ?_
      refine pg_10_5 hE (pa_m1 51 rfl rfl) dX5_emit_41 ?_
      refine pa_iload_n hE dX5_emit_44 rfl 2 rfl ?_
      obtain ⟨h5, hw⟩ := hw
      refine ps_13 hE h5 dX5_emit_45 (fun u6 eu6 => ?_)
      have hw := hw u6 eu6
      refine pa_aload_n hE dX5_emit_46 rfl 0 rfl ?_
      refine pa_dup hE dX5_emit_47 rfl ?_
      refine pg_10_5 hE (pa_m1 51 rfl rfl) dX5_emit_48 ?_
      refine pa_iconst hE dX5_emit_51 (v := 1) (by decide) ?_
      refine pa_iadd hE dX5_emit_52 ?_
      refine pp_10_5 hE (pa_m1 51 rfl rfl) dX5_emit_53 (fun u7 eu7 => ?_)
      have hw := hw u7 eu7
      refine pa_iconst hE dX5_emit_56 (v := 1) (by decide) ?_
      exact pa_zret hE hr (by decide) hw rfl dX5_emit_57
    · have hw := Eq.mp (if_neg h2) hw
      refine pa_iconst hE dX5_emit_24 (v := 0) (by decide) ?_
      exact pa_zret hE hr (by decide) hw rfl dX5_emit_25
def wp_X5_emit (u0 : pa_S) (x1 : Int32) (x2 : Int32) (post : Int32 → pa_S → Prop) : Prop := wb_X5_emit_0 u0 x1 x2 post
theorem ct_X5_emit (l : Launch) (g : pa_G) (D : va_G) (q : Nat → Nat → Nat) (u0 : pa_S) (x1 : Int32) (x2 : Int32) (post : Int32 → pa_S → Prop)  (hw : wp_X5_emit u0 x1 x2 post) : pa_Ct l yX5_emit cX5_emit 3 (some .boolean) 2 g D q u0 [.ref (q 10 0), .int x1, .int x2] (fun r => some (.int r)) post := pa_met rfl rfl (Nat.le_of_ble_eq_true rfl) rfl (fun p e s m args below meth c A hE hr => tb_X5_emit_0 hE hr  hw)
def wb_X5_take_0 (u0 : pa_S) (x1 : Int32) (post : Int32 → pa_S → Prop) : Prop :=
  (if (pa_I u0 10 0 4) < 0 then post 0 u0 else (if (pa_I u0 10 0 3) ≤ (pa_I u0 10 0 4) then post 0 u0 else (if 100 ≤ (pa_I u0 10 0 4) then post 0 u0 else (vp_in (pa_I u0 10 0 4) 100) ∧ (if (pa_A u0 11 0 (pa_I u0 10 0 4).toNatClampNeg) = x1 then ∀ u6 : pa_S, u6 = pa_sI u0 10 0 4 ((pa_I u0 10 0 4) + 1) → post 1 u6 else post 0 u0))))
set_option maxRecDepth 100000 in
set_option maxHeartbeats 4000000 in
theorem tb_X5_take_0 {p : Program} {l : Launch} {e : Env} {s : State} {m : MethodId} {args : Array Value} {below : List Frame} {meth : Method} {c : Code} {A : Nat → Prop} {D : va_G} {g : pa_G} {q : Nat → Nat → Nat} {u0 : pa_S} {x1 : Int32} {post : Int32 → pa_S → Prop} (hE : pa_Fx p s m args meth c A D g 2 cX5_take RX5) (hr : meth.sig.returnType = (some .boolean)) (hw : wb_X5_take_0 u0 x1 post) : pa_At p l e (pa_rm 2) s m args below meth c (MQ below (pa_Qc g D q (fun r => some (.int r)) post A) args s 0 0 A) A D g 2 0 0 q u0 0 [(0, .ref (q 10 0)), (1, .int x1)] [] := by
  refine pa_aload_n hE dX5_take_0 rfl 0 rfl ?_
  refine pg_10_4 hE (pa_m1 50 rfl rfl) dX5_take_1 ?_
  refine pa_if_lt hE dX5_take_4 (tgt := 43) (by decide) (fun h1 => ?_) (fun h1 => ?_)
  · have hw := Eq.mp (if_pos h1) hw
    refine pa_iconst hE dX5_take_43 (v := 0) (by decide) ?_
    exact pa_zret hE hr (by decide) hw rfl dX5_take_44
  · have hw := Eq.mp (if_neg h1) hw
    refine pa_aload_n hE dX5_take_7 rfl 0 rfl ?_
    refine pg_10_4 hE (pa_m1 50 rfl rfl) dX5_take_8 ?_
    refine pa_aload_n hE dX5_take_11 rfl 0 rfl ?_
    refine pg_10_3 hE (pa_m1 49 rfl rfl) dX5_take_12 ?_
    refine pa_icmp_ge hE dX5_take_15 (tgt := 43) (by decide) (fun h2 => ?_) (fun h2 => ?_)
    · have hw := Eq.mp (if_pos h2) hw
      refine pa_iconst hE dX5_take_43 (v := 0) (by decide) ?_
      exact pa_zret hE hr (by decide) hw rfl dX5_take_44
    · have hw := Eq.mp (if_neg h2) hw
      refine pa_aload_n hE dX5_take_18 rfl 0 rfl ?_
      refine pg_10_4 hE (pa_m1 50 rfl rfl) dX5_take_19 ?_
      refine pa_aload_n hE dX5_take_22 rfl 0 rfl ?_
      refine pg_10_0 hE (pa_m1 46 rfl rfl) dX5_take_23 ?_
      refine pn_11 hE (v := 100) (by decide) dX5_take_26 ?_
      refine pa_icmp_ge hE dX5_take_27 (tgt := 43) (by decide) (fun h3 => ?_) (fun h3 => ?_)
      · have hw := Eq.mp (if_pos h3) hw
        refine pa_iconst hE dX5_take_43 (v := 0) (by decide) ?_
        exact pa_zret hE hr (by decide) hw rfl dX5_take_44
      · have hw := Eq.mp (if_neg h3) hw
        refine pa_aload_n hE dX5_take_30 rfl 0 rfl ?_
        refine pg_10_0 hE (pa_m1 46 rfl rfl) dX5_take_31 ?_
        refine pa_aload_n hE dX5_take_34 rfl 0 rfl ?_
        refine pg_10_4 hE (pa_m1 50 rfl rfl) dX5_take_35 ?_
        obtain ⟨h4, hw⟩ := hw
        refine pl_11 hE h4 dX5_take_38 ?_
        refine pa_iload_n hE dX5_take_39 rfl 1 rfl ?_
        refine pa_icmp_eq hE dX5_take_40 (tgt := 45) (by decide) (fun h5 => ?_) (fun h5 => ?_)
        · have hw := Eq.mp (if_pos h5) hw
          refine pa_aload_n hE dX5_take_45 rfl 0 rfl ?_
          refine pa_dup hE dX5_take_46 rfl ?_
          refine pg_10_4 hE (pa_m1 50 rfl rfl) dX5_take_47 ?_
          refine pa_iconst hE dX5_take_50 (v := 1) (by decide) ?_
          refine pa_iadd hE dX5_take_51 ?_
          refine pp_10_4 hE (pa_m1 50 rfl rfl) dX5_take_52 (fun u6 eu6 => ?_)
          have hw := hw u6 eu6
          refine pa_iconst hE dX5_take_55 (v := 1) (by decide) ?_
          exact pa_zret hE hr (by decide) hw rfl dX5_take_56
        · have hw := Eq.mp (if_neg h5) hw
          refine pa_iconst hE dX5_take_43 (v := 0) (by decide) ?_
          exact pa_zret hE hr (by decide) hw rfl dX5_take_44
def wp_X5_take (u0 : pa_S) (x1 : Int32) (post : Int32 → pa_S → Prop) : Prop := wb_X5_take_0 u0 x1 post
theorem ct_X5_take (l : Launch) (g : pa_G) (D : va_G) (q : Nat → Nat → Nat) (u0 : pa_S) (x1 : Int32) (post : Int32 → pa_S → Prop)  (hw : wp_X5_take u0 x1 post) : pa_Ct l yX5_take cX5_take 2 (some .boolean) 2 g D q u0 [.ref (q 10 0), .int x1] (fun r => some (.int r)) post := pa_met rfl rfl (Nat.le_of_ble_eq_true rfl) rfl (fun p e s m args below meth c A hE hr => tb_X5_take_0 hE hr  hw)
def wb_X5_takeNumber_4 (k4 : pa_S → Int32 → Int32 → Prop) (u0 : pa_S) (x1 : Int32) (x2 : Int32) (post : Int32 → pa_S → Prop) : Prop :=
  (if 2 ≤ x2 then post x1 u0 else (if (pa_I u0 10 0 4) < 0 then post x1 u0 else (if (pa_I u0 10 0 3) ≤ (pa_I u0 10 0 4) then post x1 u0 else (if 100 ≤ (pa_I u0 10 0 4) then post x1 u0 else (vp_in (pa_I u0 10 0 4) 100) ∧ ∀ v6 : Int32, v6 = ((pa_A u0 11 0 (pa_I u0 10 0 4).toNatClampNeg) - 48) → (if v6 < 0 then post x1 u0 else (if v6 ≤ 9 then ∀ v9 : Int32, v9 = (((pa_max 0 x1) * 10) + v6) → ∀ u10 : pa_S, u10 = pa_sI u0 10 0 4 ((pa_I u0 10 0 4) + 1) → ∀ v11 : Int32, v11 = x2 + 1 → k4 u10 v9 v11 else post x1 u0))))))
set_option maxRecDepth 100000 in
set_option maxHeartbeats 4000000 in
theorem tb_X5_takeNumber_4 {p : Program} {l : Launch} {e : Env} {s : State} {m : MethodId} {args : Array Value} {below : List Frame} {meth : Method} {c : Code} {A : Nat → Prop} {D : va_G} {g : pa_G} {q : Nat → Nat → Nat} {k4 : pa_S → Int32 → Int32 → Prop} {u0 : pa_S} {x1 : Int32} {x2 : Int32} {post : Int32 → pa_S → Prop} (hE : pa_Fx p s m args meth c A D g 4 cX5_takeNumber RX5) (hr : meth.sig.returnType = (some .int)) (hk4 : ∀ (u : pa_S)  (x1 : Int32) (x2 : Int32), k4 u x1 x2 → pa_At p l e (pa_rm 2) s m args below meth c (MQ below (pa_Qc g D q (fun r => some (.int r)) post A) args s 0 0 A) A D g 4 0 0 q u 4 [(0, .ref (q 10 0)), (1, .int x1), (2, .int x2)] []) (hw : wb_X5_takeNumber_4 k4 u0 x1 x2 post) : pa_At p l e (pa_rm 2) s m args below meth c (MQ below (pa_Qc g D q (fun r => some (.int r)) post A) args s 0 0 A) A D g 4 0 0 q u0 4 [(0, .ref (q 10 0)), (1, .int x1), (2, .int x2)] [] := by
  refine pa_iload_n hE dX5_takeNumber_4 rfl 2 rfl ?_
  refine pa_iconst hE dX5_takeNumber_5 (v := 2) (by decide) ?_
  refine pa_icmp_ge hE dX5_takeNumber_6 (tgt := 92) (by decide) (fun h1 => ?_) (fun h1 => ?_)
  · have hw := Eq.mp (if_pos h1) hw
    refine pa_iload_n hE dX5_takeNumber_92 rfl 1 rfl ?_
    exact pa_iret hE hr hw rfl dX5_takeNumber_93
  · have hw := Eq.mp (if_neg h1) hw
    refine pa_aload_n hE dX5_takeNumber_9 rfl 0 rfl ?_
    refine pg_10_4 hE (pa_m1 50 rfl rfl) dX5_takeNumber_10 ?_
    refine pa_if_lt hE dX5_takeNumber_13 (tgt := 92) (by decide) (fun h2 => ?_) (fun h2 => ?_)
    · have hw := Eq.mp (if_pos h2) hw
      refine pa_iload_n hE dX5_takeNumber_92 rfl 1 rfl ?_
      exact pa_iret hE hr hw rfl dX5_takeNumber_93
    · have hw := Eq.mp (if_neg h2) hw
      refine pa_aload_n hE dX5_takeNumber_16 rfl 0 rfl ?_
      refine pg_10_4 hE (pa_m1 50 rfl rfl) dX5_takeNumber_17 ?_
      refine pa_aload_n hE dX5_takeNumber_20 rfl 0 rfl ?_
      refine pg_10_3 hE (pa_m1 49 rfl rfl) dX5_takeNumber_21 ?_
      refine pa_icmp_ge hE dX5_takeNumber_24 (tgt := 92) (by decide) (fun h3 => ?_) (fun h3 => ?_)
      · have hw := Eq.mp (if_pos h3) hw
        refine pa_iload_n hE dX5_takeNumber_92 rfl 1 rfl ?_
        exact pa_iret hE hr hw rfl dX5_takeNumber_93
      · have hw := Eq.mp (if_neg h3) hw
        refine pa_aload_n hE dX5_takeNumber_27 rfl 0 rfl ?_
        refine pg_10_4 hE (pa_m1 50 rfl rfl) dX5_takeNumber_28 ?_
        refine pa_aload_n hE dX5_takeNumber_31 rfl 0 rfl ?_
        refine pg_10_0 hE (pa_m1 46 rfl rfl) dX5_takeNumber_32 ?_
        refine pn_11 hE (v := 100) (by decide) dX5_takeNumber_35 ?_
        refine pa_icmp_ge hE dX5_takeNumber_36 (tgt := 92) (by decide) (fun h4 => ?_) (fun h4 => ?_)
        · have hw := Eq.mp (if_pos h4) hw
          refine pa_iload_n hE dX5_takeNumber_92 rfl 1 rfl ?_
          exact pa_iret hE hr hw rfl dX5_takeNumber_93
        · have hw := Eq.mp (if_neg h4) hw
          refine pa_aload_n hE dX5_takeNumber_39 rfl 0 rfl ?_
          refine pg_10_0 hE (pa_m1 46 rfl rfl) dX5_takeNumber_40 ?_
          refine pa_aload_n hE dX5_takeNumber_43 rfl 0 rfl ?_
          refine pg_10_4 hE (pa_m1 50 rfl rfl) dX5_takeNumber_44 ?_
          obtain ⟨h5, hw⟩ := hw
          refine pl_11 hE h5 dX5_takeNumber_47 ?_
          refine pa_bipush hE dX5_takeNumber_48 (v := 48) (by decide) ?_
          refine pa_isub hE dX5_takeNumber_50 ?_
          refine pa_namei (fun v6 ev6 => ?_)
          have hw := hw v6 ev6
          refine pa_istore_n hE dX5_takeNumber_51 rfl (by decide) (lvr := [(0, .ref (q 10 0)), (1, .int x1), (2, .int x2)]) rfl ?_
          refine pa_iload_n hE dX5_takeNumber_52 rfl 0 rfl ?_
          refine pa_if_lt hE dX5_takeNumber_53 (tgt := 92) (by decide) (fun h7 => ?_) (fun h7 => ?_)
          · have hw := Eq.mp (if_pos h7) hw
            refine pa_iload_n hE dX5_takeNumber_92 rfl 2 rfl ?_
            exact pa_iret hE hr hw rfl dX5_takeNumber_93
          · have hw := Eq.mp (if_neg h7) hw
            refine pa_iload_n hE dX5_takeNumber_56 rfl 0 rfl ?_
            refine pa_bipush hE dX5_takeNumber_57 (v := 9) (by decide) ?_
            refine pa_icmp_le hE dX5_takeNumber_59 (tgt := 65) (by decide) (fun h8 => ?_) (fun h8 => ?_)
            · have hw := Eq.mp (if_pos h8) hw
              refine pa_iconst hE dX5_takeNumber_65 (v := 0) (by decide) ?_
              refine pa_iload_n hE dX5_takeNumber_66 rfl 2 rfl ?_
              refine pa_mmax hE dX5_takeNumber_67 cm_RX5_111 (pa_hRm (by omega)) (Nat.le_of_ble_eq_true rfl) ?_
              refine pa_bipush hE dX5_takeNumber_70 (v := 10) (by decide) ?_
              refine pa_imul hE dX5_takeNumber_72 ?_
              refine pa_iload_n hE dX5_takeNumber_73 rfl 0 rfl ?_
              refine pa_iadd hE dX5_takeNumber_74 ?_
              refine pa_namei (fun v9 ev9 => ?_)
              have hw := hw v9 ev9
              refine pa_istore_n hE dX5_takeNumber_75 rfl (by decide) (lvr := [(3, .int v6), (0, .ref (q 10 0)), (2, .int x2)]) rfl ?_
              refine pa_aload_n hE dX5_takeNumber_76 rfl 2 rfl ?_
              refine pa_dup hE dX5_takeNumber_77 rfl ?_
              refine pg_10_4 hE (pa_m1 50 rfl rfl) dX5_takeNumber_78 ?_
              refine pa_iconst hE dX5_takeNumber_81 (v := 1) (by decide) ?_
              refine pa_iadd hE dX5_takeNumber_82 ?_
              refine pp_10_4 hE (pa_m1 50 rfl rfl) dX5_takeNumber_83 (fun u10 eu10 => ?_)
              have hw := hw u10 eu10
              refine pa_iinc hE dX5_takeNumber_86 (v := 1) 3 rfl (by decide) (by decide) (lvr := [(1, .int v9), (3, .int v6), (0, .ref (q 10 0))]) rfl (fun v11 ev11 => ?_)
              have hw := hw v11 ev11
              refine pa_goto hE dX5_takeNumber_89 (tgt := 4) (by decide) ?_
              exact pa_sub [3, 1, 0] rfl (hk4 u10 v9 v11 hw)
            · have hw := Eq.mp (if_neg h8) hw
              refine pa_goto hE dX5_takeNumber_62 (tgt := 92) (by decide) ?_
              refine pa_iload_n hE dX5_takeNumber_92 rfl 2 rfl ?_
              exact pa_iret hE hr hw rfl dX5_takeNumber_93
def wl_X5_takeNumber_4 (post : Int32 → pa_S → Prop) : Nat → pa_S → Int32 → Int32 → Prop
  | 0, _, _, _ => False
  | n + 1, u0, x1, x2 => wb_X5_takeNumber_4 (fun u0 x1 x2 => wl_X5_takeNumber_4 post n u0 x1 x2) u0 x1 x2 post
set_option maxRecDepth 100000 in
set_option maxHeartbeats 4000000 in
theorem tl_X5_takeNumber_4 {p : Program} {l : Launch} {e : Env} {s : State} {m : MethodId} {args : Array Value} {below : List Frame} {meth : Method} {c : Code} {A : Nat → Prop} {D : va_G} {g : pa_G} {q : Nat → Nat → Nat} {post : Int32 → pa_S → Prop} (hE : pa_Fx p s m args meth c A D g 4 cX5_takeNumber RX5) (hr : meth.sig.returnType = (some .int)) : ∀ (n : Nat) (u0 : pa_S) (x1 : Int32) (x2 : Int32), wl_X5_takeNumber_4 post n u0 x1 x2 → pa_At p l e (pa_rm 2) s m args below meth c (MQ below (pa_Qc g D q (fun r => some (.int r)) post A) args s 0 0 A) A D g 4 0 0 q u0 4 [(0, .ref (q 10 0)), (1, .int x1), (2, .int x2)] []
  | 0, _, _, _, hw => absurd hw (by simp only [wl_X5_takeNumber_4]; exact fun z => z)
  | n + 1, u0, x1, x2, hw => tb_X5_takeNumber_4 hE hr (fun u0 x1 x2  hw1 => tl_X5_takeNumber_4 hE hr  n u0 x1 x2  hw1) hw
def wb_X5_takeNumber_0 (u0 : pa_S) (post : Int32 → pa_S → Prop) : Prop :=
  wl_X5_takeNumber_4 post 5000 u0 (-1 : Int32) 0
set_option maxRecDepth 100000 in
set_option maxHeartbeats 4000000 in
theorem tb_X5_takeNumber_0 {p : Program} {l : Launch} {e : Env} {s : State} {m : MethodId} {args : Array Value} {below : List Frame} {meth : Method} {c : Code} {A : Nat → Prop} {D : va_G} {g : pa_G} {q : Nat → Nat → Nat} {u0 : pa_S} {post : Int32 → pa_S → Prop} (hE : pa_Fx p s m args meth c A D g 4 cX5_takeNumber RX5) (hr : meth.sig.returnType = (some .int)) (hw : wb_X5_takeNumber_0 u0 post) : pa_At p l e (pa_rm 2) s m args below meth c (MQ below (pa_Qc g D q (fun r => some (.int r)) post A) args s 0 0 A) A D g 4 0 0 q u0 0 [(0, .ref (q 10 0))] [] := by
  refine pa_iconst hE dX5_takeNumber_0 (v := (-1 : Int32)) (by decide) ?_
  refine pa_istore_n hE dX5_takeNumber_1 rfl (by decide) (lvr := [(0, .ref (q 10 0))]) rfl ?_
  refine pa_iconst hE dX5_takeNumber_2 (v := 0) (by decide) ?_
  refine pa_istore_n hE dX5_takeNumber_3 rfl (by decide) (lvr := [(1, .int (-1 : Int32)), (0, .ref (q 10 0))]) rfl ?_
  exact pa_sub [2, 1, 0] rfl (tl_X5_takeNumber_4 hE hr 5000 u0 (-1 : Int32) 0 hw)
def wp_X5_takeNumber (u0 : pa_S) (post : Int32 → pa_S → Prop) : Prop := wb_X5_takeNumber_0 u0 post
theorem ct_X5_takeNumber (l : Launch) (g : pa_G) (D : va_G) (q : Nat → Nat → Nat) (u0 : pa_S) (post : Int32 → pa_S → Prop)  (hw : wp_X5_takeNumber u0 post) : pa_Ct l yX5_takeNumber cX5_takeNumber 4 (some .int) 2 g D q u0 [.ref (q 10 0)] (fun r => some (.int r)) post := pa_met rfl rfl (Nat.le_of_ble_eq_true rfl) rfl (fun p e s m args below meth c A hE hr => tb_X5_takeNumber_0 hE hr  hw)
