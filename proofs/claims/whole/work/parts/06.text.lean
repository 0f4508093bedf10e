
theorem cm_RX5_111 : Cond.methodLink RX5 111 Lib.Math.max.name ∈ pa_tb ∧ Cond.static Lib.Math.max.name ∈ pa_tb ∧ Cond.initialized "java/lang/Math" ∈ pa_tb ∧ Cond.code Lib.Math.max.name Lib.Math.max.code 2 (some .int) ∈ pa_tb := ⟨pa_m2 210 rfl rfl, pa_m1 106 rfl rfl, pa_m1 6 rfl rfl, pa_m1 107 rfl rfl⟩
theorem cv_RJ0_335 : pa_CV RJ0 RJ0 335 yJ0_coder_7d493 cJ0_coder_7d493 1 (some .byte) 0 := ⟨⟨rfl, by decide +kernel, by decide +kernel, by decide +kernel⟩, pa_m1 136 rfl rfl, pa_m1 137 rfl rfl, pa_m1 138 rfl rfl, pa_m1 8 rfl rfl, pa_m1 139 rfl rfl⟩
theorem cs_RJ1_88 : pa_CS RJ1 88 yJ1_canEncode_9a6ad cJ1_canEncode_9a6ad 1 (some .boolean) 1 := ⟨⟨by decide +kernel, by decide +kernel, by decide +kernel⟩, pa_m3 12 rfl rfl, pa_m3 13 rfl rfl, pa_m1 11 rfl rfl, pa_m3 14 rfl rfl⟩
theorem cm_RJ1_92 : Cond.methodLink RJ1 92 Lib.Math.max.name ∈ pa_tb ∧ Cond.static Lib.Math.max.name ∈ pa_tb ∧ Cond.initialized "java/lang/Math" ∈ pa_tb ∧ Cond.code Lib.Math.max.name Lib.Math.max.code 2 (some .int) ∈ pa_tb := ⟨pa_m3 15 rfl rfl, pa_m1 106 rfl rfl, pa_m1 6 rfl rfl, pa_m1 107 rfl rfl⟩
theorem cm_RJ1_38 : Cond.methodLink RJ1 38 Lib.Math.min.name ∈ pa_tb ∧ Cond.static Lib.Math.min.name ∈ pa_tb ∧ Cond.initialized "java/lang/Math" ∈ pa_tb ∧ Cond.code Lib.Math.min.name Lib.Math.min.code 2 (some .int) ∈ pa_tb := ⟨pa_m3 16 rfl rfl, pa_m1 103 rfl rfl, pa_m1 6 rfl rfl, pa_m1 104 rfl rfl⟩
theorem cs_RJ1_95 : pa_CS RJ1 95 yJ1_indexOfChar_4cfef cJ1_indexOfChar_4cfef 6 (some .int) 4 := ⟨⟨by decide +kernel, by decide +kernel, by decide +kernel⟩, pa_m3 17 rfl rfl, pa_m3 18 rfl rfl, pa_m1 11 rfl rfl, pa_m3 19 rfl rfl⟩
theorem cv_RJ0_492 : pa_CV RJ0 RJ0 492 yJ0_isLatin1_aae02 cJ0_isLatin1_aae02 1 (some .boolean) 0 := ⟨⟨rfl, by decide +kernel, by decide +kernel, by decide +kernel⟩, pa_m2 172 rfl rfl, pa_m2 173 rfl rfl, pa_m2 174 rfl rfl, pa_m1 8 rfl rfl, pa_m2 175 rfl rfl⟩
theorem cv_RJ0_505 : pa_CV RJ0 RJ0 505 yJ0_length_8abf5 cJ0_length_8abf5 1 (some .int) 0 := ⟨⟨rfl, by decide +kernel, by decide +kernel, by decide +kernel⟩, pa_m3 8 rfl rfl, pa_m1 133 rfl rfl, pa_m1 134 rfl rfl, pa_m1 8 rfl rfl, pa_m1 135 rfl rfl⟩
theorem cs_RJ0_637 : pa_CS RJ0 637 yJ1_indexOf_4cfef cJ1_indexOf_4cfef 4 (some .int) 4 := ⟨⟨by decide +kernel, by decide +kernel, by decide +kernel⟩, pa_m3 9 rfl rfl, pa_m3 10 rfl rfl, pa_m1 11 rfl rfl, pa_m3 11 rfl rfl⟩
theorem cv_RJ0_633 : pa_CV RJ0 RJ0 633 yJ0_indexOf_7cf53 cJ0_indexOf_7cf53 3 (some .int) 2 := ⟨⟨rfl, by decide +kernel, by decide +kernel, by decide +kernel⟩, pa_m3 4 rfl rfl, pa_m3 5 rfl rfl, pa_m3 6 rfl rfl, pa_m1 8 rfl rfl, pa_m3 7 rfl rfl⟩
theorem cv_RX5_107 : pa_CV RX5 RJ0 107 yJ0_indexOf_0f7a4 cJ0_indexOf_0f7a4 2 (some .int) 1 := ⟨⟨rfl, by decide +kernel, by decide +kernel, by decide +kernel⟩, pa_m3 0 rfl rfl, pa_m3 1 rfl rfl, pa_m3 2 rfl rfl, pa_m1 8 rfl rfl, pa_m3 3 rfl rfl⟩
theorem cv_RX5_92 : pa_CV RX5 RX5 92 yX5_takeOneOf cX5_takeOneOf 3 (some .int) 1 := ⟨⟨rfl, by decide +kernel, by decide +kernel, by decide +kernel⟩, pa_m2 236 rfl rfl, pa_m2 238 rfl rfl, pa_ms1 13 rfl rfl, pa_m1 3 rfl rfl, pa_m2 239 rfl rfl⟩
theorem cv_RX5_61 : pa_CV RX5 RX5 61 yX5_takeNumber cX5_takeNumber 4 (some .int) 0 := ⟨⟨rfl, by decide +kernel, by decide +kernel, by decide +kernel⟩, pa_m2 206 rfl rfl, pa_m2 208 rfl rfl, pa_ms1 7 rfl rfl, pa_m1 3 rfl rfl, pa_m2 209 rfl rfl⟩
theorem cv_RX5_77 : pa_CV RX5 RX5 77 yX5_emit cX5_emit 3 (some .boolean) 2 := ⟨⟨rfl, by decide +kernel, by decide +kernel, by decide +kernel⟩, pa_m2 227 rfl rfl, pa_m2 229 rfl rfl, pa_ms1 11 rfl rfl, pa_m1 3 rfl rfl, pa_m2 230 rfl rfl⟩
theorem cv_RX5_81 : pa_CV RX5 RX5 81 yX5_isBoth cX5_isBoth 3 (some .boolean) 1 := ⟨⟨rfl, by decide +kernel, by decide +kernel, by decide +kernel⟩, pa_m2 219 rfl rfl, pa_m2 221 rfl rfl, pa_ms1 9 rfl rfl, pa_m1 3 rfl rfl, pa_m2 222 rfl rfl⟩
theorem cv_RX5_42 : pa_CV RX5 RX5 42 yX5_take cX5_take 2 (some .boolean) 1 := ⟨⟨rfl, by decide +kernel, by decide +kernel, by decide +kernel⟩, pa_m2 158 rfl rfl, pa_m2 160 rfl rfl, pa_ms1 5 rfl rfl, pa_m1 3 rfl rfl, pa_m2 161 rfl rfl⟩
theorem cv_RX5_84 : pa_CV RX5 RX5 84 yX5_isOne cX5_isOne 2 (some .boolean) 1 := ⟨⟨rfl, by decide +kernel, by decide +kernel, by decide +kernel⟩, pa_m2 223 rfl rfl, pa_m2 225 rfl rfl, pa_ms1 10 rfl rfl, pa_m1 3 rfl rfl, pa_m2 226 rfl rfl⟩
theorem cv_RX5_87 : pa_CV RX5 RX5 87 yX5_isTest cX5_isTest 4 (some .boolean) 0 := ⟨⟨rfl, by decide +kernel, by decide +kernel, by decide +kernel⟩, pa_m2 231 rfl rfl, pa_m2 233 rfl rfl, pa_ms1 12 rfl rfl, pa_m1 3 rfl rfl, pa_m2 234 rfl rfl⟩
theorem cv_RX5_73 : pa_CV RX5 RX5 73 yX5_isEither cX5_isEither 3 (some .boolean) 1 := ⟨⟨rfl, by decide +kernel, by decide +kernel, by decide +kernel⟩, pa_m2 215 rfl rfl, pa_m2 217 rfl rfl, pa_ms1 8 rfl rfl, pa_m1 3 rfl rfl, pa_m2 218 rfl rfl⟩
theorem cs_RJ0_1059 : pa_CS RJ0 1059 yJ3_checkIndex_8e157 cJ3_checkIndex_8e157 3 (some .int) 3 := ⟨⟨by decide +kernel, by decide +kernel, by decide +kernel⟩, pa_m2 184 rfl rfl, pa_m2 185 rfl rfl, pa_m1 12 rfl rfl, pa_m2 186 rfl rfl⟩
theorem cs_RJ1_9 : pa_CS RJ1 9 yJ0_checkIndex_df160 cJ0_checkIndex_df160 2 none 2 := ⟨⟨by decide +kernel, by decide +kernel, by decide +kernel⟩, pa_m2 179 rfl rfl, pa_m2 180 rfl rfl, pa_m1 8 rfl rfl, pa_m2 181 rfl rfl⟩
theorem cs_RJ0_495 : pa_CS RJ0 495 yJ1_charAt_3b067 cJ1_charAt_3b067 2 (some .char) 2 := ⟨⟨by decide +kernel, by decide +kernel, by decide +kernel⟩, pa_m2 176 rfl rfl, pa_m2 177 rfl rfl, pa_m1 11 rfl rfl, pa_m2 178 rfl rfl⟩
theorem cv_RX5_98 : pa_CV RX5 RJ0 98 yJ0_length_8abf5 cJ0_length_8abf5 1 (some .int) 0 := ⟨⟨rfl, by decide +kernel, by decide +kernel, by decide +kernel⟩, pa_m2 167 rfl rfl, pa_m1 133 rfl rfl, pa_m1 134 rfl rfl, pa_m1 8 rfl rfl, pa_m1 135 rfl rfl⟩
theorem cv_RX5_103 : pa_CV RX5 RJ0 103 yJ0_charAt_5068e cJ0_charAt_5068e 2 (some .char) 1 := ⟨⟨rfl, by decide +kernel, by decide +kernel, by decide +kernel⟩, pa_m2 168 rfl rfl, pa_m2 169 rfl rfl, pa_m2 170 rfl rfl, pa_m1 8 rfl rfl, pa_m2 171 rfl rfl⟩
theorem cv_RX5_57 : pa_CV RX5 RX5 57 yX5_takeAll cX5_takeAll 3 (some .boolean) 1 := ⟨⟨rfl, by decide +kernel, by decide +kernel, by decide +kernel⟩, pa_m2 163 rfl rfl, pa_m2 165 rfl rfl, pa_ms1 6 rfl rfl, pa_m1 3 rfl rfl, pa_m2 166 rfl rfl⟩
theorem cv_RX5_38 : pa_CV RX5 RX5 38 yX5_isClause cX5_isClause 3 (some .boolean) 0 := ⟨⟨rfl, by decide +kernel, by decide +kernel, by decide +kernel⟩, pa_m2 154 rfl rfl, pa_m2 156 rfl rfl, pa_ms1 4 rfl rfl, pa_m1 3 rfl rfl, pa_m2 157 rfl rfl⟩
def wb_X5_isFull_0 (u0 : pa_S) (post : Int32 → Prop) : Prop :=
  (if (pa_I u0 10 0 3) < 100 then post 0 else post 1)
set_option maxRecDepth 100000 in
set_option maxHeartbeats 4000000 in
theorem tb_X5_isFull_0 {p : Program} {l : Launch} {e : Env} {s : State} {m : MethodId} {args : Array Value} {below : List Frame} {meth : Method} {c : Code} {A : Nat → Prop} {D : va_G} {g : pa_G} {q : Nat → Nat → Nat} {u0 : pa_S} {post : Int32 → Prop} (hE : pa_Fx p s m args meth c A D g 1 cX5_isFull RX5) (hr : meth.sig.returnType = (some .boolean)) (hw : wb_X5_isFull_0 u0 post) : pa_At p l e (pa_rm 2) s m args below meth c (MQ below (pa_Qc g D q (fun r => some (.int r)) (fun r u => u = u0 ∧ post r) A) args s 0 0 A) A D g 1 0 0 q u0 0 [(0, .ref (q 10 0))] [] := by
  refine pa_aload_n hE dX5_isFull_0 rfl 0 rfl ?_
  refine pg_10_3 hE (pa_m1 49 rfl rfl) dX5_isFull_1 ?_
  refine pa_aload_n hE dX5_isFull_4 rfl 0 rfl ?_
  refine pg_10_0 hE (pa_m1 46 rfl rfl) dX5_isFull_5 ?_
  refine pn_11 hE (v := 100) (by decide) dX5_isFull_8 ?_
  refine pa_icmp_lt hE dX5_isFull_9 (tgt := 16) (by decide) (fun h1 => ?_) (fun h1 => ?_)
  · have hw := Eq.mp (if_pos h1) hw
    refine pa_iconst hE dX5_isFull_16 (v := 0) (by decide) ?_
    exact pa_zret hE hr (by decide) ⟨rfl, hw⟩ rfl dX5_isFull_17
  · have hw := Eq.mp (if_neg h1) hw
    refine pa_iconst hE dX5_isFull_12 (v := 1) (by decide) ?_
    refine pa_goto hE dX5_isFull_13 (tgt := 17) (by decide) ?_
    exact pa_zret hE hr (by decide) ⟨rfl, hw⟩ rfl dX5_isFull_17
def wp_X5_isFull (u0 : pa_S) (post : Int32 → Prop) : Prop := wb_X5_isFull_0 u0 post
theorem ct_X5_isFull (l : Launch) (g : pa_G) (D : va_G) (q : Nat → Nat → Nat) (u0 : pa_S) (post : Int32 → Prop)  (hw : wp_X5_isFull u0 post) : pa_Ct l yX5_isFull cX5_isFull 1 (some .boolean) 2 g D q u0 [.ref (q 10 0)] (fun r => some (.int r)) (fun r u => u = u0 ∧ post r) := pa_met rfl rfl (Nat.le_of_ble_eq_true rfl) rfl (fun p e s m args below meth c A hE hr => tb_X5_isFull_0 hE hr  hw)
def wb_X5_size_0 (u0 : pa_S) (post : Int32 → Prop) : Prop :=
  post (pa_I u0 10 0 3)
set_option maxRecDepth 100000 in
set_option maxHeartbeats 4000000 in
theorem tb_X5_size_0 {p : Program} {l : Launch} {e : Env} {s : State} {m : MethodId} {args : Array Value} {below : List Frame} {meth : Method} {c : Code} {A : Nat → Prop} {D : va_G} {g : pa_G} {q : Nat → Nat → Nat} {u0 : pa_S} {post : Int32 → Prop} (hE : pa_Fx p s m args meth c A D g 1 cX5_size RX5) (hr : meth.sig.returnType = (some .int)) (hw : wb_X5_size_0 u0 post) : pa_At p l e (pa_rm 2) s m args below meth c (MQ below (pa_Qc g D q (fun r => some (.int r)) (fun r u => u = u0 ∧ post r) A) args s 0 0 A) A D g 1 0 0 q u0 0 [(0, .ref (q 10 0))] [] := by
  refine pa_aload_n hE dX5_size_0 rfl 0 rfl ?_
  refine pg_10_3 hE (pa_m1 49 rfl rfl) dX5_size_1 ?_
  exact pa_iret hE hr ⟨rfl, hw⟩ rfl dX5_size_4
def wp_X5_size (u0 : pa_S) (post : Int32 → Prop) : Prop := wb_X5_size_0 u0 post
theorem ct_X5_size (l : Launch) (g : pa_G) (D : va_G) (q : Nat → Nat → Nat) (u0 : pa_S) (post : Int32 → Prop)  (hw : wp_X5_size u0 post) : pa_Ct l yX5_size cX5_size 1 (some .int) 2 g D q u0 [.ref (q 10 0)] (fun r => some (.int r)) (fun r u => u = u0 ∧ post r) := pa_met rfl rfl (Nat.le_of_ble_eq_true rfl) rfl (fun p e s m args below meth c A hE hr => tb_X5_size_0 hE hr  hw)
def wb_X5_place_0 (u0 : pa_S) (post : Int32 → Prop) : Prop :=
  post (pa_I u0 10 0 4)
set_option maxRecDepth 100000 in
set_option maxHeartbeats 4000000 in
theorem tb_X5_place_0 {p : Program} {l : Launch} {e : Env} {s : State} {m : MethodId} {args : Array Value} {below : List Frame} {meth : Method} {c : Code} {A : Nat → Prop} {D : va_G} {g : pa_G} {q : Nat → Nat → Nat} {u0 : pa_S} {post : Int32 → Prop} (hE : pa_Fx p s m args meth c A D g 1 cX5_place RX5) (hr : meth.sig.returnType = (some .int)) (hw : wb_X5_place_0 u0 post) : pa_At p l e (pa_rm 2) s m args below meth c (MQ below (pa_Qc g D q (fun r => some (.int r)) (fun r u => u = u0 ∧ post r) A) args s 0 0 A) A D g 1 0 0 q u0 0 [(0, .ref (q 10 0))] [] := by
  refine pa_aload_n hE dX5_place_0 rfl 0 rfl ?_
  refine pg_10_4 hE (pa_m1 50 rfl rfl) dX5_place_1 ?_
  exact pa_iret hE hr ⟨rfl, hw⟩ rfl dX5_place_4
def wp_X5_place (u0 : pa_S) (post : Int32 → Prop) : Prop := wb_X5_place_0 u0 post
theorem ct_X5_place (l : Launch) (g : pa_G) (D : va_G) (q : Nat → Nat → Nat) (u0 : pa_S) (post : Int32 → Prop)  (hw : wp_X5_place u0 post) : pa_Ct l yX5_place cX5_place 1 (some .int) 2 g D q u0 [.ref (q 10 0)] (fun r => some (.int r)) (fun r u => u = u0 ∧ post r) := pa_met rfl rfl (Nat.le_of_ble_eq_true rfl) rfl (fun p e s m args below meth c A hE hr => tb_X5_place_0 hE hr  hw)
def wb_X5_clear_0 (u0 : pa_S) (post : pa_S → Prop) : Prop :=
  ∀ u1 : pa_S, u1 = pa_sI u0 10 0 3 0 → post u1
set_option maxRecDepth 100000 in
set_option maxHeartbeats 4000000 in
theorem tb_X5_clear_0 {p : Program} {l : Launch} {e : Env} {s : State} {m : MethodId} {args : Array Value} {below : List Frame} {meth : Method} {c : Code} {A : Nat → Prop} {D : va_G} {g : pa_G} {q : Nat → Nat → Nat} {u0 : pa_S} {post : pa_S → Prop} (hE : pa_Fx p s m args meth c A D g 1 cX5_clear RX5) (hr : meth.sig.returnType = none) (hw : wb_X5_clear_0 u0 post) : pa_At p l e (pa_rm 2) s m args below meth c (MQ below (pa_Qc g D q (fun (_ : Unit) => none) (fun (_ : Unit) u => post u) A) args s 0 0 A) A D g 1 0 0 q u0 0 [(0, .ref (q 10 0))] [] := by
  refine pa_aload_n hE dX5_clear_0 rfl 0 rfl ?_
  refine pa_iconst hE dX5_clear_1 (v := 0) (by decide) ?_
  refine pp_10_3 hE (pa_m1 49 rfl rfl) dX5_clear_2 (fun u1 eu1 => ?_)
  have hw := hw u1 eu1
  exact pa_vret (r := ()) hE hr hw rfl dX5_clear_5
def wp_X5_clear (u0 : pa_S) (post : pa_S → Prop) : Prop := wb_X5_clear_0 u0 post
theorem ct_X5_clear (l : Launch) (g : pa_G) (D : va_G) (q : Nat → Nat → Nat) (u0 : pa_S) (post : pa_S → Prop)  (hw : wp_X5_clear u0 post) : pa_Ct l yX5_clear cX5_clear 1 none 2 g D q u0 [.ref (q 10 0)] (fun (_ : Unit) => none) (fun (_ : Unit) u => post u) := pa_met rfl rfl (Nat.le_of_ble_eq_true rfl) rfl (fun p e s m args below meth c A hE hr => tb_X5_clear_0 hE hr  hw)
def wb_X5_add_0 (u0 : pa_S) (x1 : Int32) (post : Int32 → pa_S → Prop) : Prop :=
  (if 100 ≤ (pa_I u0 10 0 3) then post (pa_I u0 10 0 3) u0 else (vp_in (pa_I u0 10 0 3) 100) ∧ ∀ u3 : pa_S, u3 = pa_sA u0 11 0 (upd (pa_A u0 11 0) (pa_I u0 10 0 3).toNatClampNeg (vp_nar .byte (x1.toInt8.toInt32))) → ∀ u4 : pa_S, u4 = pa_sI u3 10 0 3 ((pa_I u3 10 0 3) + 1) → post (pa_I u4 10 0 3) u4)
set_option maxRecDepth 100000 in
set_option maxHeartbeats 4000000 in
theorem tb_X5_add_0 {p : Program} {l : Launch} {e : Env} {s : State} {m : MethodId} {args : Array Value} {below : List Frame} {meth : Method} {c : Code} {A : Nat → Prop} {D : va_G} {g : pa_G} {q : Nat → Nat → Nat} {u0 : pa_S} {x1 : Int32} {post : Int32 → pa_S → Prop} (hE : pa_Fx p s m args meth c A D g 2 cX5_add RX5) (hr : meth.sig.returnType = (some .int)) (hw : wb_X5_add_0 u0 x1 post) : pa_At p l e (pa_rm 2) s m args below meth c (MQ below (pa_Qc g D q (fun r => some (.int r)) post A) args s 0 0 A) A D g 2 0 0 q u0 0 [(0, .ref (q 10 0)), (1, .int x1)] [] := by
  refine pa_aload_n hE dX5_add_0 rfl 0 rfl ?_
  refine pg_10_3 hE (pa_m1 49 rfl rfl) dX5_add_1 ?_
  refine pa_aload_n hE dX5_add_4 rfl 0 rfl ?_
  refine pg_10_0 hE (pa_m1 46 rfl rfl) dX5_add_5 ?_
  refine pn_11 hE (v := 100) (by decide) dX5_add_8 ?_
  refine pa_icmp_ge hE dX5_add_9 (tgt := 33) (by decide) (fun h1 => ?_) (fun h1 => ?_)
  · have hw := Eq.mp (if_pos h1) hw
    refine pa_aload_n hE dX5_add_33 rfl 0 rfl ?_
    refine pg_10_3 hE (pa_m1 49 rfl rfl) dX5_add_34 ?_
    exact pa_iret hE hr hw rfl dX5_add_37
  · have hw := Eq.mp (if_neg h1) hw
    refine pa_aload_n hE dX5_add_12 rfl 0 rfl ?_
    refine pg_10_0 hE (pa_m1 46 rfl rfl) dX5_add_13 ?_
    refine pa_aload_n hE dX5_add_16 rfl 0 rfl ?_
    refine pg_10_3 hE (pa_m1 49 rfl rfl) dX5_add_17 ?_
    refine pa_iload_n hE dX5_add_20 rfl 1 rfl ?_
    refine pa_i2b hE dX5_add_21 ?_
    obtain ⟨h2, hw⟩ := hw
    refine ps_11 hE h2 dX5_add_22 (fun u3 eu3 => ?_)
    have hw := hw u3 eu3
    refine pa_aload_n hE dX5_add_23 rfl 0 rfl ?_
    refine pa_dup hE dX5_add_24 rfl ?_
    refine pg_10_3 hE (pa_m1 49 rfl rfl) dX5_add_25 ?_
    refine pa_iconst hE dX5_add_28 (v := 1) (by decide) ?_
    refine pa_iadd hE dX5_add_29 ?_
    refine pp_10_3 hE (pa_m1 49 rfl rfl) dX5_add_30 (fun u4 eu4 => ?_)
    have hw := hw u4 eu4
    refine pa_aload_n hE dX5_add_33 rfl 0 rfl ?_
    refine pg_10_3 hE (pa_m1 49 rfl rfl) dX5_add_34 ?_
    exact pa_iret hE hr hw rfl dX5_add_37
def wp_X5_add (u0 : pa_S) (x1 : Int32) (post : Int32 → pa_S → Prop) : Prop := wb_X5_add_0 u0 x1 post
theorem ct_X5_add (l : Launch) (g : pa_G) (D : va_G) (q : Nat → Nat → Nat) (u0 : pa_S) (x1 : Int32) (post : Int32 → pa_S → Prop)  (hw : wp_X5_add u0 x1 post) : pa_Ct l yX5_add cX5_add 2 (some .int) 2 g D q u0 [.ref (q 10 0), .int x1] (fun r => some (.int r)) post := pa_met rfl rfl (Nat.le_of_ble_eq_true rfl) rfl (fun p e s m args below meth c A hE hr => tb_X5_add_0 hE hr  hw)
def wb_X5_emit_0 (u0 : pa_S) (x1 : Int32) (x2 : Int32) (post : Int32 → pa_S → Prop) : Prop :=
  (if 100 ≤ (pa_I u0 10 0 5) then post 0 u0 else (if (pa_I u0 10 0 5) < 100 then (vp_in (pa_I u0 10 0 5) 100) ∧ ∀ u4 : pa_S, u4 = pa_sA u0 12 0 (upd (pa_A u0 12 0) (pa_I u0 10 0 5).toNatClampNeg x1) → (vp_in (pa_I u4 10 0 5) 100) ∧ ∀ u6 : pa_S, u6 = pa_sA u4 13 0 (upd (pa_A u4 13 0) (pa_I u4 10 0 5).toNatClampNeg x2) → ∀ u7 : pa_S, u7 = pa_sI u6 10 0 5 ((pa_I u6 10 0 5) + 1) → post 1 u7 else post 0 u0))
set_option maxRecDepth 100000 in
set_option maxHeartbeats 4000000 in
theorem tb_X5_emit_0 {p : Program} {l : Launch} {e : Env} {s : State} {m : MethodId} {args : Array Value} {below : List Frame} {meth : Method} {c : Code} {A : Nat → Prop} {D : va_G} {g : pa_G} {q : Nat → Nat → Nat} {u0 : pa_S} {x1 : Int32} {x2 : Int32} {post : Int32 → pa_S → Prop} (hE : pa_Fx p s m args meth c A D g 3 cX5_emit RX5) (hr : meth.sig.returnType = (some .boolean)) (hw : wb_X5_emit_0 u0 x1 x2 post) : pa_At p l e (pa_rm 2) s m args below meth c (MQ below (pa_Qc g D q (fun r => some (.int r)) post A) args s 0 0 A) A D g 3 0 0 q u0 0 [(0, .ref (q 10 0)), (1, .int x1), (2, .int x2)] [] := by
  refine pa_aload_n hE dX5_emit_0 rfl 0 rfl ?_
  refine pg_10_5 hE (pa_m1 51 rfl rfl) dX5_emit_1 ?_
  refine pa_aload_n hE dX5_emit_4 rfl 0 rfl ?_
  refine pg_10_1 hE (pa_m1 47 rfl rfl) dX5_emit_5 ?_
  refine pn_12 hE (v := 100) (by decide) dX5_emit_8 ?_
  refine pa_icmp_ge hE dX5_emit_9 (tgt := 24) (by decide) (fun h1 => ?_) (fun h1 => ?_)
  · have hw := Eq.mp (if_pos h1) hw
    refine pa_iconst hE dX5_emit_24 (v := 0) (by decide) ?_
    exact pa_zret hE hr (by decide) hw rfl dX5_emit_25
  · have hw := Eq.mp (if_neg h1) hw
    refine pa_aload_n hE dX5_emit_12 rfl 0 rfl ?_
    refine pg_10_5 hE (pa_m1 51 rfl rfl) dX5_emit_13 ?_
    refine pa_aload_n hE dX5_emit_16 rfl 0 rfl ?_
    refine pg_10_2 hE (pa_m1 48 rfl rfl) dX5_emit_17 ?_
    refine pn_13 hE (v := 100) (by decide) dX5_emit_20 ?_
    refine pa_icmp_lt hE dX5_emit_21 (tgt := 26) (by decide) (fun h2 => ?_) (fun h2 => ?_)
    · have hw := Eq.mp (if_pos h2) hw
      refine pa_aload_n hE dX5_emit_26 rfl 0 rfl ?_
      refine pg_10_1 hE (pa_m1 47 rfl rfl) dX5_emit_27 ?_
      refine pa_aload_n hE dX5_emit_30 rfl 0 rfl ?_
      refine pg_10_5 hE (pa_m1 51 rfl rfl) dX5_emit_31 ?_
      refine pa_iload_n hE dX5_emit_34 rfl 1 rfl ?_
      obtain ⟨h3, hw⟩ := hw
      refine ps_12 hE h3 dX5_emit_35 (fun u4 eu4 => ?_)
      have hw := hw u4 eu4
      refine pa_aload_n hE dX5_emit_36 rfl 0 rfl ?_
      refine pg_10_2 hE (pa_m1 48 rfl rfl) dX5_emit_37 ?_
      refine pa_aload_n hE dX5_emit_40 rfl 0 rfl ?_
      refine pg_10_5 hE (pa_m1 51 rfl rfl) dX5_emit_41 ?_
      refine pa_iload_n hE dX5_emit_44 rfl 2 rfl ?_
      obtain ⟨h5, hw⟩ := hw
      refine ps_13 hE h5 dX5_emit_45 (fun u6 eu6 => ?_)
      have hw := hw u6 eu6
      refine pa_aload_n hE dX5_emit_46 rfl 0 rfl ?_
      refine pa_dup hE dX5_emit_47 rfl ?_
      refine pg_10_5 hE (pa_m1 51 rfl rfl) dX5_emit_48 ?_
      refine pa_iconst hE dX5_emit_51 (v := 1) (by decide) ?_
      refine pa_iadd hE dX5_emit_52 ?_
      refine pp_10_5 hE (pa_m1 51 rfl rfl) dX5_emit_53 (fun u7 eu7 => ?_)
      have hw := hw u7 eu7
      refine pa_iconst hE dX5_emit_56 (v := 1) (by decide) ?_
      exact pa_zret hE hr (by decide) hw rfl dX5_emit_57
    · have hw := Eq.mp (if_neg h2) hw
      refine pa_iconst hE dX5_emit_24 (v := 0) (by decide) ?_
      exact pa_zret hE hr (by decide) hw rfl dX5_emit_25
def wp_X5_emit (u0 : pa_S) (x1 : Int32) (x2 : Int32) (post : Int32 → pa_S → Prop) : Prop := wb_X5_emit_0 u0 x1 x2 post
theorem ct_X5_emit (l : Launch) (g : pa_G) (D : va_G) (q : Nat → Nat → Nat) (u0 : pa_S) (x1 : Int32) (x2 : Int32) (post : Int32 → pa_S → Prop)  (hw : wp_X5_emit u0 x1 x2 post) : pa_Ct l yX5_emit cX5_emit 3 (some .boolean) 2 g D q u0 [.ref (q 10 0), .int x1, .int x2] (fun r => some (.int r)) post := pa_met rfl rfl (Nat.le_of_ble_eq_true rfl) rfl (fun p e s m args below meth c A hE hr => tb_X5_emit_0 hE hr  hw)
def wb_X5_take_0 (u0 : pa_S) (x1 : Int32) (post : Int32 → pa_S → Prop) : Prop :=
  (if (pa_I u0 10 0 4) < 0 then post 0 u0 else (if (pa_I u0 10 0 3) ≤ (pa_I u0 10 0 4) then post 0 u0 else (if 100 ≤ (pa_I u0 10 0 4) then post 0 u0 else (vp_in (pa_I u0 10 0 4) 100) ∧ (if (pa_A u0 11 0 (pa_I u0 10 0 4).toNatClampNeg) = x1 then ∀ u6 : pa_S, u6 = pa_sI u0 10 0 4 ((pa_I u0 10 0 4) + 1) → post 1 u6 else post 0 u0))))
set_option maxRecDepth 100000 in
set_option maxHeartbeats 4000000 in
theorem tb_X5_take_0 {p : Program} {l : Launch} {e : Env} {s : State} {m : MethodId} {args : Array Value} {below : List Frame} {meth : Method} {c : Code} {A : Nat → Prop} {D : va_G} {g : pa_G} {q : Nat → Nat → Nat} {u0 : pa_S} {x1 : Int32} {post : Int32 → pa_S → Prop} (hE : pa_Fx p s m args meth c A D g 2 cX5_take RX5) (hr : meth.sig.returnType = (some .boolean)) (hw : wb_X5_take_0 u0 x1 post) : pa_At p l e (pa_rm 2) s m args below meth c (MQ below (pa_Qc g D q (fun r => some (.int r)) post A) args s 0 0 A) A D g 2 0 0 q u0 0 [(0, .ref (q 10 0)), (1, .int x1)] [] := by
  refine pa_aload_n hE dX5_take_0 rfl 0 rfl ?_
  refine pg_10_4 hE (pa_m1 50 rfl rfl) dX5_take_1 ?_
  refine pa_if_lt hE dX5_take_4 (tgt := 43) (by decide) (fun h1 => ?_) (fun h1 => ?_)
  · have hw := Eq.mp (if_pos h1) hw
    refine pa_iconst hE dX5_take_43 (v := 0) (by decide) ?_
    exact pa_zret hE hr (by decide) hw rfl dX5_take_44
  · have hw := Eq.mp (if_neg h1) hw
    refine pa_aload_n hE dX5_take_7 rfl 0 rfl ?_
    refine pg_10_4 hE (pa_m1 50 rfl rfl) dX5_take_8 ?_
    refine pa_aload_n hE dX5_take_11 rfl 0 rfl ?_
    refine pg_10_3 hE (pa_m1 49 rfl rfl) dX5_take_12 ?_
    refine pa_icmp_ge hE dX5_take_15 (tgt := 43) (by decide) (fun h2 => ?_) (fun h2 => ?_)
    · have hw := Eq.mp (if_pos h2) hw
      refine pa_iconst hE dX5_take_43 (v := 0) (by decide) ?_
      exact pa_zret hE hr (by decide) hw rfl dX5_take_44
    · have hw := Eq.mp (if_neg h2) hw
      refine pa_aload_n hE dX5_take_18 rfl 0 rfl ?_
      refine pg_10_4 hE (pa_m1 50 rfl rfl) dX5_take_19 ?_
      refine pa_aload_n hE dX5_take_22 rfl 0 rfl ?_
      refine pg_10_0 hE (pa_m1 46 rfl rfl) dX5_take_23 ?_
      refine pn_11 hE (v := 100) (by decide) dX5_take_26 ?_
      refine pa_icmp_ge hE dX5_take_27 (tgt := 43) (by decide) (fun h3 => ?_) (fun h3 => ?_)
      · have hw := Eq.mp (if_pos h3) hw
        refine pa_iconst hE dX5_take_43 (v := 0) (by decide) ?_
        exact pa_zret hE hr (by decide) hw rfl dX5_take_44
      · have hw := Eq.mp (if_neg h3) hw
        refine pa_aload_n hE dX5_take_30 rfl 0 rfl ?_
        refine pg_10_0 hE (pa_m1 46 rfl rfl) dX5_take_31 ?_
        refine pa_aload_n hE dX5_take_34 rfl 0 rfl ?_
        refine pg_10_4 hE (pa_m1 50 rfl rfl) dX5_take_35 ?_
        obtain ⟨h4, hw⟩ := hw
        refine pl_11 hE h4 dX5_take_38 ?_
        refine pa_iload_n hE dX5_take_39 rfl 1 rfl ?_
        refine pa_icmp_eq hE dX5_take_40 (tgt := 45) (by decide) (fun h5 => ?_) (fun h5 => ?_)
        · have hw := Eq.mp (if_pos h5) hw
          refine pa_aload_n hE dX5_take_45 rfl 0 rfl ?_
          refine pa_dup hE dX5_take_46 rfl ?_
          refine pg_10_4 hE (pa_m1 50 rfl rfl) dX5_take_47 ?_
          refine pa_iconst hE dX5_take_50 (v := 1) (by decide) ?_
          refine pa_iadd hE dX5_take_51 ?_
          refine pp_10_4 hE (pa_m1 50 rfl rfl) dX5_take_52 (fun u6 eu6 => ?_)
          have hw := hw u6 eu6
          refine pa_iconst hE dX5_take_55 (v := 1) (by decide) ?_
          exact pa_zret hE hr (by decide) hw rfl dX5_take_56
        · have hw := Eq.mp (if_neg h5) hw
          refine pa_iconst hE dX5_take_43 (v := 0) (by decide) ?_
          exact pa_zret hE hr (by decide) hw rfl dX5_take_44
def wp_X5_take (u0 : pa_S) (x1 : Int32) (post : Int32 → pa_S → Prop) : Prop := wb_X5_take_0 u0 x1 post
theorem ct_X5_take (l : Launch) (g : pa_G) (D : va_G) (q : Nat → Nat → Nat) (u0 : pa_S) (x1 : Int32) (post : Int32 → pa_S → Prop)  (hw : wp_X5_take u0 x1 post) : pa_Ct l yX5_take cX5_take 2 (some .boolean) 2 g D q u0 [.ref (q 10 0), .int x1] (fun r => some (.int r)) post := pa_met rfl rfl (Nat.le_of_ble_eq_true rfl) rfl (fun p e s m args below meth c A hE hr => tb_X5_take_0 hE hr  hw)
def wb_X5_takeNumber_4 (k4 : pa_S → Int32 → Int32 → Prop) (u0 : pa_S) (x1 : Int32) (x2 : Int32) (post : Int32 → pa_S → Prop) : Prop :=
  (if 2 ≤ x2 then post x1 u0 else (if (pa_I u0 10 0 4) < 0 then post x1 u0 else (if (pa_I u0 10 0 3) ≤ (pa_I u0 10 0 4) then post x1 u0 else (if 100 ≤ (pa_I u0 10 0 4) then post x1 u0 else (vp_in (pa_I u0 10 0 4) 100) ∧ ∀ v6 : Int32, v6 = ((pa_A u0 11 0 (pa_I u0 10 0 4).toNatClampNeg) - 48) → (if v6 < 0 then post x1 u0 else (if v6 ≤ 9 then ∀ v9 : Int32, v9 = (((pa_max 0 x1) * 10) + v6) → ∀ u10 : pa_S, u10 = pa_sI u0 10 0 4 ((pa_I u0 10 0 4) + 1) → ∀ v11 : Int32, v11 = x2 + 1 → k4 u10 v9 v11 else post x1 u0))))))
set_option maxRecDepth 100000 in
set_option maxHeartbeats 4000000 in
theorem tb_X5_takeNumber_4 {p : Program} {l : Launch} {e : Env} {s : State} {m : MethodId} {args : Array Value} {below : List Frame} {meth : Method} {c : Code} {A : Nat → Prop} {D : va_G} {g : pa_G} {q : Nat → Nat → Nat} {k4 : pa_S → Int32 → Int32 → Prop} {u0 : pa_S} {x1 : Int32} {x2 : Int32} {post : Int32 → pa_S → Prop} (hE : pa_Fx p s m args meth c A D g 4 cX5_takeNumber RX5) (hr : meth.sig.returnType = (some .int)) (hk4 : ∀ (u : pa_S)  (x1 : Int32) (x2 : Int32), k4 u x1 x2 → pa_At p l e (pa_rm 2) s m args below meth c (MQ below (pa_Qc g D q (fun r => some (.int r)) post A) args s 0 0 A) A D g 4 0 0 q u 4 [(0, .ref (q 10 0)), (1, .int x1), (2, .int x2)] []) (hw : wb_X5_takeNumber_4 k4 u0 x1 x2 post) : pa_At p l e (pa_rm 2) s m args below meth c (MQ below (pa_Qc g D q (fun r => some (.int r)) post A) args s 0 0 A) A D g 4 0 0 q u0 4 [(0, .ref (q 10 0)), (1, .int x1), (2, .int x2)] [] := by
  refine pa_iload_n hE dX5_takeNumber_4 rfl 2 rfl ?_
  refine pa_iconst hE dX5_takeNumber_5 (v := 2) (by decide) ?_
  refine pa_icmp_ge hE dX5_takeNumber_6 (tgt := 92) (by decide) (fun h1 => ?_) (fun h1 => ?_)
  · have hw := Eq.mp (if_pos h1) hw
    refine pa_iload_n hE dX5_takeNumber_92 rfl 1 rfl ?_
    exact pa_iret hE hr hw rfl dX5_takeNumber_93
  · have hw := Eq.mp (if_neg h1) hw
    refine pa_aload_n hE dX5_takeNumber_9 rfl 0 rfl ?_
    refine pg_10_4 hE (pa_m1 50 rfl rfl) dX5_takeNumber_10 ?_
    refine pa_if_lt hE dX5_takeNumber_13 (tgt := 92) (by decide) (fun h2 => ?_) (fun h2 => ?_)
    · have hw := Eq.mp (if_pos h2) hw
      refine pa_iload_n hE dX5_takeNumber_92 rfl 1 rfl ?_
      exact pa_iret hE hr hw rfl dX5_takeNumber_93
    · have hw := Eq.mp (if_neg h2) hw
      refine pa_aload_n hE dX5_takeNumber_16 rfl 0 rfl ?_
      refine pg_10_4 hE (pa_m1 50 rfl rfl) dX5_takeNumber_17 ?_
      refine pa_aload_n hE dX5_takeNumber_20 rfl 0 rfl ?_
      refine pg_10_3 hE (pa_m1 49 rfl rfl) dX5_takeNumber_21 ?_
      refine pa_icmp_ge hE dX5_takeNumber_24 (tgt := 92) (by decide) (fun h3 => ?_) (fun h3 => ?_)
      · have hw := Eq.mp (if_pos h3) hw
        refine pa_iload_n hE dX5_takeNumber_92 rfl 1 rfl ?_
        exact pa_iret hE hr hw rfl dX5_takeNumber_93
      · have hw := Eq.mp (if_neg h3) hw
        refine pa_aload_n hE dX5_takeNumber_27 rfl 0 rfl ?_
        refine pg_10_4 hE (pa_m1 50 rfl rfl) dX5_takeNumber_28 ?_
        refine pa_aload_n hE dX5_takeNumber_31 rfl 0 rfl ?_
        refine pg_10_0 hE (pa_m1 46 rfl rfl) dX5_takeNumber_32 ?_
        refine pn_11 hE (v := 100) (by decide) dX5_takeNumber_35 ?_
        refine pa_icmp_ge hE dX5_takeNumber_36 (tgt := 92) (by decide) (fun h4 => ?_) (fun h4 => ?_)
        · have hw := Eq.mp (if_pos h4) hw
          refine pa_iload_n hE dX5_takeNumber_92 rfl 1 rfl ?_
          exact pa_iret hE hr hw rfl dX5_takeNumber_93
        · have hw := Eq.mp (if_neg h4) hw
          refine pa_aload_n hE dX5_takeNumber_39 rfl 0 rfl ?_
          refine pg_10_0 hE (pa_m1 46 rfl rfl) dX5_takeNumber_40 ?_
          refine pa_aload_n hE dX5_takeNumber_43 rfl 0 rfl ?_
          refine pg_10_4 hE (pa_m1 50 rfl rfl) dX5_takeNumber_44 ?_
          obtain ⟨h5, hw⟩ := hw
          refine pl_11 hE h5 dX5_takeNumber_47 ?_
          refine pa_bipush hE dX5_takeNumber_48 (v := 48) (by decide) ?_
          refine pa_isub hE dX5_takeNumber_50 ?_
          refine pa_namei (fun v6 ev6 => ?_)
          have hw := hw v6 ev6
          refine pa_istore_n hE dX5_takeNumber_51 rfl (by decide) (lvr := [(0, .ref (q 10 0)), (1, .int x1), (2, .int x2)]) rfl ?_
          refine pa_iload_n hE dX5_takeNumber_52 rfl 0 rfl ?_
          refine pa_if_lt hE dX5_takeNumber_53 (tgt := 92) (by decide) (fun h7 => ?_) (fun h7 => ?_)
          · have hw := Eq.mp (if_pos h7) hw
            refine pa_iload_n hE dX5_takeNumber_92 rfl 2 rfl ?_
            exact pa_iret hE hr hw rfl dX5_takeNumber_93
          · have hw := Eq.mp (if_neg h7) hw
            refine pa_iload_n hE dX5_takeNumber_56 rfl 0 rfl ?_
            refine pa_bipush hE dX5_takeNumber_57 (v := 9) (by decide) ?_
            refine pa_icmp_le hE dX5_takeNumber_59 (tgt := 65) (by decide) (fun h8 => ?_) (fun h8 => ?_)
            · have hw := Eq.mp (if_pos h8) hw
              refine pa_iconst hE dX5_takeNumber_65 (v := 0) (by decide) ?_
              refine pa_iload_n hE dX5_takeNumber_66 rfl 2 rfl ?_
              refine pa_mmax hE dX5_takeNumber_67 cm_RX5_111 (pa_hRm (by omega)) (Nat.le_of_ble_eq_true rfl) ?_
              refine pa_bipush hE dX5_takeNumber_70 (v := 10) (by decide) ?_
              refine pa_imul hE dX5_takeNumber_72 ?_
              refine pa_iload_n hE dX5_takeNumber_73 rfl 0 rfl ?_
              refine pa_iadd hE dX5_takeNumber_74 ?_
              refine pa_namei (fun v9 ev9 => ?_)
              have hw := hw v9 ev9
              refine pa_istore_n hE dX5_takeNumber_75 rfl (by decide) (lvr := [(3, .int v6), (0, .ref (q 10 0)), (2, .int x2)]) rfl ?_
              refine pa_aload_n hE dX5_takeNumber_76 rfl 2 rfl ?_
              refine pa_dup hE dX5_takeNumber_77 rfl ?_
              refine pg_10_4 hE (pa_m1 50 rfl rfl) dX5_takeNumber_78 ?_
              refine pa_iconst hE dX5_takeNumber_81 (v := 1) (by decide) ?_
              refine pa_iadd hE dX5_takeNumber_82 ?_
              refine pp_10_4 hE (pa_m1 50 rfl rfl) dX5_takeNumber_83 (fun u10 eu10 => ?_)
              have hw := hw u10 eu10
              refine pa_iinc hE dX5_takeNumber_86 (v := 1) 3 rfl (by decide) (by decide) (lvr := [(1, .int v9), (3, .int v6), (0, .ref (q 10 0))]) rfl (fun v11 ev11 => ?_)
              have hw := hw v11 ev11
              refine pa_goto hE dX5_takeNumber_89 (tgt := 4) (by decide) ?_
              exact pa_sub [3, 1, 0] rfl (hk4 u10 v9 v11 hw)
            · have hw := Eq.mp (if_neg h8) hw
              refine pa_goto hE dX5_takeNumber_62 (tgt := 92) (by decide) ?_
              refine pa_iload_n hE dX5_takeNumber_92 rfl 2 rfl ?_
              exact pa_iret hE hr hw rfl dX5_takeNumber_93
def wl_X5_takeNumber_4 (post : Int32 → pa_S → Prop) : Nat → pa_S → Int32 → Int32 → Prop
  | 0, _, _, _ => False
  | n + 1, u0, x1, x2 => wb_X5_takeNumber_4 (fun u0 x1 x2 => wl_X5_takeNumber_4 post n u0 x1 x2) u0 x1 x2 post
set_option maxRecDepth 100000 in
set_option maxHeartbeats 4000000 in
theorem tl_X5_takeNumber_4 {p : Program} {l : Launch} {e : Env} {s : State} {m : MethodId} {args : Array Value} {below : List Frame} {meth : Method} {c : Code} {A : Nat → Prop} {D : va_G} {g : pa_G} {q : Nat → Nat → Nat} {post : Int32 → pa_S → Prop} (hE : pa_Fx p s m args meth c A D g 4 cX5_takeNumber RX5) (hr : meth.sig.returnType = (some .int)) : ∀ (n : Nat) (u0 : pa_S) (x1 : Int32) (x2 : Int32), wl_X5_takeNumber_4 post n u0 x1 x2 → pa_At p l e (pa_rm 2) s m args below meth c (MQ below (pa_Qc g D q (fun r => some (.int r)) post A) args s 0 0 A) A D g 4 0 0 q u0 4 [(0, .ref (q 10 0)), (1, .int x1), (2, .int x2)] []
  | 0, _, _, _, hw => absurd hw (by simp only [wl_X5_takeNumber_4]; exact fun z => z)
  | n + 1, u0, x1, x2, hw => tb_X5_takeNumber_4 hE hr (fun u0 x1 x2  hw1 => tl_X5_takeNumber_4 hE hr  n u0 x1 x2  hw1) hw
def wb_X5_takeNumber_0 (u0 : pa_S) (post : Int32 → pa_S → Prop) : Prop :=
  wl_X5_takeNumber_4 post 5000 u0 (-1 : Int32) 0
set_option maxRecDepth 100000 in
set_option maxHeartbeats 4000000 in
theorem tb_X5_takeNumber_0 {p : Program} {l : Launch} {e : Env} {s : State} {m : MethodId} {args : Array Value} {below : List Frame} {meth : Method} {c : Code} {A : Nat → Prop} {D : va_G} {g : pa_G} {q : Nat → Nat → Nat} {u0 : pa_S} {post : Int32 → pa_S → Prop} (hE : pa_Fx p s m args meth c A D g 4 cX5_takeNumber RX5) (hr : meth.sig.returnType = (some .int)) (hw : wb_X5_takeNumber_0 u0 post) : pa_At p l e (pa_rm 2) s m args below meth c (MQ below (pa_Qc g D q (fun r => some (.int r)) post A) args s 0 0 A) A D g 4 0 0 q u0 0 [(0, .ref (q 10 0))] [] := by
  refine pa_iconst hE dX5_takeNumber_0 (v := (-1 : Int32)) (by decide) ?_
  refine pa_istore_n hE dX5_takeNumber_1 rfl (by decide) (lvr := [(0, .ref (q 10 0))]) rfl ?_
  refine pa_iconst hE dX5_takeNumber_2 (v := 0) (by decide) ?_
  refine pa_istore_n hE dX5_takeNumber_3 rfl (by decide) (lvr := [(1, .int (-1 : Int32)), (0, .ref (q 10 0))]) rfl ?_
  exact pa_sub [2, 1, 0] rfl (tl_X5_takeNumber_4 hE hr 5000 u0 (-1 : Int32) 0 hw)
def wp_X5_takeNumber (u0 : pa_S) (post : Int32 → pa_S → Prop) : Prop := wb_X5_takeNumber_0 u0 post
theorem ct_X5_takeNumber (l : Launch) (g : pa_G) (D : va_G) (q : Nat → Nat → Nat) (u0 : pa_S) (post : Int32 → pa_S → Prop)  (hw : wp_X5_takeNumber u0 post) : pa_Ct l yX5_takeNumber cX5_takeNumber 4 (some .int) 2 g D q u0 [.ref (q 10 0)] (fun r => some (.int r)) post := pa_met rfl rfl (Nat.le_of_ble_eq_true rfl) rfl (fun p e s m args below meth c A hE hr => tb_X5_takeNumber_0 hE hr  hw)
def wb_J0_isLatin1_aae02_0 (u0 : pa_S) (i0 : Nat) (post : Int32 → Prop) : Prop :=
  post 1
set_option maxRecDepth 100000 in
set_option maxHeartbeats 4000000 in
theorem tb_J0_isLatin1_aae02_0 {p : Program} {l : Launch} {e : Env} {s : State} {m : MethodId} {args : Array Value} {below : List Frame} {meth : Method} {c : Code} {A : Nat → Prop} {D : va_G} {g : pa_G} {q : Nat → Nat → Nat} {u0 : pa_S} {i0 : Nat} {post : Int32 → Prop} (hE : pa_Fx p s m args meth c A D g 1 cJ0_isLatin1_aae02 RJ0) (hr : meth.sig.returnType = (some .boolean)) (hi0 : i0 < 7) (hw : wb_J0_isLatin1_aae02_0 u0 i0 post) : pa_At p l e (pa_rm 2) s m args below meth c (MQ below (pa_Qc g D q (fun r => some (.int r)) (fun r u => u = u0 ∧ post r) A) args s 0 0 A) A D g 1 0 0 q u0 0 [(0, .ref (g.2.2.1 i0))] [] := by
  refine pa_getsC hE (pa_m1 140 rfl rfl) dJ0_isLatin1_aae02_0 ?_
  refine pa_if_eq hE dJ0_isLatin1_aae02_3 (tgt := 17) (by decide) (fun h1 => absurd h1 (by decide)) (fun _ => ?_)
  refine pa_aload_n hE dJ0_isLatin1_aae02_6 rfl 0 rfl ?_
  refine pa_sgC hE hi0 (pa_m6 235 rfl rfl) dJ0_isLatin1_aae02_7 ?_
  refine pa_if_ne hE dJ0_isLatin1_aae02_10 (tgt := 17) (by decide) (fun h2 => absurd h2 (by decide)) (fun _ => ?_)
  refine pa_iconst hE dJ0_isLatin1_aae02_13 (v := 1) (by decide) ?_
  refine pa_goto hE dJ0_isLatin1_aae02_14 (tgt := 18) (by decide) ?_
  exact pa_zret hE hr (by decide) ⟨rfl, hw⟩ rfl dJ0_isLatin1_aae02_18
def wp_J0_isLatin1_aae02 (u0 : pa_S) (i0 : Nat) (post : Int32 → Prop) : Prop := wb_J0_isLatin1_aae02_0 u0 i0 post
theorem ct_J0_isLatin1_aae02 (l : Launch) (g : pa_G) (D : va_G) (q : Nat → Nat → Nat) (u0 : pa_S) (i0 : Nat) (post : Int32 → Prop) (hi0 : i0 < 7) (hw : wp_J0_isLatin1_aae02 u0 i0 post) : pa_Ct l yJ0_isLatin1_aae02 cJ0_isLatin1_aae02 1 (some .boolean) 2 g D q u0 [.ref (g.2.2.1 i0)] (fun r => some (.int r)) (fun r u => u = u0 ∧ post r) := pa_met rfl rfl (Nat.le_of_ble_eq_true rfl) rfl (fun p e s m args below meth c A hE hr => tb_J0_isLatin1_aae02_0 hE hr hi0 hw)
def wb_J0_coder_7d493_0 (u0 : pa_S) (i0 : Nat) (post : Int32 → Prop) : Prop :=
  post 0
set_option maxRecDepth 100000 in
set_option maxHeartbeats 4000000 in
theorem tb_J0_coder_7d493_0 {p : Program} {l : Launch} {e : Env} {s : State} {m : MethodId} {args : Array Value} {below : List Frame} {meth : Method} {c : Code} {A : Nat → Prop} {D : va_G} {g : pa_G} {q : Nat → Nat → Nat} {u0 : pa_S} {i0 : Nat} {post : Int32 → Prop} (hE : pa_Fx p s m args meth c A D g 1 cJ0_coder_7d493 RJ0) (hr : meth.sig.returnType = (some .byte)) (hi0 : i0 < 7) (hw : wb_J0_coder_7d493_0 u0 i0 post) : pa_At p l e (pa_rm 2) s m args below meth c (MQ below (pa_Qc g D q (fun r => some (.int r)) (fun r u => u = u0 ∧ post r) A) args s 0 0 A) A D g 1 0 0 q u0 0 [(0, .ref (g.2.2.1 i0))] [] := by
  refine pa_getsC hE (pa_m1 140 rfl rfl) dJ0_coder_7d493_0 ?_
  refine pa_if_eq hE dJ0_coder_7d493_3 (tgt := 13) (by decide) (fun h1 => absurd h1 (by decide)) (fun _ => ?_)
  refine pa_aload_n hE dJ0_coder_7d493_6 rfl 0 rfl ?_
  refine pa_sgC hE hi0 (pa_m6 235 rfl rfl) dJ0_coder_7d493_7 ?_
  refine pa_goto hE dJ0_coder_7d493_10 (tgt := 14) (by decide) ?_
  exact pa_zret hE hr (by decide) ⟨rfl, hw⟩ rfl dJ0_coder_7d493_14
def wp_J0_coder_7d493 (u0 : pa_S) (i0 : Nat) (post : Int32 → Prop) : Prop := wb_J0_coder_7d493_0 u0 i0 post
theorem ct_J0_coder_7d493 (l : Launch) (g : pa_G) (D : va_G) (q : Nat → Nat → Nat) (u0 : pa_S) (i0 : Nat) (post : Int32 → Prop) (hi0 : i0 < 7) (hw : wp_J0_coder_7d493 u0 i0 post) : pa_Ct l yJ0_coder_7d493 cJ0_coder_7d493 1 (some .byte) 2 g D q u0 [.ref (g.2.2.1 i0)] (fun r => some (.int r)) (fun r u => u = u0 ∧ post r) := pa_met rfl rfl (Nat.le_of_ble_eq_true rfl) rfl (fun p e s m args below meth c A hE hr => tb_J0_coder_7d493_0 hE hr hi0 hw)
def wb_J0_length_8abf5_0 (u0 : pa_S) (i0 : Nat) (post : Int32 → Prop) : Prop :=
  (wp_J0_coder_7d493 u0 i0 (fun (r1 : Int32) => post ((nI (pa_slen.getD i0 0)) >>> (r1 &&& 31))))
set_option maxRecDepth 100000 in
set_option maxHeartbeats 4000000 in
theorem tb_J0_length_8abf5_0 {p : Program} {l : Launch} {e : Env} {s : State} {m : MethodId} {args : Array Value} {below : List Frame} {meth : Method} {c : Code} {A : Nat → Prop} {D : va_G} {g : pa_G} {q : Nat → Nat → Nat} {u0 : pa_S} {i0 : Nat} {post : Int32 → Prop} (hE : pa_Fx p s m args meth c A D g 1 cJ0_length_8abf5 RJ0) (hr : meth.sig.returnType = (some .int)) (hi0 : i0 < 7) (hw : wb_J0_length_8abf5_0 u0 i0 post) : pa_At p l e (pa_rm 3) s m args below meth c (MQ below (pa_Qc g D q (fun r => some (.int r)) (fun r u => u = u0 ∧ post r) A) args s 0 0 A) A D g 1 0 0 q u0 0 [(0, .ref (g.2.2.1 i0))] [] := by
  refine pa_aload_n hE dJ0_length_8abf5_0 rfl 0 rfl ?_
  refine pa_sgV hE hi0 (pa_m6 234 rfl rfl) dJ0_length_8abf5_1 ?_
  refine pa_sbn hE hi0 dJ0_length_8abf5_4 ?_
  refine pa_aload_n hE dJ0_length_8abf5_5 rfl 0 rfl ?_
  refine pa_callVs hE (ct_J0_coder_7d493 l g D q u0 i0 _ hi0 hw) cv_RJ0_335 hi0 rfl (pa_hR (by omega) (by decide)) rfl (Nat.le_of_ble_eq_true rfl) dJ0_length_8abf5_6 (fun r1 hw => ?_)
  refine pa_ishr hE dJ0_length_8abf5_9 ?_
  exact pa_iret hE hr ⟨rfl, hw⟩ rfl dJ0_length_8abf5_10
def wp_J0_length_8abf5 (u0 : pa_S) (i0 : Nat) (post : Int32 → Prop) : Prop := wb_J0_length_8abf5_0 u0 i0 post
theorem ct_J0_length_8abf5 (l : Launch) (g : pa_G) (D : va_G) (q : Nat → Nat → Nat) (u0 : pa_S) (i0 : Nat) (post : Int32 → Prop) (hi0 : i0 < 7) (hw : wp_J0_length_8abf5 u0 i0 post) : pa_Ct l yJ0_length_8abf5 cJ0_length_8abf5 1 (some .int) 3 g D q u0 [.ref (g.2.2.1 i0)] (fun r => some (.int r)) (fun r u => u = u0 ∧ post r) := pa_met rfl rfl (Nat.le_of_ble_eq_true rfl) rfl (fun p e s m args below meth c A hE hr => tb_J0_length_8abf5_0 hE hr hi0 hw)
def wb_J1_canEncode_9a6ad_0 (u0 : pa_S) (x0 : Int32) (post : Int32 → Prop) : Prop :=
  (if x0 < 0 then post 0 else (if 255 < x0 then post 0 else post 1))
set_option maxRecDepth 100000 in
set_option maxHeartbeats 4000000 in
theorem tb_J1_canEncode_9a6ad_0 {p : Program} {l : Launch} {e : Env} {s : State} {m : MethodId} {args : Array Value} {below : List Frame} {meth : Method} {c : Code} {A : Nat → Prop} {D : va_G} {g : pa_G} {q : Nat → Nat → Nat} {u0 : pa_S} {x0 : Int32} {post : Int32 → Prop} (hE : pa_Fx p s m args meth c A D g 1 cJ1_canEncode_9a6ad RJ1) (hr : meth.sig.returnType = (some .boolean)) (hw : wb_J1_canEncode_9a6ad_0 u0 x0 post) : pa_At p l e (pa_rm 2) s m args below meth c (MQ below (pa_Qc g D q (fun r => some (.int r)) (fun r u => u = u0 ∧ post r) A) args s 0 0 A) A D g 1 0 0 q u0 0 [(0, .int x0)] [] := by
  refine pa_iload_n hE dJ1_canEncode_9a6ad_0 rfl 0 rfl ?_
  refine pa_if_lt hE dJ1_canEncode_9a6ad_1 (tgt := 15) (by decide) (fun h1 => ?_) (fun h1 => ?_)
  · have hw := Eq.mp (if_pos h1) hw
    refine pa_iconst hE dJ1_canEncode_9a6ad_15 (v := 0) (by decide) ?_
    exact pa_zret hE hr (by decide) ⟨rfl, hw⟩ rfl dJ1_canEncode_9a6ad_16
  · have hw := Eq.mp (if_neg h1) hw
    refine pa_iload_n hE dJ1_canEncode_9a6ad_4 rfl 0 rfl ?_
    refine pa_sipush hE dJ1_canEncode_9a6ad_5 (v := 255) (by decide) ?_
    refine pa_icmp_gt hE dJ1_canEncode_9a6ad_8 (tgt := 15) (by decide) (fun h2 => ?_) (fun h2 => ?_)
    · have hw := Eq.mp (if_pos h2) hw
      refine pa_iconst hE dJ1_canEncode_9a6ad_15 (v := 0) (by decide) ?_
      exact pa_zret hE hr (by decide) ⟨rfl, hw⟩ rfl dJ1_canEncode_9a6ad_16
    · have hw := Eq.mp (if_neg h2) hw
      refine pa_iconst hE dJ1_canEncode_9a6ad_11 (v := 1) (by decide) ?_
      refine pa_goto hE dJ1_canEncode_9a6ad_12 (tgt := 16) (by decide) ?_
      exact pa_zret hE hr (by decide) ⟨rfl, hw⟩ rfl dJ1_canEncode_9a6ad_16
def wp_J1_canEncode_9a6ad (u0 : pa_S) (x0 : Int32) (post : Int32 → Prop) : Prop := wb_J1_canEncode_9a6ad_0 u0 x0 post
theorem ct_J1_canEncode_9a6ad (l : Launch) (g : pa_G) (D : va_G) (q : Nat → Nat → Nat) (u0 : pa_S) (x0 : Int32) (post : Int32 → Prop)  (hw : wp_J1_canEncode_9a6ad u0 x0 post) : pa_Ct l yJ1_canEncode_9a6ad cJ1_canEncode_9a6ad 1 (some .boolean) 2 g D q u0 [.int x0] (fun r => some (.int r)) (fun r u => u = u0 ∧ post r) := pa_met rfl rfl (Nat.le_of_ble_eq_true rfl) rfl (fun p e s m args below meth c A hE hr => tb_J1_canEncode_9a6ad_0 hE hr  hw)
def wb_J1_indexOfChar_4cfef_7 (k7 : Int32 → Int32 → Int32 → Prop) (u0 : pa_S) (i0 : Nat) (x3 : Int32) (x4 : Int32) (x5 : Int32) (post : Int32 → Prop) : Prop :=
  (if x3 ≤ x5 then post (-1 : Int32) else (vp_in x5 (pa_slen.getD i0 0)) ∧ (if ((pa_sbyt.getD i0 []).getD x5.toNatClampNeg 0) = x4 then post x5 else ∀ v5 : Int32, v5 = x5 + 1 → k7 x3 x4 v5))
set_option maxRecDepth 100000 in
set_option maxHeartbeats 4000000 in
theorem tb_J1_indexOfChar_4cfef_7 {p : Program} {l : Launch} {e : Env} {s : State} {m : MethodId} {args : Array Value} {below : List Frame} {meth : Method} {c : Code} {A : Nat → Prop} {D : va_G} {g : pa_G} {q : Nat → Nat → Nat} {k7 : Int32 → Int32 → Int32 → Prop} {u0 : pa_S} {i0 : Nat} {x3 : Int32} {x4 : Int32} {x5 : Int32} {post : Int32 → Prop} (hE : pa_Fx p s m args meth c A D g 6 cJ1_indexOfChar_4cfef RJ1) (hr : meth.sig.returnType = (some .int)) (hi0 : i0 < 7) (hk7 : ∀ (x3 : Int32) (x4 : Int32) (x5 : Int32), k7 x3 x4 x5 → pa_At p l e (pa_rm 2) s m args below meth c (MQ below (pa_Qc g D q (fun r => some (.int r)) (fun r u => u = u0 ∧ post r) A) args s 0 0 A) A D g 6 0 0 q u0 7 [(0, .ref (g.2.2.2 i0)), (3, .int x3), (4, .int x4), (5, .int x5)] []) (hw : wb_J1_indexOfChar_4cfef_7 k7 u0 i0 x3 x4 x5 post) : pa_At p l e (pa_rm 2) s m args below meth c (MQ below (pa_Qc g D q (fun r => some (.int r)) (fun r u => u = u0 ∧ post r) A) args s 0 0 A) A D g 6 0 0 q u0 7 [(0, .ref (g.2.2.2 i0)), (3, .int x3), (4, .int x4), (5, .int x5)] [] := by
  refine pa_iload hE dJ1_indexOfChar_4cfef_7 3 rfl ?_
  refine pa_iload_n hE dJ1_indexOfChar_4cfef_9 rfl 1 rfl ?_
  refine pa_icmp_ge hE dJ1_indexOfChar_4cfef_10 (tgt := 31) (by decide) (fun h2 => ?_) (fun h2 => ?_)
  · have hw := Eq.mp (if_pos h2) hw
    refine pa_iconst hE dJ1_indexOfChar_4cfef_31 (v := (-1 : Int32)) (by decide) ?_
    exact pa_iret hE hr ⟨rfl, hw⟩ rfl dJ1_indexOfChar_4cfef_32
  · have hw := Eq.mp (if_neg h2) hw
    refine pa_aload_n hE dJ1_indexOfChar_4cfef_13 rfl 0 rfl ?_
    refine pa_iload hE dJ1_indexOfChar_4cfef_14 3 rfl ?_
    obtain ⟨h3, hw⟩ := hw
    refine pa_sbl hE hi0 h3 dJ1_indexOfChar_4cfef_16 ?_
    refine pa_iload hE dJ1_indexOfChar_4cfef_17 2 rfl ?_
    refine pa_icmp_ne hE dJ1_indexOfChar_4cfef_19 (tgt := 25) (by decide) (fun h4 => ?_) (fun h4 => ?_)
    · have hw := Eq.mp (if_neg h4) hw
      refine pa_iinc hE dJ1_indexOfChar_4cfef_25 (v := 1) 3 rfl (by decide) (by decide) (lvr := [(0, .ref (g.2.2.2 i0)), (3, .int x3), (4, .int x4)]) rfl (fun v5 ev5 => ?_)
      have hw := hw v5 ev5
      refine pa_goto hE dJ1_indexOfChar_4cfef_28 (tgt := 7) (by decide) ?_
      exact pa_sub [1, 2, 3, 0] rfl (hk7 x3 x4 v5 hw)
    · have hw := Eq.mp (if_pos h4) hw
      refine pa_iload hE dJ1_indexOfChar_4cfef_22 3 rfl ?_
      exact pa_iret hE hr ⟨rfl, hw⟩ rfl dJ1_indexOfChar_4cfef_24
def wl_J1_indexOfChar_4cfef_7 (i0 : Nat) (post : Int32 → Prop) (u0 : pa_S) : Nat → Int32 → Int32 → Int32 → Prop
  | 0, _, _, _ => False
  | n + 1, x3, x4, x5 => wb_J1_indexOfChar_4cfef_7 (fun x3 x4 x5 => wl_J1_indexOfChar_4cfef_7 i0 post u0 n x3 x4 x5) u0 i0 x3 x4 x5 post
set_option maxRecDepth 100000 in
set_option maxHeartbeats 4000000 in
theorem tl_J1_indexOfChar_4cfef_7 {p : Program} {l : Launch} {e : Env} {s : State} {m : MethodId} {args : Array Value} {below : List Frame} {meth : Method} {c : Code} {A : Nat → Prop} {D : va_G} {g : pa_G} {q : Nat → Nat → Nat} {u0 : pa_S} {i0 : Nat} {post : Int32 → Prop} (hE : pa_Fx p s m args meth c A D g 6 cJ1_indexOfChar_4cfef RJ1) (hr : meth.sig.returnType = (some .int)) (hi0 : i0 < 7) : ∀ (n : Nat) (x3 : Int32) (x4 : Int32) (x5 : Int32), wl_J1_indexOfChar_4cfef_7 i0 post u0 n x3 x4 x5 → pa_At p l e (pa_rm 2) s m args below meth c (MQ below (pa_Qc g D q (fun r => some (.int r)) (fun r u => u = u0 ∧ post r) A) args s 0 0 A) A D g 6 0 0 q u0 7 [(0, .ref (g.2.2.2 i0)), (3, .int x3), (4, .int x4), (5, .int x5)] []
  | 0, _, _, _, hw => absurd hw (by simp only [wl_J1_indexOfChar_4cfef_7]; exact fun z => z)
  | n + 1, x3, x4, x5, hw => tb_J1_indexOfChar_4cfef_7 hE hr hi0 (fun x3 x4 x5  hw1 => tl_J1_indexOfChar_4cfef_7 hE hr hi0 n x3 x4 x5  hw1) hw
def wb_J1_indexOfChar_4cfef_0 (u0 : pa_S) (i0 : Nat) (x1 : Int32) (x2 : Int32) (x3 : Int32) (post : Int32 → Prop) : Prop :=
  ∀ v1 : Int32, v1 = (x1.toInt8.toInt32) → wl_J1_indexOfChar_4cfef_7 i0 post u0 5000 x3 v1 x2
set_option maxRecDepth 100000 in
set_option maxHeartbeats 4000000 in
theorem tb_J1_indexOfChar_4cfef_0 {p : Program} {l : Launch} {e : Env} {s : State} {m : MethodId} {args : Array Value} {below : List Frame} {meth : Method} {c : Code} {A : Nat → Prop} {D : va_G} {g : pa_G} {q : Nat → Nat → Nat} {u0 : pa_S} {i0 : Nat} {x1 : Int32} {x2 : Int32} {x3 : Int32} {post : Int32 → Prop} (hE : pa_Fx p s m args meth c A D g 6 cJ1_indexOfChar_4cfef RJ1) (hr : meth.sig.returnType = (some .int)) (hi0 : i0 < 7) (hw : wb_J1_indexOfChar_4cfef_0 u0 i0 x1 x2 x3 post) : pa_At p l e (pa_rm 2) s m args below meth c (MQ below (pa_Qc g D q (fun r => some (.int r)) (fun r u => u = u0 ∧ post r) A) args s 0 0 A) A D g 6 0 0 q u0 0 [(0, .ref (g.2.2.2 i0)), (1, .int x1), (2, .int x2), (3, .int x3)] [] := by
  refine pa_iload_n hE dJ1_indexOfChar_4cfef_0 rfl 1 rfl ?_
  refine pa_i2b hE dJ1_indexOfChar_4cfef_1 ?_
  refine pa_namei (fun v1 ev1 => ?_)
  have hw := hw v1 ev1
  refine pa_istore hE dJ1_indexOfChar_4cfef_2 (by decide) (lvr := [(0, .ref (g.2.2.2 i0)), (1, .int x1), (2, .int x2), (3, .int x3)]) rfl ?_
  refine pa_iload_n hE dJ1_indexOfChar_4cfef_4 rfl 3 rfl ?_
  refine pa_istore hE dJ1_indexOfChar_4cfef_5 (by decide) (lvr := [(4, .int v1), (0, .ref (g.2.2.2 i0)), (1, .int x1), (2, .int x2), (3, .int x3)]) rfl ?_
  exact pa_sub [2, 5, 1, 0] rfl (tl_J1_indexOfChar_4cfef_7 hE hr hi0 5000 x3 v1 x2 hw)
def wp_J1_indexOfChar_4cfef (u0 : pa_S) (i0 : Nat) (x1 : Int32) (x2 : Int32) (x3 : Int32) (post : Int32 → Prop) : Prop := wb_J1_indexOfChar_4cfef_0 u0 i0 x1 x2 x3 post
theorem ct_J1_indexOfChar_4cfef (l : Launch) (g : pa_G) (D : va_G) (q : Nat → Nat → Nat) (u0 : pa_S) (i0 : Nat) (x1 : Int32) (x2 : Int32) (x3 : Int32) (post : Int32 → Prop) (hi0 : i0 < 7) (hw : wp_J1_indexOfChar_4cfef u0 i0 x1 x2 x3 post) : pa_Ct l yJ1_indexOfChar_4cfef cJ1_indexOfChar_4cfef 6 (some .int) 2 g D q u0 [.ref (g.2.2.2 i0), .int x1, .int x2, .int x3] (fun r => some (.int r)) (fun r u => u = u0 ∧ post r) := pa_met rfl rfl (Nat.le_of_ble_eq_true rfl) rfl (fun p e s m args below meth c A hE hr => tb_J1_indexOfChar_4cfef_0 hE hr hi0 hw)
def wb_J1_indexOf_4cfef_0 (u0 : pa_S) (i0 : Nat) (x1 : Int32) (x2 : Int32) (x3 : Int32) (post : Int32 → Prop) : Prop :=
  (wp_J1_canEncode_9a6ad u0 x1 (fun (r1 : Int32) => (if r1 = 0 then post (-1 : Int32) else ∀ v3 : Int32, v3 = (pa_max x2 0) → ∀ v4 : Int32, v4 = (pa_min x3 (nI (pa_slen.getD i0 0))) → (if v3 < v4 then (wp_J1_indexOfChar_4cfef u0 i0 x1 v3 v4 (fun (r6 : Int32) => post r6)) else post (-1 : Int32)))))
set_option maxRecDepth 100000 in
set_option maxHeartbeats 4000000 in
theorem tb_J1_indexOf_4cfef_0 {p : Program} {l : Launch} {e : Env} {s : State} {m : MethodId} {args : Array Value} {below : List Frame} {meth : Method} {c : Code} {A : Nat → Prop} {D : va_G} {g : pa_G} {q : Nat → Nat → Nat} {u0 : pa_S} {i0 : Nat} {x1 : Int32} {x2 : Int32} {x3 : Int32} {post : Int32 → Prop} (hE : pa_Fx p s m args meth c A D g 4 cJ1_indexOf_4cfef RJ1) (hr : meth.sig.returnType = (some .int)) (hi0 : i0 < 7) (hw : wb_J1_indexOf_4cfef_0 u0 i0 x1 x2 x3 post) : pa_At p l e (pa_rm 3) s m args below meth c (MQ below (pa_Qc g D q (fun r => some (.int r)) (fun r u => u = u0 ∧ post r) A) args s 0 0 A) A D g 4 0 0 q u0 0 [(0, .ref (g.2.2.2 i0)), (1, .int x1), (2, .int x2), (3, .int x3)] [] := by
  refine pa_iload_n hE dJ1_indexOf_4cfef_0 rfl 1 rfl ?_
  refine pa_callSri hE (ct_J1_canEncode_9a6ad l g D q u0 x1 _ hw) cs_RJ1_88 rfl (pa_hR (by omega) (by decide)) rfl (Nat.le_of_ble_eq_true rfl) dJ1_indexOf_4cfef_1 (fun r1 hw => ?_)
  refine pa_if_ne hE dJ1_indexOf_4cfef_4 (tgt := 9) (by decide) (fun h2 => ?_) (fun h2 => ?_)
  · have hw := Eq.mp (if_neg h2) hw
    refine pa_iload_n hE dJ1_indexOf_4cfef_9 rfl 2 rfl ?_
    refine pa_iconst hE dJ1_indexOf_4cfef_10 (v := 0) (by decide) ?_
    refine pa_mmax hE dJ1_indexOf_4cfef_11 cm_RJ1_92 (pa_hRm (by omega)) (Nat.le_of_ble_eq_true rfl) ?_
    refine pa_namei (fun v3 ev3 => ?_)
    have hw := hw v3 ev3
    refine pa_istore_n hE dJ1_indexOf_4cfef_14 rfl (by decide) (lvr := [(0, .ref (g.2.2.2 i0)), (1, .int x1), (3, .int x3)]) rfl ?_
    refine pa_iload_n hE dJ1_indexOf_4cfef_15 rfl 3 rfl ?_
    refine pa_aload_n hE dJ1_indexOf_4cfef_16 rfl 1 rfl ?_
    refine pa_sbn hE hi0 dJ1_indexOf_4cfef_17 ?_
    refine pa_mmin hE dJ1_indexOf_4cfef_18 cm_RJ1_38 (pa_hRm (by omega)) (Nat.le_of_ble_eq_true rfl) ?_
    refine pa_namei (fun v4 ev4 => ?_)
    have hw := hw v4 ev4
    refine pa_istore_n hE dJ1_indexOf_4cfef_21 rfl (by decide) (lvr := [(2, .int v3), (0, .ref (g.2.2.2 i0)), (1, .int x1)]) rfl ?_
    refine pa_iload_n hE dJ1_indexOf_4cfef_22 rfl 1 rfl ?_
    refine pa_iload_n hE dJ1_indexOf_4cfef_23 rfl 0 rfl ?_
    refine pa_icmp_lt hE dJ1_indexOf_4cfef_24 (tgt := 29) (by decide) (fun h5 => ?_) (fun h5 => ?_)
    · have hw := Eq.mp (if_pos h5) hw
      refine pa_aload_n hE dJ1_indexOf_4cfef_29 rfl 2 rfl ?_
      refine pa_iload_n hE dJ1_indexOf_4cfef_30 rfl 3 rfl ?_
      refine pa_iload_n hE dJ1_indexOf_4cfef_31 rfl 1 rfl ?_
      refine pa_iload_n hE dJ1_indexOf_4cfef_32 rfl 0 rfl ?_
      refine pa_callSri hE (ct_J1_indexOfChar_4cfef l g D q u0 i0 x1 v3 v4 _ hi0 hw) cs_RJ1_95 rfl (pa_hR (by omega) (by decide)) rfl (Nat.le_of_ble_eq_true rfl) dJ1_indexOf_4cfef_33 (fun r6 hw => ?_)
      exact pa_iret hE hr ⟨rfl, hw⟩ rfl dJ1_indexOf_4cfef_36
    · have hw := Eq.mp (if_neg h5) hw
      refine pa_iconst hE dJ1_indexOf_4cfef_27 (v := (-1 : Int32)) (by decide) ?_
      exact pa_iret hE hr ⟨rfl, hw⟩ rfl dJ1_indexOf_4cfef_28
  · have hw := Eq.mp (if_pos h2) hw
    refine pa_iconst hE dJ1_indexOf_4cfef_7 (v := (-1 : Int32)) (by decide) ?_
    exact pa_iret hE hr ⟨rfl, hw⟩ rfl dJ1_indexOf_4cfef_8
def wp_J1_indexOf_4cfef (u0 : pa_S) (i0 : Nat) (x1 : Int32) (x2 : Int32) (x3 : Int32) (post : Int32 → Prop) : Prop := wb_J1_indexOf_4cfef_0 u0 i0 x1 x2 x3 post
theorem ct_J1_indexOf_4cfef (l : Launch) (g : pa_G) (D : va_G) (q : Nat → Nat → Nat) (u0 : pa_S) (i0 : Nat) (x1 : Int32) (x2 : Int32) (x3 : Int32) (post : Int32 → Prop) (hi0 : i0 < 7) (hw : wp_J1_indexOf_4cfef u0 i0 x1 x2 x3 post) : pa_Ct l yJ1_indexOf_4cfef cJ1_indexOf_4cfef 4 (some .int) 3 g D q u0 [.ref (g.2.2.2 i0), .int x1, .int x2, .int x3] (fun r => some (.int r)) (fun r u => u = u0 ∧ post r) := pa_met rfl rfl (Nat.le_of_ble_eq_true rfl) rfl (fun p e s m args below meth c A hE hr => tb_J1_indexOf_4cfef_0 hE hr hi0 hw)
def wb_J0_indexOf_7cf53_0 (u0 : pa_S) (i0 : Nat) (x1 : Int32) (x2 : Int32) (post : Int32 → Prop) : Prop :=
  (wp_J0_isLatin1_aae02 u0 i0 (fun (r1 : Int32) => (if r1 = 0 then False else (wp_J0_length_8abf5 u0 i0 (fun (r3 : Int32) => (wp_J1_indexOf_4cfef u0 i0 x1 x2 r3 (fun (r4 : Int32) => post r4)))))))
set_option maxRecDepth 100000 in
set_option maxHeartbeats 4000000 in
theorem tb_J0_indexOf_7cf53_0 {p : Program} {l : Launch} {e : Env} {s : State} {m : MethodId} {args : Array Value} {below : List Frame} {meth : Method} {c : Code} {A : Nat → Prop} {D : va_G} {g : pa_G} {q : Nat → Nat → Nat} {u0 : pa_S} {i0 : Nat} {x1 : Int32} {x2 : Int32} {post : Int32 → Prop} (hE : pa_Fx p s m args meth c A D g 3 cJ0_indexOf_7cf53 RJ0) (hr : meth.sig.returnType = (some .int)) (hi0 : i0 < 7) (hw : wb_J0_indexOf_7cf53_0 u0 i0 x1 x2 post) : pa_At p l e (pa_rm 4) s m args below meth c (MQ below (pa_Qc g D q (fun r => some (.int r)) (fun r u => u = u0 ∧ post r) A) args s 0 0 A) A D g 3 0 0 q u0 0 [(0, .ref (g.2.2.1 i0)), (1, .int x1), (2, .int x2)] [] := by
  refine pa_aload_n hE dJ0_indexOf_7cf53_0 rfl 0 rfl ?_
  refine pa_callVs hE (ct_J0_isLatin1_aae02 l g D q u0 i0 _ hi0 hw) cv_RJ0_492 hi0 rfl (pa_hR (by omega) (by decide)) rfl (Nat.le_of_ble_eq_true rfl) dJ0_indexOf_7cf53_1 (fun r1 hw => ?_)
  refine pa_if_eq hE dJ0_indexOf_7cf53_4 (tgt := 23) (by decide) (fun h2 => ?_) (fun h2 => ?_)
  · have hw := Eq.mp (if_pos h2) hw
    exact absurd hw (fun z => z)
  · have hw := Eq.mp (if_neg h2) hw
    refine pa_aload_n hE dJ0_indexOf_7cf53_7 rfl 0 rfl ?_
    refine pa_sgV hE hi0 (pa_m6 234 rfl rfl) dJ0_indexOf_7cf53_8 ?_
    refine pa_iload_n hE dJ0_indexOf_7cf53_11 rfl 1 rfl ?_
    refine pa_iload_n hE dJ0_indexOf_7cf53_12 rfl 2 rfl ?_
    refine pa_aload_n hE dJ0_indexOf_7cf53_13 rfl 0 rfl ?_
    refine pa_callVs hE (ct_J0_length_8abf5 l g D q u0 i0 _ hi0 hw) cv_RJ0_505 hi0 rfl (pa_hR (by omega) (by decide)) rfl (Nat.le_of_ble_eq_true rfl) dJ0_indexOf_7cf53_14 (fun r3 hw => ?_)
    refine pa_callSri hE (ct_J1_indexOf_4cfef l g D q u0 i0 x1 x2 r3 _ hi0 hw) cs_RJ0_637 rfl (pa_hR (by omega) (by decide)) rfl (Nat.le_of_ble_eq_true rfl) dJ0_indexOf_7cf53_17 (fun r4 hw => ?_)
    refine pa_goto hE dJ0_indexOf_7cf53_20 (tgt := 36) (by decide) ?_
    exact pa_iret hE hr ⟨rfl, hw⟩ rfl dJ0_indexOf_7cf53_36
def wp_J0_indexOf_7cf53 (u0 : pa_S) (i0 : Nat) (x1 : Int32) (x2 : Int32) (post : Int32 → Prop) : Prop := wb_J0_indexOf_7cf53_0 u0 i0 x1 x2 post
theorem ct_J0_indexOf_7cf53 (l : Launch) (g : pa_G) (D : va_G) (q : Nat → Nat → Nat) (u0 : pa_S) (i0 : Nat) (x1 : Int32) (x2 : Int32) (post : Int32 → Prop) (hi0 : i0 < 7) (hw : wp_J0_indexOf_7cf53 u0 i0 x1 x2 post) : pa_Ct l yJ0_indexOf_7cf53 cJ0_indexOf_7cf53 3 (some .int) 4 g D q u0 [.ref (g.2.2.1 i0), .int x1, .int x2] (fun r => some (.int r)) (fun r u => u = u0 ∧ post r) := pa_met rfl rfl (Nat.le_of_ble_eq_true rfl) rfl (fun p e s m args below meth c A hE hr => tb_J0_indexOf_7cf53_0 hE hr hi0 hw)
def wb_J0_indexOf_0f7a4_0 (u0 : pa_S) (i0 : Nat) (x1 : Int32) (post : Int32 → Prop) : Prop :=
  (wp_J0_indexOf_7cf53 u0 i0 x1 0 (fun (r1 : Int32) => post r1))
set_option maxRecDepth 100000 in
set_option maxHeartbeats 4000000 in
theorem tb_J0_indexOf_0f7a4_0 {p : Program} {l : Launch} {e : Env} {s : State} {m : MethodId} {args : Array Value} {below : List Frame} {meth : Method} {c : Code} {A : Nat → Prop} {D : va_G} {g : pa_G} {q : Nat → Nat → Nat} {u0 : pa_S} {i0 : Nat} {x1 : Int32} {post : Int32 → Prop} (hE : pa_Fx p s m args meth c A D g 2 cJ0_indexOf_0f7a4 RJ0) (hr : meth.sig.returnType = (some .int)) (hi0 : i0 < 7) (hw : wb_J0_indexOf_0f7a4_0 u0 i0 x1 post) : pa_At p l e (pa_rm 5) s m args below meth c (MQ below (pa_Qc g D q (fun r => some (.int r)) (fun r u => u = u0 ∧ post r) A) args s 0 0 A) A D g 2 0 0 q u0 0 [(0, .ref (g.2.2.1 i0)), (1, .int x1)] [] := by
  refine pa_aload_n hE dJ0_indexOf_0f7a4_0 rfl 0 rfl ?_
  refine pa_iload_n hE dJ0_indexOf_0f7a4_1 rfl 1 rfl ?_
  refine pa_iconst hE dJ0_indexOf_0f7a4_2 (v := 0) (by decide) ?_
  refine pa_callVs hE (ct_J0_indexOf_7cf53 l g D q u0 i0 x1 0 _ hi0 hw) cv_RJ0_633 hi0 rfl (pa_hR (by omega) (by decide)) rfl (Nat.le_of_ble_eq_true rfl) dJ0_indexOf_0f7a4_3 (fun r1 hw => ?_)
  exact pa_iret hE hr ⟨rfl, hw⟩ rfl dJ0_indexOf_0f7a4_6
def wp_J0_indexOf_0f7a4 (u0 : pa_S) (i0 : Nat) (x1 : Int32) (post : Int32 → Prop) : Prop := wb_J0_indexOf_0f7a4_0 u0 i0 x1 post
theorem ct_J0_indexOf_0f7a4 (l : Launch) (g : pa_G) (D : va_G) (q : Nat → Nat → Nat) (u0 : pa_S) (i0 : Nat) (x1 : Int32) (post : Int32 → Prop) (hi0 : i0 < 7) (hw : wp_J0_indexOf_0f7a4 u0 i0 x1 post) : pa_Ct l yJ0_indexOf_0f7a4 cJ0_indexOf_0f7a4 2 (some .int) 5 g D q u0 [.ref (g.2.2.1 i0), .int x1] (fun r => some (.int r)) (fun r u => u = u0 ∧ post r) := pa_met rfl rfl (Nat.le_of_ble_eq_true rfl) rfl (fun p e s m args below meth c A hE hr => tb_J0_indexOf_0f7a4_0 hE hr hi0 hw)
def wb_X5_takeOneOf_0 (u0 : pa_S) (i0 : Nat) (post : Int32 → pa_S → Prop) : Prop :=
  (if (pa_I u0 10 0 4) < 0 then post (-1 : Int32) u0 else (if (pa_I u0 10 0 3) ≤ (pa_I u0 10 0 4) then post (-1 : Int32) u0 else (if (pa_I u0 10 0 4) < 100 then (vp_in (pa_I u0 10 0 4) 100) ∧ (wp_J0_indexOf_0f7a4 u0 i0 (((pa_A u0 11 0 (pa_I u0 10 0 4).toNatClampNeg).toUInt32 % 65536).toInt32) (fun (r5 : Int32) => (if r5 < 0 then post r5 u0 else ∀ u7 : pa_S, u7 = pa_sI u0 10 0 4 ((pa_I u0 10 0 4) + 1) → post r5 u7))) else post (-1 : Int32) u0)))
set_option maxRecDepth 100000 in
set_option maxHeartbeats 4000000 in
theorem tb_X5_takeOneOf_0 {p : Program} {l : Launch} {e : Env} {s : State} {m : MethodId} {args : Array Value} {below : List Frame} {meth : Method} {c : Code} {A : Nat → Prop} {D : va_G} {g : pa_G} {q : Nat → Nat → Nat} {u0 : pa_S} {i0 : Nat} {post : Int32 → pa_S → Prop} (hE : pa_Fx p s m args meth c A D g 3 cX5_takeOneOf RX5) (hr : meth.sig.returnType = (some .int)) (hi0 : i0 < 7) (hw : wb_X5_takeOneOf_0 u0 i0 post) : pa_At p l e (pa_rm 6) s m args below meth c (MQ below (pa_Qc g D q (fun r => some (.int r)) post A) args s 0 0 A) A D g 3 0 0 q u0 0 [(0, .ref (q 10 0)), (1, .ref (g.2.2.1 i0))] [] := by
  refine pa_aload_n hE dX5_takeOneOf_0 rfl 0 rfl ?_
  refine pg_10_4 hE (pa_m1 50 rfl rfl) dX5_takeOneOf_1 ?_
  refine pa_if_lt hE dX5_takeOneOf_4 (tgt := 30) (by decide) (fun h1 => ?_) (fun h1 => ?_)
  · have hw := Eq.mp (if_pos h1) hw
    refine pa_iconst hE dX5_takeOneOf_30 (v := (-1 : Int32)) (by decide) ?_
    exact pa_iret hE hr hw rfl dX5_takeOneOf_31
  · have hw := Eq.mp (if_neg h1) hw
    refine pa_aload_n hE dX5_takeOneOf_7 rfl 0 rfl ?_
    refine pg_10_4 hE (pa_m1 50 rfl rfl) dX5_takeOneOf_8 ?_
    refine pa_aload_n hE dX5_takeOneOf_11 rfl 0 rfl ?_
    refine pg_10_3 hE (pa_m1 49 rfl rfl) dX5_takeOneOf_12 ?_
    refine pa_icmp_ge hE dX5_takeOneOf_15 (tgt := 30) (by decide) (fun h2 => ?_) (fun h2 => ?_)
    · have hw := Eq.mp (if_pos h2) hw
      refine pa_iconst hE dX5_takeOneOf_30 (v := (-1 : Int32)) (by decide) ?_
      exact pa_iret hE hr hw rfl dX5_takeOneOf_31
    · have hw := Eq.mp (if_neg h2) hw
      refine pa_aload_n hE dX5_takeOneOf_18 rfl 0 rfl ?_
      refine pg_10_4 hE (pa_m1 50 rfl rfl) dX5_takeOneOf_19 ?_
      refine pa_aload_n hE dX5_takeOneOf_22 rfl 0 rfl ?_
      refine pg_10_0 hE (pa_m1 46 rfl rfl) dX5_takeOneOf_23 ?_
      refine pn_11 hE (v := 100) (by decide) dX5_takeOneOf_26 ?_
      refine pa_icmp_lt hE dX5_takeOneOf_27 (tgt := 32) (by decide) (fun h3 => ?_) (fun h3 => ?_)
      · have hw := Eq.mp (if_pos h3) hw
        refine pa_aload_n hE dX5_takeOneOf_32 rfl 1 rfl ?_
        refine pa_aload_n hE dX5_takeOneOf_33 rfl 0 rfl ?_
        refine pg_10_0 hE (pa_m1 46 rfl rfl) dX5_takeOneOf_34 ?_
        refine pa_aload_n hE dX5_takeOneOf_37 rfl 0 rfl ?_
        refine pg_10_4 hE (pa_m1 50 rfl rfl) dX5_takeOneOf_38 ?_
        obtain ⟨h4, hw⟩ := hw
        refine pl_11 hE h4 dX5_takeOneOf_41 ?_
        refine pa_i2c hE dX5_takeOneOf_42 ?_
        refine pa_callVs hE (ct_J0_indexOf_0f7a4 l g D q u0 i0 (((pa_A u0 11 0 (pa_I u0 10 0 4).toNatClampNeg).toUInt32 % 65536).toInt32) _ hi0 hw) cv_RX5_107 hi0 rfl (pa_hR (by omega) (by decide)) rfl (Nat.le_of_ble_eq_true rfl) dX5_takeOneOf_43 (fun r5 hw => ?_)
        refine pa_istore_n hE dX5_takeOneOf_46 rfl (by decide) (lvr := [(0, .ref (q 10 0)), (1, .ref (g.2.2.1 i0))]) rfl ?_
        refine pa_iload_n hE dX5_takeOneOf_47 rfl 0 rfl ?_
        refine pa_if_lt hE dX5_takeOneOf_48 (tgt := 61) (by decide) (fun h6 => ?_) (fun h6 => ?_)
        · have hw := Eq.mp (if_pos h6) hw
          refine pa_iload_n hE dX5_takeOneOf_61 rfl 0 rfl ?_
          exact pa_iret hE hr hw rfl dX5_takeOneOf_62
        · have hw := Eq.mp (if_neg h6) hw
          refine pa_aload_n hE dX5_takeOneOf_51 rfl 1 rfl ?_
          refine pa_dup hE dX5_takeOneOf_52 rfl ?_
          refine pg_10_4 hE (pa_m1 50 rfl rfl) dX5_takeOneOf_53 ?_
          refine pa_iconst hE dX5_takeOneOf_56 (v := 1) (by decide) ?_
          refine pa_iadd hE dX5_takeOneOf_57 ?_
          refine pp_10_4 hE (pa_m1 50 rfl rfl) dX5_takeOneOf_58 (fun u7 eu7 => ?_)
          have hw := hw u7 eu7
          refine pa_iload_n hE dX5_takeOneOf_61 rfl 0 rfl ?_
          exact pa_iret hE hr hw rfl dX5_takeOneOf_62
      · have hw := Eq.mp (if_neg h3) hw
        refine pa_iconst hE dX5_takeOneOf_30 (v := (-1 : Int32)) (by decide) ?_
        exact pa_iret hE hr hw rfl dX5_takeOneOf_31
def wp_X5_takeOneOf (u0 : pa_S) (i0 : Nat) (post : Int32 → pa_S → Prop) : Prop := wb_X5_takeOneOf_0 u0 i0 post
theorem ct_X5_takeOneOf (l : Launch) (g : pa_G) (D : va_G) (q : Nat → Nat → Nat) (u0 : pa_S) (i0 : Nat) (post : Int32 → pa_S → Prop) (hi0 : i0 < 7) (hw : wp_X5_takeOneOf u0 i0 post) : pa_Ct l yX5_takeOneOf cX5_takeOneOf 3 (some .int) 6 g D q u0 [.ref (q 10 0), .ref (g.2.2.1 i0)] (fun r => some (.int r)) post := pa_met rfl rfl (Nat.le_of_ble_eq_true rfl) rfl (fun p e s m args below meth c A hE hr => tb_X5_takeOneOf_0 hE hr hi0 hw)
def wb_X5_isTest_0 (u0 : pa_S) (post : Int32 → pa_S → Prop) : Prop :=
  (wp_X5_takeOneOf u0 0 (fun (r1 : Int32) (u2 : pa_S) => (if 0 ≤ r1 then (wp_X5_takeOneOf u2 6 (fun (r4 : Int32) (u5 : pa_S) => (if 0 ≤ r4 then (wp_X5_takeNumber u5 (fun (r7 : Int32) (u8 : pa_S) => (if r7 < 0 then post 0 u8 else (wp_X5_emit u8 ((3 * r1) + r4) r7 (fun (r10 : Int32) (u11 : pa_S) => (if r10 = 0 then post 0 u11 else post 1 u11)))))) else post 0 u5))) else post 0 u2)))
set_option maxRecDepth 100000 in
set_option maxHeartbeats 4000000 in
theorem tb_X5_isTest_0 {p : Program} {l : Launch} {e : Env} {s : State} {m : MethodId} {args : Array Value} {below : List Frame} {meth : Method} {c : Code} {A : Nat → Prop} {D : va_G} {g : pa_G} {q : Nat → Nat → Nat} {u0 : pa_S} {post : Int32 → pa_S → Prop} (hE : pa_Fx p s m args meth c A D g 4 cX5_isTest RX5) (hr : meth.sig.returnType = (some .boolean)) (hw : wb_X5_isTest_0 u0 post) : pa_At p l e (pa_rm 7) s m args below meth c (MQ below (pa_Qc g D q (fun r => some (.int r)) post A) args s 0 0 A) A D g 4 0 0 q u0 0 [(0, .ref (q 10 0))] [] := by
  refine pa_aload_n hE dX5_isTest_0 rfl 0 rfl ?_
  refine pa_ldcS hE dX5_isTest_1 (i := 6) rfl ?_
  refine pa_callVi hE (ct_X5_takeOneOf l g D q u0 0 _ (by decide) hw) cv_RX5_92 pa_in10 rfl rfl rfl (pa_hR (by omega) (by decide)) rfl (Nat.le_of_ble_eq_true rfl) dX5_isTest_3 (fun r1 u2 hw => ?_)
  refine pa_istore_n hE dX5_isTest_6 rfl (by decide) (lvr := [(0, .ref (q 10 0))]) rfl ?_
  refine pa_iload_n hE dX5_isTest_7 rfl 0 rfl ?_
  refine pa_if_ge hE dX5_isTest_8 (tgt := 13) (by decide) (fun h3 => ?_) (fun h3 => ?_)
  · have hw := Eq.mp (if_pos h3) hw
    refine pa_aload_n hE dX5_isTest_13 rfl 1 rfl ?_
    refine pa_ldcS hE dX5_isTest_14 (i := 7) rfl ?_
    refine pa_callVi hE (ct_X5_takeOneOf l g D q u2 6 _ (by decide) hw) cv_RX5_92 pa_in10 rfl rfl rfl (pa_hR (by omega) (by decide)) rfl (Nat.le_of_ble_eq_true rfl) dX5_isTest_16 (fun r4 u5 hw => ?_)
    refine pa_istore_n hE dX5_isTest_19 rfl (by decide) (lvr := [(1, .int r1), (0, .ref (q 10 0))]) rfl ?_
    refine pa_iload_n hE dX5_isTest_20 rfl 0 rfl ?_
    refine pa_if_ge hE dX5_isTest_21 (tgt := 26) (by decide) (fun h6 => ?_) (fun h6 => ?_)
    · have hw := Eq.mp (if_pos h6) hw
      refine pa_aload_n hE dX5_isTest_26 rfl 2 rfl ?_
      refine pa_callVi hE (ct_X5_takeNumber l g D q u5 _ hw) cv_RX5_61 pa_in10 rfl rfl rfl (pa_hR (by omega) (by decide)) rfl (Nat.le_of_ble_eq_true rfl) dX5_isTest_27 (fun r7 u8 hw => ?_)
      refine pa_istore_n hE dX5_isTest_30 rfl (by decide) (lvr := [(2, .int r4), (1, .int r1), (0, .ref (q 10 0))]) rfl ?_
      refine pa_iload_n hE dX5_isTest_31 rfl 0 rfl ?_
      refine pa_if_lt hE dX5_isTest_32 (tgt := 52) (by decide) (fun h9 => ?_) (fun h9 => ?_)
      · have hw := Eq.mp (if_pos h9) hw
        refine pa_iconst hE dX5_isTest_52 (v := 0) (by decide) ?_
        exact pa_zret hE hr (by decide) hw rfl dX5_isTest_53
      · have hw := Eq.mp (if_neg h9) hw
        refine pa_aload_n hE dX5_isTest_35 rfl 3 rfl ?_
        refine pa_iconst hE dX5_isTest_36 (v := 3) (by decide) ?_
        refine pa_iload_n hE dX5_isTest_37 rfl 2 rfl ?_
        refine pa_imul hE dX5_isTest_38 ?_
        refine pa_iload_n hE dX5_isTest_39 rfl 1 rfl ?_
        refine pa_iadd hE dX5_isTest_40 ?_
        refine pa_iload_n hE dX5_isTest_41 rfl 0 rfl ?_
        refine pa_callVi hE (ct_X5_emit l g D q u8 ((3 * r1) + r4) r7 _ hw) cv_RX5_77 pa_in10 rfl rfl rfl (pa_hR (by omega) (by decide)) rfl (Nat.le_of_ble_eq_true rfl) dX5_isTest_42 (fun r10 u11 hw => ?_)
        refine pa_if_eq hE dX5_isTest_45 (tgt := 52) (by decide) (fun h12 => ?_) (fun h12 => ?_)
        · have hw := Eq.mp (if_pos h12) hw
          refine pa_iconst hE dX5_isTest_52 (v := 0) (by decide) ?_
          exact pa_zret hE hr (by decide) hw rfl dX5_isTest_53
        · have hw := Eq.mp (if_neg h12) hw
          refine pa_iconst hE dX5_isTest_48 (v := 1) (by decide) ?_
          refine pa_goto hE dX5_isTest_49 (tgt := 53) (by decide) ?_
          exact pa_zret hE hr (by decide) hw rfl dX5_isTest_53
    · have hw := Eq.mp (if_neg h6) hw
      refine pa_iconst hE dX5_isTest_24 (v := 0) (by decide) ?_
      exact pa_zret hE hr (by decide) hw rfl dX5_isTest_25
  · have hw := Eq.mp (if_neg h3) hw
    refine pa_iconst hE dX5_isTest_11 (v := 0) (by decide) ?_
    exact pa_zret hE hr (by decide) hw rfl dX5_isTest_12
def wp_X5_isTest (u0 : pa_S) (post : Int32 → pa_S → Prop) : Prop := wb_X5_isTest_0 u0 post
theorem ct_X5_isTest (l : Launch) (g : pa_G) (D : va_G) (q : Nat → Nat → Nat) (u0 : pa_S) (post : Int32 → pa_S → Prop)  (hw : wp_X5_isTest u0 post) : pa_Ct l yX5_isTest cX5_isTest 4 (some .boolean) 7 g D q u0 [.ref (q 10 0)] (fun r => some (.int r)) post := pa_met rfl rfl (Nat.le_of_ble_eq_true rfl) rfl (fun p e s m args below meth c A hE hr => tb_X5_isTest_0 hE hr  hw)
def wb_X5_isEither_12 (rec_X5_isEither : pa_S → Int32 → (Int32 → pa_S → Prop) → Prop) (rec_X5_isBoth : pa_S → Int32 → (Int32 → pa_S → Prop) → Prop) (rec_X5_isOne : pa_S → Int32 → (Int32 → pa_S → Prop) → Prop) (k12 : pa_S → Int32 → Int32 → Prop) (u0 : pa_S) (x1 : Int32) (x2 : Int32) (post : Int32 → pa_S → Prop) : Prop :=
  (if 100 ≤ x2 then post 1 u0 else (wp_X5_take u0 124 (fun (r5 : Int32) (u6 : pa_S) => (if r5 = 0 then post 1 u6 else (rec_X5_isBoth u6 x1 (fun (r8 : Int32) (u9 : pa_S) => (if r8 = 0 then post 0 u9 else (wp_X5_emit u9 20 0 (fun (r11 : Int32) (u12 : pa_S) => (if r11 = 0 then post 0 u12 else ∀ v14 : Int32, v14 = x2 + 1 → k12 u12 x1 v14))))))))))
set_option maxRecDepth 100000 in
set_option maxHeartbeats 4000000 in
theorem tb_X5_isEither_12 {p : Program} {l : Launch} {e : Env} {s : State} {m : MethodId} {args : Array Value} {below : List Frame} {meth : Method} {c : Code} {A : Nat → Prop} {D : va_G} {g : pa_G} {q : Nat → Nat → Nat} {d : Nat} {rec_X5_isEither : pa_S → Int32 → (Int32 → pa_S → Prop) → Prop} {rec_X5_isBoth : pa_S → Int32 → (Int32 → pa_S → Prop) → Prop} {rec_X5_isOne : pa_S → Int32 → (Int32 → pa_S → Prop) → Prop} {k12 : pa_S → Int32 → Int32 → Prop} {u0 : pa_S} {x1 : Int32} {x2 : Int32} {post : Int32 → pa_S → Prop} (hE : pa_Fx p s m args meth c A D g 3 cX5_isEither RX5) (hr : meth.sig.returnType = (some .boolean)) (hrec_X5_isEither : ∀ (u : pa_S) (x1 : Int32) (po : Int32 → pa_S → Prop), rec_X5_isEither u x1 po → pa_Ct l yX5_isEither cX5_isEither 3 (some .boolean) (8 + d) g D q u [.ref (q 10 0), .int x1] (fun r => some (.int r)) po) (hrec_X5_isBoth : ∀ (u : pa_S) (x1 : Int32) (po : Int32 → pa_S → Prop), rec_X5_isBoth u x1 po → pa_Ct l yX5_isBoth cX5_isBoth 3 (some .boolean) (8 + d) g D q u [.ref (q 10 0), .int x1] (fun r => some (.int r)) po) (hrec_X5_isOne : ∀ (u : pa_S) (x1 : Int32) (po : Int32 → pa_S → Prop), rec_X5_isOne u x1 po → pa_Ct l yX5_isOne cX5_isOne 2 (some .boolean) (8 + d) g D q u [.ref (q 10 0), .int x1] (fun r => some (.int r)) po) (hk12 : ∀ (u : pa_S)  (x1 : Int32) (x2 : Int32), k12 u x1 x2 → pa_At p l e (pa_rm (8 + (d + 1))) s m args below meth c (MQ below (pa_Qc g D q (fun r => some (.int r)) post A) args s 0 0 A) A D g 3 0 0 q u 12 [(0, .ref (q 10 0)), (1, .int x1), (2, .int x2)] []) (hw : wb_X5_isEither_12 rec_X5_isEither rec_X5_isBoth rec_X5_isOne k12 u0 x1 x2 post) : pa_At p l e (pa_rm (8 + (d + 1))) s m args below meth c (MQ below (pa_Qc g D q (fun r => some (.int r)) post A) args s 0 0 A) A D g 3 0 0 q u0 12 [(0, .ref (q 10 0)), (1, .int x1), (2, .int x2)] [] := by
  refine pa_iload_n hE dX5_isEither_12 rfl 2 rfl ?_
  refine pa_bipush hE dX5_isEither_13 (v := 100) (by decide) ?_
  refine pa_icmp_ge hE dX5_isEither_15 (tgt := 53) (by decide) (fun h4 => ?_) (fun h4 => ?_)
  · have hw := Eq.mp (if_pos h4) hw
    refine pa_iconst hE dX5_isEither_53 (v := 1) (by decide) ?_
    exact pa_zret hE hr (by decide) hw rfl dX5_isEither_54
  · have hw := Eq.mp (if_neg h4) hw
    refine pa_aload_n hE dX5_isEither_18 rfl 0 rfl ?_
    refine pa_bipush hE dX5_isEither_19 (v := 124) (by decide) ?_
    refine pa_callVi hE (ct_X5_take l g D q u0 124 _ hw) cv_RX5_42 pa_in10 rfl rfl rfl (pa_hR (by omega) (by decide)) rfl (Nat.le_of_ble_eq_true rfl) dX5_isEither_21 (fun r5 u6 hw => ?_)
    refine pa_if_eq hE dX5_isEither_24 (tgt := 53) (by decide) (fun h7 => ?_) (fun h7 => ?_)
    · have hw := Eq.mp (if_pos h7) hw
      refine pa_iconst hE dX5_isEither_53 (v := 1) (by decide) ?_
      exact pa_zret hE hr (by decide) hw rfl dX5_isEither_54
    · have hw := Eq.mp (if_neg h7) hw
      refine pa_aload_n hE dX5_isEither_27 rfl 0 rfl ?_
      refine pa_iload_n hE dX5_isEither_28 rfl 1 rfl ?_
      refine pa_callVi hE (hrec_X5_isBoth u6 x1 _ hw) cv_RX5_81 pa_in10 rfl rfl rfl (pa_hR (by omega) (by decide)) rfl (Nat.le_of_ble_eq_true rfl) dX5_isEither_29 (fun r8 u9 hw => ?_)
      refine pa_if_eq hE dX5_isEither_32 (tgt := 45) (by decide) (fun h10 => ?_) (fun h10 => ?_)
      · have hw := Eq.mp (if_pos h10) hw
        refine pa_iconst hE dX5_isEither_45 (v := 0) (by decide) ?_
        exact pa_zret hE hr (by decide) hw rfl dX5_isEither_46
      · have hw := Eq.mp (if_neg h10) hw
        refine pa_aload_n hE dX5_isEither_35 rfl 0 rfl ?_
        refine pa_bipush hE dX5_isEither_36 (v := 20) (by decide) ?_
        refine pa_iconst hE dX5_isEither_38 (v := 0) (by decide) ?_
        refine pa_callVi hE (ct_X5_emit l g D q u9 20 0 _ hw) cv_RX5_77 pa_in10 rfl rfl rfl (pa_hR (by omega) (by decide)) rfl (Nat.le_of_ble_eq_true rfl) dX5_isEither_39 (fun r11 u12 hw => ?_)
        refine pa_if_ne hE dX5_isEither_42 (tgt := 47) (by decide) (fun h13 => ?_) (fun h13 => ?_)
        · have hw := Eq.mp (if_neg h13) hw
          refine pa_iinc hE dX5_isEither_47 (v := 1) 2 rfl (by decide) (by decide) (lvr := [(0, .ref (q 10 0)), (1, .int x1)]) rfl (fun v14 ev14 => ?_)
          have hw := hw v14 ev14
          refine pa_goto hE dX5_isEither_50 (tgt := 12) (by decide) ?_
          exact pa_sub [1, 2, 0] rfl (hk12 u12 x1 v14 hw)
        · have hw := Eq.mp (if_pos h13) hw
          refine pa_iconst hE dX5_isEither_45 (v := 0) (by decide) ?_
          exact pa_zret hE hr (by decide) hw rfl dX5_isEither_46
def wl_X5_isEither_12 (rec_X5_isEither : pa_S → Int32 → (Int32 → pa_S → Prop) → Prop) (rec_X5_isBoth : pa_S → Int32 → (Int32 → pa_S → Prop) → Prop) (rec_X5_isOne : pa_S → Int32 → (Int32 → pa_S → Prop) → Prop) (post : Int32 → pa_S → Prop) : Nat → pa_S → Int32 → Int32 → Prop
  | 0, _, _, _ => False
  | n + 1, u0, x1, x2 => wb_X5_isEither_12 rec_X5_isEither rec_X5_isBoth rec_X5_isOne (fun u0 x1 x2 => wl_X5_isEither_12 rec_X5_isEither rec_X5_isBoth rec_X5_isOne post n u0 x1 x2) u0 x1 x2 post
set_option maxRecDepth 100000 in
set_option maxHeartbeats 4000000 in
theorem tl_X5_isEither_12 {p : Program} {l : Launch} {e : Env} {s : State} {m : MethodId} {args : Array Value} {below : List Frame} {meth : Method} {c : Code} {A : Nat → Prop} {D : va_G} {g : pa_G} {q : Nat → Nat → Nat} {d : Nat} {rec_X5_isEither : pa_S → Int32 → (Int32 → pa_S → Prop) → Prop} {rec_X5_isBoth : pa_S → Int32 → (Int32 → pa_S → Prop) → Prop} {rec_X5_isOne : pa_S → Int32 → (Int32 → pa_S → Prop) → Prop} {post : Int32 → pa_S → Prop} (hE : pa_Fx p s m args meth c A D g 3 cX5_isEither RX5) (hr : meth.sig.returnType = (some .boolean)) (hrec_X5_isEither : ∀ (u : pa_S) (x1 : Int32) (po : Int32 → pa_S → Prop), rec_X5_isEither u x1 po → pa_Ct l yX5_isEither cX5_isEither 3 (some .boolean) (8 + d) g D q u [.ref (q 10 0), .int x1] (fun r => some (.int r)) po) (hrec_X5_isBoth : ∀ (u : pa_S) (x1 : Int32) (po : Int32 → pa_S → Prop), rec_X5_isBoth u x1 po → pa_Ct l yX5_isBoth cX5_isBoth 3 (some .boolean) (8 + d) g D q u [.ref (q 10 0), .int x1] (fun r => some (.int r)) po) (hrec_X5_isOne : ∀ (u : pa_S) (x1 : Int32) (po : Int32 → pa_S → Prop), rec_X5_isOne u x1 po → pa_Ct l yX5_isOne cX5_isOne 2 (some .boolean) (8 + d) g D q u [.ref (q 10 0), .int x1] (fun r => some (.int r)) po) : ∀ (n : Nat) (u0 : pa_S) (x1 : Int32) (x2 : Int32), wl_X5_isEither_12 rec_X5_isEither rec_X5_isBoth rec_X5_isOne post n u0 x1 x2 → pa_At p l e (pa_rm (8 + (d + 1))) s m args below meth c (MQ below (pa_Qc g D q (fun r => some (.int r)) post A) args s 0 0 A) A D g 3 0 0 q u0 12 [(0, .ref (q 10 0)), (1, .int x1), (2, .int x2)] []
  | 0, _, _, _, hw => absurd hw (by simp only [wl_X5_isEither_12]; exact fun z => z)
  | n + 1, u0, x1, x2, hw => tb_X5_isEither_12 hE hr hrec_X5_isEither hrec_X5_isBoth hrec_X5_isOne (fun u0 x1 x2  hw1 => tl_X5_isEither_12 hE hr hrec_X5_isEither hrec_X5_isBoth hrec_X5_isOne n u0 x1 x2  hw1) hw
def wb_X5_isEither_0 (rec_X5_isEither : pa_S → Int32 → (Int32 → pa_S → Prop) → Prop) (rec_X5_isBoth : pa_S → Int32 → (Int32 → pa_S → Prop) → Prop) (rec_X5_isOne : pa_S → Int32 → (Int32 → pa_S → Prop) → Prop) (u0 : pa_S) (x1 : Int32) (post : Int32 → pa_S → Prop) : Prop :=
  (rec_X5_isBoth u0 x1 (fun (r1 : Int32) (u2 : pa_S) => (if r1 = 0 then post 0 u2 else wl_X5_isEither_12 rec_X5_isEither rec_X5_isBoth rec_X5_isOne post 5000 u2 x1 0)))
set_option maxRecDepth 100000 in
set_option maxHeartbeats 4000000 in
theorem tb_X5_isEither_0 {p : Program} {l : Launch} {e : Env} {s : State} {m : MethodId} {args : Array Value} {below : List Frame} {meth : Method} {c : Code} {A : Nat → Prop} {D : va_G} {g : pa_G} {q : Nat → Nat → Nat} {d : Nat} {rec_X5_isEither : pa_S → Int32 → (Int32 → pa_S → Prop) → Prop} {rec_X5_isBoth : pa_S → Int32 → (Int32 → pa_S → Prop) → Prop} {rec_X5_isOne : pa_S → Int32 → (Int32 → pa_S → Prop) → Prop} {u0 : pa_S} {x1 : Int32} {post : Int32 → pa_S → Prop} (hE : pa_Fx p s m args meth c A D g 3 cX5_isEither RX5) (hr : meth.sig.returnType = (some .boolean)) (hrec_X5_isEither : ∀ (u : pa_S) (x1 : Int32) (po : Int32 → pa_S → Prop), rec_X5_isEither u x1 po → pa_Ct l yX5_isEither cX5_isEither 3 (some .boolean) (8 + d) g D q u [.ref (q 10 0), .int x1] (fun r => some (.int r)) po) (hrec_X5_isBoth : ∀ (u : pa_S) (x1 : Int32) (po : Int32 → pa_S → Prop), rec_X5_isBoth u x1 po → pa_Ct l yX5_isBoth cX5_isBoth 3 (some .boolean) (8 + d) g D q u [.ref (q 10 0), .int x1] (fun r => some (.int r)) po) (hrec_X5_isOne : ∀ (u : pa_S) (x1 : Int32) (po : Int32 → pa_S → Prop), rec_X5_isOne u x1 po → pa_Ct l yX5_isOne cX5_isOne 2 (some .boolean) (8 + d) g D q u [.ref (q 10 0), .int x1] (fun r => some (.int r)) po) (hw : wb_X5_isEither_0 rec_X5_isEither rec_X5_isBoth rec_X5_isOne u0 x1 post) : pa_At p l e (pa_rm (8 + (d + 1))) s m args below meth c (MQ below (pa_Qc g D q (fun r => some (.int r)) post A) args s 0 0 A) A D g 3 0 0 q u0 0 [(0, .ref (q 10 0)), (1, .int x1)] [] := by
  refine pa_aload_n hE dX5_isEither_0 rfl 0 rfl ?_
  refine pa_iload_n hE dX5_isEither_1 rfl 1 rfl ?_
  refine pa_callVi hE (hrec_X5_isBoth u0 x1 _ hw) cv_RX5_81 pa_in10 rfl rfl rfl (pa_hR (by omega) (by decide)) rfl (Nat.le_of_ble_eq_true rfl) dX5_isEither_2 (fun r1 u2 hw => ?_)
  refine pa_if_ne hE dX5_isEither_5 (tgt := 10) (by decide) (fun h3 => ?_) (fun h3 => ?_)
  · have hw := Eq.mp (if_neg h3) hw
    refine pa_iconst hE dX5_isEither_10 (v := 0) (by decide) ?_
    refine pa_istore_n hE dX5_isEither_11 rfl (by decide) (lvr := [(0, .ref (q 10 0)), (1, .int x1)]) rfl ?_
    exact pa_sub [1, 2, 0] rfl (tl_X5_isEither_12 hE hr hrec_X5_isEither hrec_X5_isBoth hrec_X5_isOne 5000 u2 x1 0 hw)
  · have hw := Eq.mp (if_pos h3) hw
    refine pa_iconst hE dX5_isEither_8 (v := 0) (by decide) ?_
    exact pa_zret hE hr (by decide) hw rfl dX5_isEither_9
def wb_X5_isBoth_12 (rec_X5_isEither : pa_S → Int32 → (Int32 → pa_S → Prop) → Prop) (rec_X5_isBoth : pa_S → Int32 → (Int32 → pa_S → Prop) → Prop) (rec_X5_isOne : pa_S → Int32 → (Int32 → pa_S → Prop) → Prop) (k12 : pa_S → Int32 → Int32 → Prop) (u0 : pa_S) (x1 : Int32) (x2 : Int32) (post : Int32 → pa_S → Prop) : Prop :=
  (if 100 ≤ x2 then post 1 u0 else (wp_X5_take u0 38 (fun (r5 : Int32) (u6 : pa_S) => (if r5 = 0 then post 1 u6 else (rec_X5_isOne u6 x1 (fun (r8 : Int32) (u9 : pa_S) => (if r8 = 0 then post 0 u9 else (wp_X5_emit u9 19 0 (fun (r11 : Int32) (u12 : pa_S) => (if r11 = 0 then post 0 u12 else ∀ v14 : Int32, v14 = x2 + 1 → k12 u12 x1 v14))))))))))
set_option maxRecDepth 100000 in
set_option maxHeartbeats 4000000 in
theorem tb_X5_isBoth_12 {p : Program} {l : Launch} {e : Env} {s : State} {m : MethodId} {args : Array Value} {below : List Frame} {meth : Method} {c : Code} {A : Nat → Prop} {D : va_G} {g : pa_G} {q : Nat → Nat → Nat} {d : Nat} {rec_X5_isEither : pa_S → Int32 → (Int32 → pa_S → Prop) → Prop} {rec_X5_isBoth : pa_S → Int32 → (Int32 → pa_S → Prop) → Prop} {rec_X5_isOne : pa_S → Int32 → (Int32 → pa_S → Prop) → Prop} {k12 : pa_S → Int32 → Int32 → Prop} {u0 : pa_S} {x1 : Int32} {x2 : Int32} {post : Int32 → pa_S → Prop} (hE : pa_Fx p s m args meth c A D g 3 cX5_isBoth RX5) (hr : meth.sig.returnType = (some .boolean)) (hrec_X5_isEither : ∀ (u : pa_S) (x1 : Int32) (po : Int32 → pa_S → Prop), rec_X5_isEither u x1 po → pa_Ct l yX5_isEither cX5_isEither 3 (some .boolean) (8 + d) g D q u [.ref (q 10 0), .int x1] (fun r => some (.int r)) po) (hrec_X5_isBoth : ∀ (u : pa_S) (x1 : Int32) (po : Int32 → pa_S → Prop), rec_X5_isBoth u x1 po → pa_Ct l yX5_isBoth cX5_isBoth 3 (some .boolean) (8 + d) g D q u [.ref (q 10 0), .int x1] (fun r => some (.int r)) po) (hrec_X5_isOne : ∀ (u : pa_S) (x1 : Int32) (po : Int32 → pa_S → Prop), rec_X5_isOne u x1 po → pa_Ct l yX5_isOne cX5_isOne 2 (some .boolean) (8 + d) g D q u [.ref (q 10 0), .int x1] (fun r => some (.int r)) po) (hk12 : ∀ (u : pa_S)  (x1 : Int32) (x2 : Int32), k12 u x1 x2 → pa_At p l e (pa_rm (8 + (d + 1))) s m args below meth c (MQ below (pa_Qc g D q (fun r => some (.int r)) post A) args s 0 0 A) A D g 3 0 0 q u 12 [(0, .ref (q 10 0)), (1, .int x1), (2, .int x2)] []) (hw : wb_X5_isBoth_12 rec_X5_isEither rec_X5_isBoth rec_X5_isOne k12 u0 x1 x2 post) : pa_At p l e (pa_rm (8 + (d + 1))) s m args below meth c (MQ below (pa_Qc g D q (fun r => some (.int r)) post A) args s 0 0 A) A D g 3 0 0 q u0 12 [(0, .ref (q 10 0)), (1, .int x1), (2, .int x2)] [] := by
  refine pa_iload_n hE dX5_isBoth_12 rfl 2 rfl ?_
  refine pa_bipush hE dX5_isBoth_13 (v := 100) (by decide) ?_
  refine pa_icmp_ge hE dX5_isBoth_15 (tgt := 53) (by decide) (fun h4 => ?_) (fun h4 => ?_)
  · have hw := Eq.mp (if_pos h4) hw
    refine pa_iconst hE dX5_isBoth_53 (v := 1) (by decide) ?_
    exact pa_zret hE hr (by decide) hw rfl dX5_isBoth_54
  · have hw := Eq.mp (if_neg h4) hw
    refine pa_aload_n hE dX5_isBoth_18 rfl 0 rfl ?_
    refine pa_bipush hE dX5_isBoth_19 (v := 38) (by decide) ?_
    refine pa_callVi hE (ct_X5_take l g D q u0 38 _ hw) cv_RX5_42 pa_in10 rfl rfl rfl (pa_hR (by omega) (by decide)) rfl (Nat.le_of_ble_eq_true rfl) dX5_isBoth_21 (fun r5 u6 hw => ?_)
    refine pa_if_eq hE dX5_isBoth_24 (tgt := 53) (by decide) (fun h7 => ?_) (fun h7 => ?_)
    · have hw := Eq.mp (if_pos h7) hw
      refine pa_iconst hE dX5_isBoth_53 (v := 1) (by decide) ?_
      exact pa_zret hE hr (by decide) hw rfl dX5_isBoth_54
    · have hw := Eq.mp (if_neg h7) hw
      refine pa_aload_n hE dX5_isBoth_27 rfl 0 rfl ?_
      refine pa_iload_n hE dX5_isBoth_28 rfl 1 rfl ?_
      refine pa_callVi hE (hrec_X5_isOne u6 x1 _ hw) cv_RX5_84 pa_in10 rfl rfl rfl (pa_hR (by omega) (by decide)) rfl (Nat.le_of_ble_eq_true rfl) dX5_isBoth_29 (fun r8 u9 hw => ?_)
      refine pa_if_eq hE dX5_isBoth_32 (tgt := 45) (by decide) (fun h10 => ?_) (fun h10 => ?_)
      · have hw := Eq.mp (if_pos h10) hw
        refine pa_iconst hE dX5_isBoth_45 (v := 0) (by decide) ?_
        exact pa_zret hE hr (by decide) hw rfl dX5_isBoth_46
      · have hw := Eq.mp (if_neg h10) hw
        refine pa_aload_n hE dX5_isBoth_35 rfl 0 rfl ?_
        refine pa_bipush hE dX5_isBoth_36 (v := 19) (by decide) ?_
        refine pa_iconst hE dX5_isBoth_38 (v := 0) (by decide) ?_
        refine pa_callVi hE (ct_X5_emit l g D q u9 19 0 _ hw) cv_RX5_77 pa_in10 rfl rfl rfl (pa_hR (by omega) (by decide)) rfl (Nat.le_of_ble_eq_true rfl) dX5_isBoth_39 (fun r11 u12 hw => ?_)
        refine pa_if_ne hE dX5_isBoth_42 (tgt := 47) (by decide) (fun h13 => ?_) (fun h13 => ?_)
        · have hw := Eq.mp (if_neg h13) hw
          refine pa_iinc hE dX5_isBoth_47 (v := 1) 2 rfl (by decide) (by decide) (lvr := [(0, .ref (q 10 0)), (1, .int x1)]) rfl (fun v14 ev14 => ?_)
          have hw := hw v14 ev14
          refine pa_goto hE dX5_isBoth_50 (tgt := 12) (by decide) ?_
          exact pa_sub [1, 2, 0] rfl (hk12 u12 x1 v14 hw)
        · have hw := Eq.mp (if_pos h13) hw
          refine pa_iconst hE dX5_isBoth_45 (v := 0) (by decide) ?_
          exact pa_zret hE hr (by decide) hw rfl dX5_isBoth_46
def wl_X5_isBoth_12 (rec_X5_isEither : pa_S → Int32 → (Int32 → pa_S → Prop) → Prop) (rec_X5_isBoth : pa_S → Int32 → (Int32 → pa_S → Prop) → Prop) (rec_X5_isOne : pa_S → Int32 → (Int32 → pa_S → Prop) → Prop) (post : Int32 → pa_S → Prop) : Nat → pa_S → Int32 → Int32 → Prop
  | 0, _, _, _ => False
  | n + 1, u0, x1, x2 => wb_X5_isBoth_12 rec_X5_isEither rec_X5_isBoth rec_X5_isOne (fun u0 x1 x2 => wl_X5_isBoth_12 rec_X5_isEither rec_X5_isBoth rec_X5_isOne post n u0 x1 x2) u0 x1 x2 post
set_option maxRecDepth 100000 in
set_option maxHeartbeats 4000000 in
theorem tl_X5_isBoth_12 {p : Program} {l : Launch} {e : Env} {s : State} {m : MethodId} {args : Array Value} {below : List Frame} {meth : Method} {c : Code} {A : Nat → Prop} {D : va_G} {g : pa_G} {q : Nat → Nat → Nat} {d : Nat} {rec_X5_isEither : pa_S → Int32 → (Int32 → pa_S → Prop) → Prop} {rec_X5_isBoth : pa_S → Int32 → (Int32 → pa_S → Prop) → Prop} {rec_X5_isOne : pa_S → Int32 → (Int32 → pa_S → Prop) → Prop} {post : Int32 → pa_S → Prop} (hE : pa_Fx p s m args meth c A D g 3 cX5_isBoth RX5) (hr : meth.sig.returnType = (some .boolean)) (hrec_X5_isEither : ∀ (u : pa_S) (x1 : Int32) (po : Int32 → pa_S → Prop), rec_X5_isEither u x1 po → pa_Ct l yX5_isEither cX5_isEither 3 (some .boolean) (8 + d) g D q u [.ref (q 10 0), .int x1] (fun r => some (.int r)) po) (hrec_X5_isBoth : ∀ (u : pa_S) (x1 : Int32) (po : Int32 → pa_S → Prop), rec_X5_isBoth u x1 po → pa_Ct l yX5_isBoth cX5_isBoth 3 (some .boolean) (8 + d) g D q u [.ref (q 10 0), .int x1] (fun r => some (.int r)) po) (hrec_X5_isOne : ∀ (u : pa_S) (x1 : Int32) (po : Int32 → pa_S → Prop), rec_X5_isOne u x1 po → pa_Ct l yX5_isOne cX5_isOne 2 (some .boolean) (8 + d) g D q u [.ref (q 10 0), .int x1] (fun r => some (.int r)) po) : ∀ (n : Nat) (u0 : pa_S) (x1 : Int32) (x2 : Int32), wl_X5_isBoth_12 rec_X5_isEither rec_X5_isBoth rec_X5_isOne post n u0 x1 x2 → pa_At p l e (pa_rm (8 + (d + 1))) s m args below meth c (MQ below (pa_Qc g D q (fun r => some (.int r)) post A) args s 0 0 A) A D g 3 0 0 q u0 12 [(0, .ref (q 10 0)), (1, .int x1), (2, .int x2)] []
  | 0, _, _, _, hw => absurd hw (by simp only [wl_X5_isBoth_12]; exact fun z => z)
  | n + 1, u0, x1, x2, hw => tb_X5_isBoth_12 hE hr hrec_X5_isEither hrec_X5_isBoth hrec_X5_isOne (fun u0 x1 x2  hw1 => tl_X5_isBoth_12 hE hr hrec_X5_isEither hrec_X5_isBoth hrec_X5_isOne n u0 x1 x2  hw1) hw
def wb_X5_isBoth_0 (rec_X5_isEither : pa_S → Int32 → (Int32 → pa_S → Prop) → Prop) (rec_X5_isBoth : pa_S → Int32 → (Int32 → pa_S → Prop) → Prop) (rec_X5_isOne : pa_S → Int32 → (Int32 → pa_S → Prop) → Prop) (u0 : pa_S) (x1 : Int32) (post : Int32 → pa_S → Prop) : Prop :=
  (rec_X5_isOne u0 x1 (fun (r1 : Int32) (u2 : pa_S) => (if r1 = 0 then post 0 u2 else wl_X5_isBoth_12 rec_X5_isEither rec_X5_isBoth rec_X5_isOne post 5000 u2 x1 0)))
set_option maxRecDepth 100000 in
set_option maxHeartbeats 4000000 in
theorem tb_X5_isBoth_0 {p : Program} {l : Launch} {e : Env} {s : State} {m : MethodId} {args : Array Value} {below : List Frame} {meth : Method} {c : Code} {A : Nat → Prop} {D : va_G} {g : pa_G} {q : Nat → Nat → Nat} {d : Nat} {rec_X5_isEither : pa_S → Int32 → (Int32 → pa_S → Prop) → Prop} {rec_X5_isBoth : pa_S → Int32 → (Int32 → pa_S → Prop) → Prop} {rec_X5_isOne : pa_S → Int32 → (Int32 → pa_S → Prop) → Prop} {u0 : pa_S} {x1 : Int32} {post : Int32 → pa_S → Prop} (hE : pa_Fx p s m args meth c A D g 3 cX5_isBoth RX5) (hr : meth.sig.returnType = (some .boolean)) (hrec_X5_isEither : ∀ (u : pa_S) (x1 : Int32) (po : Int32 → pa_S → Prop), rec_X5_isEither u x1 po → pa_Ct l yX5_isEither cX5_isEither 3 (some .boolean) (8 + d) g D q u [.ref (q 10 0), .int x1] (fun r => some (.int r)) po) (hrec_X5_isBoth : ∀ (u : pa_S) (x1 : Int32) (po : Int32 → pa_S → Prop), rec_X5_isBoth u x1 po → pa_Ct l yX5_isBoth cX5_isBoth 3 (some .boolean) (8 + d) g D q u [.ref (q 10 0), .int x1] (fun r => some (.int r)) po) (hrec_X5_isOne : ∀ (u : pa_S) (x1 : Int32) (po : Int32 → pa_S → Prop), rec_X5_isOne u x1 po → pa_Ct l yX5_isOne cX5_isOne 2 (some .boolean) (8 + d) g D q u [.ref (q 10 0), .int x1] (fun r => some (.int r)) po) (hw : wb_X5_isBoth_0 rec_X5_isEither rec_X5_isBoth rec_X5_isOne u0 x1 post) : pa_At p l e (pa_rm (8 + (d + 1))) s m args below meth c (MQ below (pa_Qc g D q (fun r => some (.int r)) post A) args s 0 0 A) A D g 3 0 0 q u0 0 [(0, .ref (q 10 0)), (1, .int x1)] [] := by
  refine pa_aload_n hE dX5_isBoth_0 rfl 0 rfl ?_
  refine pa_iload_n hE dX5_isBoth_1 rfl 1 rfl ?_
  refine pa_callVi hE (hrec_X5_isOne u0 x1 _ hw) cv_RX5_84 pa_in10 rfl rfl rfl (pa_hR (by omega) (by decide)) rfl (Nat.le_of_ble_eq_true rfl) dX5_isBoth_2 (fun r1 u2 hw => ?_)
  refine pa_if_ne hE dX5_isBoth_5 (tgt := 10) (by decide) (fun h3 => ?_) (fun h3 => ?_)
  · have hw := Eq.mp (if_neg h3) hw
    refine pa_iconst hE dX5_isBoth_10 (v := 0) (by decide) ?_
    refine pa_istore_n hE dX5_isBoth_11 rfl (by decide) (lvr := [(0, .ref (q 10 0)), (1, .int x1)]) rfl ?_
    exact pa_sub [1, 2, 0] rfl (tl_X5_isBoth_12 hE hr hrec_X5_isEither hrec_X5_isBoth hrec_X5_isOne 5000 u2 x1 0 hw)
  · have hw := Eq.mp (if_pos h3) hw
    refine pa_iconst hE dX5_isBoth_8 (v := 0) (by decide) ?_
    exact pa_zret hE hr (by decide) hw rfl dX5_isBoth_9
def wb_X5_isOne_79 (rec_X5_isEither : pa_S → Int32 → (Int32 → pa_S → Prop) → Prop) (rec_X5_isBoth : pa_S → Int32 → (Int32 → pa_S → Prop) → Prop) (rec_X5_isOne : pa_S → Int32 → (Int32 → pa_S → Prop) → Prop) (u0 : pa_S) (post : Int32 → pa_S → Prop) : Prop :=
  (wp_X5_isTest u0 (fun (r3 : Int32) (u4 : pa_S) => (r3 &&& 1 = r3) ∧ post r3 u4))
set_option maxRecDepth 100000 in
set_option maxHeartbeats 4000000 in
theorem tb_X5_isOne_79 {p : Program} {l : Launch} {e : Env} {s : State} {m : MethodId} {args : Array Value} {below : List Frame} {meth : Method} {c : Code} {A : Nat → Prop} {D : va_G} {g : pa_G} {q : Nat → Nat → Nat} {d : Nat} {rec_X5_isEither : pa_S → Int32 → (Int32 → pa_S → Prop) → Prop} {rec_X5_isBoth : pa_S → Int32 → (Int32 → pa_S → Prop) → Prop} {rec_X5_isOne : pa_S → Int32 → (Int32 → pa_S → Prop) → Prop} {u0 : pa_S} {post : Int32 → pa_S → Prop} (hE : pa_Fx p s m args meth c A D g 2 cX5_isOne RX5) (hr : meth.sig.returnType = (some .boolean)) (hrec_X5_isEither : ∀ (u : pa_S) (x1 : Int32) (po : Int32 → pa_S → Prop), rec_X5_isEither u x1 po → pa_Ct l yX5_isEither cX5_isEither 3 (some .boolean) (8 + d) g D q u [.ref (q 10 0), .int x1] (fun r => some (.int r)) po) (hrec_X5_isBoth : ∀ (u : pa_S) (x1 : Int32) (po : Int32 → pa_S → Prop), rec_X5_isBoth u x1 po → pa_Ct l yX5_isBoth cX5_isBoth 3 (some .boolean) (8 + d) g D q u [.ref (q 10 0), .int x1] (fun r => some (.int r)) po) (hrec_X5_isOne : ∀ (u : pa_S) (x1 : Int32) (po : Int32 → pa_S → Prop), rec_X5_isOne u x1 po → pa_Ct l yX5_isOne cX5_isOne 2 (some .boolean) (8 + d) g D q u [.ref (q 10 0), .int x1] (fun r => some (.int r)) po) (hw : wb_X5_isOne_79 rec_X5_isEither rec_X5_isBoth rec_X5_isOne u0 post) : pa_At p l e (pa_rm (8 + (d + 1))) s m args below meth c (MQ below (pa_Qc g D q (fun r => some (.int r)) post A) args s 0 0 A) A D g 2 0 0 q u0 79 [(0, .ref (q 10 0))] [] := by
  refine pa_aload_n hE dX5_isOne_79 rfl 0 rfl ?_
  refine pa_callVi hE (ct_X5_isTest l g D q u0 _ hw) cv_RX5_87 pa_in10 rfl rfl rfl (pa_hR (by omega) (by decide)) rfl (Nat.le_of_ble_eq_true rfl) dX5_isOne_80 (fun r3 u4 hw => ?_)
  obtain ⟨h5, hw⟩ := hw
  exact pa_zret hE hr (congrArg Value.int h5) hw rfl dX5_isOne_83
def wb_X5_isOne_40 (rec_X5_isEither : pa_S → Int32 → (Int32 → pa_S → Prop) → Prop) (rec_X5_isBoth : pa_S → Int32 → (Int32 → pa_S → Prop) → Prop) (rec_X5_isOne : pa_S → Int32 → (Int32 → pa_S → Prop) → Prop) (u0 : pa_S) (x1 : Int32) (post : Int32 → pa_S → Prop) : Prop :=
  (if 4 ≤ x1 then wb_X5_isOne_79 rec_X5_isEither rec_X5_isBoth rec_X5_isOne u0 post else (wp_X5_take u0 40 (fun (r6 : Int32) (u7 : pa_S) => (if r6 = 0 then wb_X5_isOne_79 rec_X5_isEither rec_X5_isBoth rec_X5_isOne u7 post else (rec_X5_isEither u7 (x1 + 1) (fun (r9 : Int32) (u10 : pa_S) => (if r9 = 0 then post 0 u10 else (wp_X5_take u10 41 (fun (r12 : Int32) (u13 : pa_S) => (if r12 = 0 then post 0 u13 else post 1 u13))))))))))
set_option maxRecDepth 100000 in
set_option maxHeartbeats 4000000 in
theorem tb_X5_isOne_40 {p : Program} {l : Launch} {e : Env} {s : State} {m : MethodId} {args : Array Value} {below : List Frame} {meth : Method} {c : Code} {A : Nat → Prop} {D : va_G} {g : pa_G} {q : Nat → Nat → Nat} {d : Nat} {rec_X5_isEither : pa_S → Int32 → (Int32 → pa_S → Prop) → Prop} {rec_X5_isBoth : pa_S → Int32 → (Int32 → pa_S → Prop) → Prop} {rec_X5_isOne : pa_S → Int32 → (Int32 → pa_S → Prop) → Prop} {u0 : pa_S} {x1 : Int32} {post : Int32 → pa_S → Prop} (hE : pa_Fx p s m args meth c A D g 2 cX5_isOne RX5) (hr : meth.sig.returnType = (some .boolean)) (hrec_X5_isEither : ∀ (u : pa_S) (x1 : Int32) (po : Int32 → pa_S → Prop), rec_X5_isEither u x1 po → pa_Ct l yX5_isEither cX5_isEither 3 (some .boolean) (8 + d) g D q u [.ref (q 10 0), .int x1] (fun r => some (.int r)) po) (hrec_X5_isBoth : ∀ (u : pa_S) (x1 : Int32) (po : Int32 → pa_S → Prop), rec_X5_isBoth u x1 po → pa_Ct l yX5_isBoth cX5_isBoth 3 (some .boolean) (8 + d) g D q u [.ref (q 10 0), .int x1] (fun r => some (.int r)) po) (hrec_X5_isOne : ∀ (u : pa_S) (x1 : Int32) (po : Int32 → pa_S → Prop), rec_X5_isOne u x1 po → pa_Ct l yX5_isOne cX5_isOne 2 (some .boolean) (8 + d) g D q u [.ref (q 10 0), .int x1] (fun r => some (.int r)) po) (hw : wb_X5_isOne_40 rec_X5_isEither rec_X5_isBoth rec_X5_isOne u0 x1 post) : pa_At p l e (pa_rm (8 + (d + 1))) s m args below meth c (MQ below (pa_Qc g D q (fun r => some (.int r)) post A) args s 0 0 A) A D g 2 0 0 q u0 40 [(0, .ref (q 10 0)), (1, .int x1)] [] := by
  refine pa_iload_n hE dX5_isOne_40 rfl 1 rfl ?_
  refine pa_iconst hE dX5_isOne_41 (v := 4) (by decide) ?_
  refine pa_icmp_ge hE dX5_isOne_42 (tgt := 79) (by decide) (fun h2 => ?_) (fun h2 => ?_)
  · have hw := Eq.mp (if_pos h2) hw
    exact pa_sub [0] rfl (tb_X5_isOne_79 hE hr hrec_X5_isEither hrec_X5_isBoth hrec_X5_isOne hw)
  · have hw := Eq.mp (if_neg h2) hw
    refine pa_aload_n hE dX5_isOne_45 rfl 0 rfl ?_
    refine pa_bipush hE dX5_isOne_46 (v := 40) (by decide) ?_
    refine pa_callVi hE (ct_X5_take l g D q u0 40 _ hw) cv_RX5_42 pa_in10 rfl rfl rfl (pa_hR (by omega) (by decide)) rfl (Nat.le_of_ble_eq_true rfl) dX5_isOne_48 (fun r6 u7 hw => ?_)
    refine pa_if_eq hE dX5_isOne_51 (tgt := 79) (by decide) (fun h8 => ?_) (fun h8 => ?_)
    · have hw := Eq.mp (if_pos h8) hw
      exact pa_sub [0] rfl (tb_X5_isOne_79 hE hr hrec_X5_isEither hrec_X5_isBoth hrec_X5_isOne hw)
    · have hw := Eq.mp (if_neg h8) hw
      refine pa_aload_n hE dX5_isOne_54 rfl 0 rfl ?_
      refine pa_iload_n hE dX5_isOne_55 rfl 1 rfl ?_
      refine pa_iconst hE dX5_isOne_56 (v := 1) (by decide) ?_
      refine pa_iadd hE dX5_isOne_57 ?_
      refine pa_callVi hE (hrec_X5_isEither u7 (x1 + 1) _ hw) cv_RX5_73 pa_in10 rfl rfl rfl (pa_hR (by omega) (by decide)) rfl (Nat.le_of_ble_eq_true rfl) dX5_isOne_58 (fun r9 u10 hw => ?_)
      refine pa_if_eq hE dX5_isOne_61 (tgt := 77) (by decide) (fun h11 => ?_) (fun h11 => ?_)
      · have hw := Eq.mp (if_pos h11) hw
        refine pa_iconst hE dX5_isOne_77 (v := 0) (by decide) ?_
        exact pa_zret hE hr (by decide) hw rfl dX5_isOne_78
      · have hw := Eq.mp (if_neg h11) hw
        refine pa_aload_n hE dX5_isOne_64 rfl 0 rfl ?_
        refine pa_bipush hE dX5_isOne_65 (v := 41) (by decide) ?_
        refine pa_callVi hE (ct_X5_take l g D q u10 41 _ hw) cv_RX5_42 pa_in10 rfl rfl rfl (pa_hR (by omega) (by decide)) rfl (Nat.le_of_ble_eq_true rfl) dX5_isOne_67 (fun r12 u13 hw => ?_)
        refine pa_if_eq hE dX5_isOne_70 (tgt := 77) (by decide) (fun h14 => ?_) (fun h14 => ?_)
        · have hw := Eq.mp (if_pos h14) hw
          refine pa_iconst hE dX5_isOne_77 (v := 0) (by decide) ?_
          exact pa_zret hE hr (by decide) hw rfl dX5_isOne_78
        · have hw := Eq.mp (if_neg h14) hw
          refine pa_iconst hE dX5_isOne_73 (v := 1) (by decide) ?_
          refine pa_goto hE dX5_isOne_74 (tgt := 78) (by decide) ?_
          exact pa_zret hE hr (by decide) hw rfl dX5_isOne_78
def wb_X5_isOne_0 (rec_X5_isEither : pa_S → Int32 → (Int32 → pa_S → Prop) → Prop) (rec_X5_isBoth : pa_S → Int32 → (Int32 → pa_S → Prop) → Prop) (rec_X5_isOne : pa_S → Int32 → (Int32 → pa_S → Prop) → Prop) (u0 : pa_S) (x1 : Int32) (post : Int32 → pa_S → Prop) : Prop :=
  (if 4 ≤ x1 then wb_X5_isOne_40 rec_X5_isEither rec_X5_isBoth rec_X5_isOne u0 x1 post else (wp_X5_take u0 33 (fun (r15 : Int32) (u16 : pa_S) => (if r15 = 0 then wb_X5_isOne_40 rec_X5_isEither rec_X5_isBoth rec_X5_isOne u16 x1 post else (rec_X5_isOne u16 (x1 + 1) (fun (r18 : Int32) (u19 : pa_S) => (if r18 = 0 then post 0 u19 else (wp_X5_emit u19 18 0 (fun (r21 : Int32) (u22 : pa_S) => (if r21 = 0 then post 0 u22 else post 1 u22))))))))))
set_option maxRecDepth 100000 in
set_option maxHeartbeats 4000000 in
theorem tb_X5_isOne_0 {p : Program} {l : Launch} {e : Env} {s : State} {m : MethodId} {args : Array Value} {below : List Frame} {meth : Method} {c : Code} {A : Nat → Prop} {D : va_G} {g : pa_G} {q : Nat → Nat → Nat} {d : Nat} {rec_X5_isEither : pa_S → Int32 → (Int32 → pa_S → Prop) → Prop} {rec_X5_isBoth : pa_S → Int32 → (Int32 → pa_S → Prop) → Prop} {rec_X5_isOne : pa_S → Int32 → (Int32 → pa_S → Prop) → Prop} {u0 : pa_S} {x1 : Int32} {post : Int32 → pa_S → Prop} (hE : pa_Fx p s m args meth c A D g 2 cX5_isOne RX5) (hr : meth.sig.returnType = (some .boolean)) (hrec_X5_isEither : ∀ (u : pa_S) (x1 : Int32) (po : Int32 → pa_S → Prop), rec_X5_isEither u x1 po → pa_Ct l yX5_isEither cX5_isEither 3 (some .boolean) (8 + d) g D q u [.ref (q 10 0), .int x1] (fun r => some (.int r)) po) (hrec_X5_isBoth : ∀ (u : pa_S) (x1 : Int32) (po : Int32 → pa_S → Prop), rec_X5_isBoth u x1 po → pa_Ct l yX5_isBoth cX5_isBoth 3 (some .boolean) (8 + d) g D q u [.ref (q 10 0), .int x1] (fun r => some (.int r)) po) (hrec_X5_isOne : ∀ (u : pa_S) (x1 : Int32) (po : Int32 → pa_S → Prop), rec_X5_isOne u x1 po → pa_Ct l yX5_isOne cX5_isOne 2 (some .boolean) (8 + d) g D q u [.ref (q 10 0), .int x1] (fun r => some (.int r)) po) (hw : wb_X5_isOne_0 rec_X5_isEither rec_X5_isBoth rec_X5_isOne u0 x1 post) : pa_At p l e (pa_rm (8 + (d + 1))) s m args below meth c (MQ below (pa_Qc g D q (fun r => some (.int r)) post A) args s 0 0 A) A D g 2 0 0 q u0 0 [(0, .ref (q 10 0)), (1, .int x1)] [] := by
  refine pa_iload_n hE dX5_isOne_0 rfl 1 rfl ?_
  refine pa_iconst hE dX5_isOne_1 (v := 4) (by decide) ?_
  refine pa_icmp_ge hE dX5_isOne_2 (tgt := 40) (by decide) (fun h1 => ?_) (fun h1 => ?_)
  · have hw := Eq.mp (if_pos h1) hw
    exact pa_sub [0, 1] rfl (tb_X5_isOne_40 hE hr hrec_X5_isEither hrec_X5_isBoth hrec_X5_isOne hw)
  · have hw := Eq.mp (if_neg h1) hw
    refine pa_aload_n hE dX5_isOne_5 rfl 0 rfl ?_
    refine pa_bipush hE dX5_isOne_6 (v := 33) (by decide) ?_
    refine pa_callVi hE (ct_X5_take l g D q u0 33 _ hw) cv_RX5_42 pa_in10 rfl rfl rfl (pa_hR (by omega) (by decide)) rfl (Nat.le_of_ble_eq_true rfl) dX5_isOne_8 (fun r15 u16 hw => ?_)
    refine pa_if_eq hE dX5_isOne_11 (tgt := 40) (by decide) (fun h17 => ?_) (fun h17 => ?_)
    · have hw := Eq.mp (if_pos h17) hw
      exact pa_sub [0, 1] rfl (tb_X5_isOne_40 hE hr hrec_X5_isEither hrec_X5_isBoth hrec_X5_isOne hw)
    · have hw := Eq.mp (if_neg h17) hw
      refine pa_aload_n hE dX5_isOne_14 rfl 0 rfl ?_
      refine pa_iload_n hE dX5_isOne_15 rfl 1 rfl ?_
      refine pa_iconst hE dX5_isOne_16 (v := 1) (by decide) ?_
      refine pa_iadd hE dX5_isOne_17 ?_
      refine pa_callVi hE (hrec_X5_isOne u16 (x1 + 1) _ hw) cv_RX5_84 pa_in10 rfl rfl rfl (pa_hR (by omega) (by decide)) rfl (Nat.le_of_ble_eq_true rfl) dX5_isOne_18 (fun r18 u19 hw => ?_)
      refine pa_if_eq hE dX5_isOne_21 (tgt := 38) (by decide) (fun h20 => ?_) (fun h20 => ?_)
      · have hw := Eq.mp (if_pos h20) hw
        refine pa_iconst hE dX5_isOne_38 (v := 0) (by decide) ?_
        exact pa_zret hE hr (by decide) hw rfl dX5_isOne_39
      · have hw := Eq.mp (if_neg h20) hw
        refine pa_aload_n hE dX5_isOne_24 rfl 0 rfl ?_
        refine pa_bipush hE dX5_isOne_25 (v := 18) (by decide) ?_
        refine pa_iconst hE dX5_isOne_27 (v := 0) (by decide) ?_
        refine pa_callVi hE (ct_X5_emit l g D q u19 18 0 _ hw) cv_RX5_77 pa_in10 rfl rfl rfl (pa_hR (by omega) (by decide)) rfl (Nat.le_of_ble_eq_true rfl) dX5_isOne_28 (fun r21 u22 hw => ?_)
        refine pa_if_eq hE dX5_isOne_31 (tgt := 38) (by decide) (fun h23 => ?_) (fun h23 => ?_)
        · have hw := Eq.mp (if_pos h23) hw
          refine pa_iconst hE dX5_isOne_38 (v := 0) (by decide) ?_
          exact pa_zret hE hr (by decide) hw rfl dX5_isOne_39
        · have hw := Eq.mp (if_neg h23) hw
          refine pa_iconst hE dX5_isOne_34 (v := 1) (by decide) ?_
          refine pa_goto hE dX5_isOne_35 (tgt := 39) (by decide) ?_
          exact pa_zret hE hr (by decide) hw rfl dX5_isOne_39
def wg_0 : Nat → Nat → pa_S → Int32 → (Int32 → pa_S → Prop) → Prop
  | 0, _, _, _, _ => False
  | d + 1, k, u, a0, po => if k = 0 then wb_X5_isEither_0 (fun u x1 po => wg_0 d 0 u x1 po) (fun u x1 po => wg_0 d 1 u x1 po) (fun u x1 po => wg_0 d 2 u x1 po) u a0 po else if k = 1 then wb_X5_isBoth_0 (fun u x1 po => wg_0 d 0 u x1 po) (fun u x1 po => wg_0 d 1 u x1 po) (fun u x1 po => wg_0 d 2 u x1 po) u a0 po else wb_X5_isOne_0 (fun u x1 po => wg_0 d 0 u x1 po) (fun u x1 po => wg_0 d 1 u x1 po) (fun u x1 po => wg_0 d 2 u x1 po) u a0 po
theorem wge_0_0 {d : Nat} {u : pa_S} {x1 : Int32} {po : Int32 → pa_S → Prop} : wg_0 (d + 1) 0 u x1 po = wb_X5_isEither_0 (fun u x1 po => wg_0 d 0 u x1 po) (fun u x1 po => wg_0 d 1 u x1 po) (fun u x1 po => wg_0 d 2 u x1 po) u x1 po := by
  rw [wg_0]
  exact if_pos rfl
theorem wge_0_1 {d : Nat} {u : pa_S} {x1 : Int32} {po : Int32 → pa_S → Prop} : wg_0 (d + 1) 1 u x1 po = wb_X5_isBoth_0 (fun u x1 po => wg_0 d 0 u x1 po) (fun u x1 po => wg_0 d 1 u x1 po) (fun u x1 po => wg_0 d 2 u x1 po) u x1 po := by
  rw [wg_0]
  exact (if_neg (by decide)).trans (if_pos rfl)
theorem wge_0_2 {d : Nat} {u : pa_S} {x1 : Int32} {po : Int32 → pa_S → Prop} : wg_0 (d + 1) 2 u x1 po = wb_X5_isOne_0 (fun u x1 po => wg_0 d 0 u x1 po) (fun u x1 po => wg_0 d 1 u x1 po) (fun u x1 po => wg_0 d 2 u x1 po) u x1 po := by
  rw [wg_0]
  exact (if_neg (by decide)).trans ((if_neg (by decide)).trans (rfl))
set_option maxRecDepth 100000 in
set_option maxHeartbeats 4000000 in
theorem cg_0 (l : Launch) (g : pa_G) (D : va_G) (q : Nat → Nat → Nat) : ∀ d : Nat, (∀ (u : pa_S) (x1 : Int32) (po : Int32 → pa_S → Prop), wg_0 d 0 u x1 po → pa_Ct l yX5_isEither cX5_isEither 3 (some .boolean) (8 + d) g D q u [.ref (q 10 0), .int x1] (fun r => some (.int r)) po) ∧ (∀ (u : pa_S) (x1 : Int32) (po : Int32 → pa_S → Prop), wg_0 d 1 u x1 po → pa_Ct l yX5_isBoth cX5_isBoth 3 (some .boolean) (8 + d) g D q u [.ref (q 10 0), .int x1] (fun r => some (.int r)) po) ∧ (∀ (u : pa_S) (x1 : Int32) (po : Int32 → pa_S → Prop), wg_0 d 2 u x1 po → pa_Ct l yX5_isOne cX5_isOne 2 (some .boolean) (8 + d) g D q u [.ref (q 10 0), .int x1] (fun r => some (.int r)) po) := by
  intro d
  induction d with
  | zero => exact ⟨fun _ _ _ hw => absurd hw (by simp only [wg_0]; exact fun z => z), fun _ _ _ hw => absurd hw (by simp only [wg_0]; exact fun z => z), fun _ _ _ hw => absurd hw (by simp only [wg_0]; exact fun z => z)⟩
  | succ d ih =>
    obtain ⟨h0, h1, h2⟩ := ih
    refine ⟨?_, ?_, ?_⟩
    · intro u x1 po hw
      exact pa_met rfl rfl (Nat.le_of_ble_eq_true rfl) rfl (fun p e s m args below meth c A hE hr => tb_X5_isEither_0 (d := d) hE hr h0 h1 h2 (Eq.mp wge_0_0 hw))
    · intro u x1 po hw
      exact pa_met rfl rfl (Nat.le_of_ble_eq_true rfl) rfl (fun p e s m args below meth c A hE hr => tb_X5_isBoth_0 (d := d) hE hr h0 h1 h2 (Eq.mp wge_0_1 hw))
    · intro u x1 po hw
      exact pa_met rfl rfl (Nat.le_of_ble_eq_true rfl) rfl (fun p e s m args below meth c A hE hr => tb_X5_isOne_0 (d := d) hE hr h0 h1 h2 (Eq.mp wge_0_2 hw))

def wp_X5_isEither (u0 : pa_S) (x1 : Int32) (post : Int32 → pa_S → Prop) : Prop := wg_0 40 0 u0 x1 post
theorem ct_X5_isEither (l : Launch) (g : pa_G) (D : va_G) (q : Nat → Nat → Nat) (u0 : pa_S) (x1 : Int32) (post : Int32 → pa_S → Prop) (hw : wp_X5_isEither u0 x1 post) : pa_Ct l yX5_isEither cX5_isEither 3 (some .boolean) 48 g D q u0 [.ref (q 10 0), .int x1] (fun r => some (.int r)) post := (cg_0 l g D q 40).1 u0 x1 post hw
def wp_X5_isBoth (u0 : pa_S) (x1 : Int32) (post : Int32 → pa_S → Prop) : Prop := wg_0 40 1 u0 x1 post
theorem ct_X5_isBoth (l : Launch) (g : pa_G) (D : va_G) (q : Nat → Nat → Nat) (u0 : pa_S) (x1 : Int32) (post : Int32 → pa_S → Prop) (hw : wp_X5_isBoth u0 x1 post) : pa_Ct l yX5_isBoth cX5_isBoth 3 (some .boolean) 48 g D q u0 [.ref (q 10 0), .int x1] (fun r => some (.int r)) post := (cg_0 l g D q 40).2.1 u0 x1 post hw
def wp_X5_isOne (u0 : pa_S) (x1 : Int32) (post : Int32 → pa_S → Prop) : Prop := wg_0 40 2 u0 x1 post
theorem ct_X5_isOne (l : Launch) (g : pa_G) (D : va_G) (q : Nat → Nat → Nat) (u0 : pa_S) (x1 : Int32) (post : Int32 → pa_S → Prop) (hw : wp_X5_isOne u0 x1 post) : pa_Ct l yX5_isOne cX5_isOne 2 (some .boolean) 48 g D q u0 [.ref (q 10 0), .int x1] (fun r => some (.int r)) post := (cg_0 l g D q 40).2.2 u0 x1 post hw
def wb_J3_checkIndex_8e157_0 (u0 : pa_S) (x0 : Int32) (x1 : Int32) (post : Int32 → Prop) : Prop :=
  (if x0 < 0 then False else (if x0 < x1 then post x0 else False))
set_option maxRecDepth 100000 in
set_option maxHeartbeats 4000000 in
theorem tb_J3_checkIndex_8e157_0 {p : Program} {l : Launch} {e : Env} {s : State} {m : MethodId} {args : Array Value} {below : List Frame} {meth : Method} {c : Code} {A : Nat → Prop} {D : va_G} {g : pa_G} {q : Nat → Nat → Nat} {u0 : pa_S} {x0 : Int32} {x1 : Int32} {post : Int32 → Prop} (hE : pa_Fx p s m args meth c A D g 3 cJ3_checkIndex_8e157 RJ3) (hr : meth.sig.returnType = (some .int)) (hw : wb_J3_checkIndex_8e157_0 u0 x0 x1 post) : pa_At p l e (pa_rm 2) s m args below meth c (MQ below (pa_Qc g D q (fun r => some (.int r)) (fun r u => u = u0 ∧ post r) A) args s 0 0 A) A D g 3 0 0 q u0 0 [(0, .int x0), (1, .int x1)] [] := by
  refine pa_iload_n hE dJ3_checkIndex_8e157_0 rfl 0 rfl ?_
  refine pa_if_lt hE dJ3_checkIndex_8e157_1 (tgt := 9) (by decide) (fun h1 => ?_) (fun h1 => ?_)
  · have hw := Eq.mp (if_pos h1) hw
    exact absurd hw (fun z => z)
  · have hw := Eq.mp (if_neg h1) hw
    refine pa_iload_n hE dJ3_checkIndex_8e157_4 rfl 0 rfl ?_
    refine pa_iload_n hE dJ3_checkIndex_8e157_5 rfl 1 rfl ?_
    refine pa_icmp_lt hE dJ3_checkIndex_8e157_6 (tgt := 16) (by decide) (fun h2 => ?_) (fun h2 => ?_)
    · have hw := Eq.mp (if_pos h2) hw
      refine pa_iload_n hE dJ3_checkIndex_8e157_16 rfl 0 rfl ?_
      exact pa_iret hE hr ⟨rfl, hw⟩ rfl dJ3_checkIndex_8e157_17
    · have hw := Eq.mp (if_neg h2) hw
      exact absurd hw (fun z => z)
def wp_J3_checkIndex_8e157 (u0 : pa_S) (x0 : Int32) (x1 : Int32) (post : Int32 → Prop) : Prop := wb_J3_checkIndex_8e157_0 u0 x0 x1 post
theorem ct_J3_checkIndex_8e157 (l : Launch) (g : pa_G) (D : va_G) (q : Nat → Nat → Nat) (u0 : pa_S) (x0 : Int32) (x1 : Int32) (v : Value) (hv : v = .null ∨ ∃ t, v = .ref t) (post : Int32 → Prop) (hw : wp_J3_checkIndex_8e157 u0 x0 x1 post) : pa_Ct l yJ3_checkIndex_8e157 cJ3_checkIndex_8e157 3 (some .int) 2 g D q u0 [.int x0, .int x1, v] (fun r => some (.int r)) (fun r u => u = u0 ∧ post r) := by
  rcases hv with rfl | ⟨t, rfl⟩
  · exact pa_met rfl rfl (Nat.le_of_ble_eq_true rfl) rfl (fun p e s m args below meth c A hE hr => pa_sub [0, 1] rfl (tb_J3_checkIndex_8e157_0 hE hr hw))
  · exact pa_met rfl rfl (Nat.le_of_ble_eq_true rfl) rfl (fun p e s m args below meth c A hE hr => pa_sub [0, 1] rfl (tb_J3_checkIndex_8e157_0 hE hr hw))
def wp_J0_checkIndex_df160 (u0 : pa_S) (x0 : Int32) (x1 : Int32) (post : Prop) : Prop := wp_J3_checkIndex_8e157 u0 x0 x1 (fun _ => post)
theorem ct_J0_checkIndex_df160 (l : Launch) (g : pa_G) (D : va_G) (q : Nat → Nat → Nat) (u0 : pa_S) (x0 : Int32) (x1 : Int32) (post : Prop) (hw : wp_J0_checkIndex_df160 u0 x0 x1 post) : pa_Ct l yJ0_checkIndex_df160 cJ0_checkIndex_df160 2 none 3 g D q u0 [.int x0, .int x1] (fun (_ : Unit) => none) (fun (_ : Unit) u => u = u0 ∧ post) := by
  refine pa_met rfl rfl (Nat.le_of_ble_eq_true rfl) rfl (fun p e s m args below meth c A hE hr => ?_)
  refine pa_iload_n hE dJ0_checkIndex_df160_0 rfl 0 rfl ?_
  refine pa_iload_n hE dJ0_checkIndex_df160_1 rfl 1 rfl ?_
  refine pa_getsF hE (pa_m2 182 rfl rfl) dJ0_checkIndex_df160_2 (fun v hv => ?_)
  refine pa_callSri hE (ct_J3_checkIndex_8e157 l g D q u0 x0 x1 v hv _ hw) cs_RJ0_1059 rfl (pa_hR (by omega) (by decide)) rfl (Nat.le_of_ble_eq_true rfl) dJ0_checkIndex_df160_5 (fun r hw => ?_)
  refine pa_pop hE dJ0_checkIndex_df160_8 rfl ?_
  exact pa_vret (r := ()) hE hr ⟨rfl, hw⟩ rfl dJ0_checkIndex_df160_9
def wb_J1_charAt_3b067_0 (u0 : pa_S) (i0 : Nat) (x1 : Int32) (post : Int32 → Prop) : Prop :=
  (wp_J0_checkIndex_df160 u0 x1 (nI (pa_slen.getD i0 0)) ((vp_in x1 (pa_slen.getD i0 0)) ∧ (narrow .char (.int (((((pa_sbyt.getD i0 []).getD x1.toNatClampNeg 0) &&& 255).toUInt32 % 65536).toInt32)) = .int (((((pa_sbyt.getD i0 []).getD x1.toNatClampNeg 0) &&& 255).toUInt32 % 65536).toInt32)) ∧ post (((((pa_sbyt.getD i0 []).getD x1.toNatClampNeg 0) &&& 255).toUInt32 % 65536).toInt32)))
set_option maxRecDepth 100000 in
set_option maxHeartbeats 4000000 in
theorem tb_J1_charAt_3b067_0 {p : Program} {l : Launch} {e : Env} {s : State} {m : MethodId} {args : Array Value} {below : List Frame} {meth : Method} {c : Code} {A : Nat → Prop} {D : va_G} {g : pa_G} {q : Nat → Nat → Nat} {u0 : pa_S} {i0 : Nat} {x1 : Int32} {post : Int32 → Prop} (hE : pa_Fx p s m args meth c A D g 2 cJ1_charAt_3b067 RJ1) (hr : meth.sig.returnType = (some .char)) (hi0 : i0 < 7) (hw : wb_J1_charAt_3b067_0 u0 i0 x1 post) : pa_At p l e (pa_rm 4) s m args below meth c (MQ below (pa_Qc g D q (fun r => some (.int r)) (fun r u => u = u0 ∧ post r) A) args s 0 0 A) A D g 2 0 0 q u0 0 [(0, .ref (g.2.2.2 i0)), (1, .int x1)] [] := by
  refine pa_iload_n hE dJ1_charAt_3b067_0 rfl 1 rfl ?_
  refine pa_aload_n hE dJ1_charAt_3b067_1 rfl 0 rfl ?_
  refine pa_sbn hE hi0 dJ1_charAt_3b067_2 ?_
  refine pa_callSrv hE (ct_J0_checkIndex_df160 l g D q u0 x1 (nI (pa_slen.getD i0 0)) _ hw) cs_RJ1_9 rfl (pa_hR (by omega) (by decide)) rfl (Nat.le_of_ble_eq_true rfl) dJ1_charAt_3b067_3 (fun hw => ?_)
  refine pa_aload_n hE dJ1_charAt_3b067_6 rfl 0 rfl ?_
  refine pa_iload_n hE dJ1_charAt_3b067_7 rfl 1 rfl ?_
  obtain ⟨h2, hw⟩ := hw
  refine pa_sbl hE hi0 h2 dJ1_charAt_3b067_8 ?_
  refine pa_sipush hE dJ1_charAt_3b067_9 (v := 255) (by decide) ?_
  refine pa_iand hE dJ1_charAt_3b067_12 ?_
  refine pa_i2c hE dJ1_charAt_3b067_13 ?_
  obtain ⟨h3, hw⟩ := hw
  exact pa_zret hE hr h3 ⟨rfl, hw⟩ rfl dJ1_charAt_3b067_14
def wp_J1_charAt_3b067 (u0 : pa_S) (i0 : Nat) (x1 : Int32) (post : Int32 → Prop) : Prop := wb_J1_charAt_3b067_0 u0 i0 x1 post
theorem ct_J1_charAt_3b067 (l : Launch) (g : pa_G) (D : va_G) (q : Nat → Nat → Nat) (u0 : pa_S) (i0 : Nat) (x1 : Int32) (post : Int32 → Prop) (hi0 : i0 < 7) (hw : wp_J1_charAt_3b067 u0 i0 x1 post) : pa_Ct l yJ1_charAt_3b067 cJ1_charAt_3b067 2 (some .char) 4 g D q u0 [.ref (g.2.2.2 i0), .int x1] (fun r => some (.int r)) (fun r u => u = u0 ∧ post r) := pa_met rfl rfl (Nat.le_of_ble_eq_true rfl) rfl (fun p e s m args below meth c A hE hr => tb_J1_charAt_3b067_0 hE hr hi0 hw)
def wb_J0_charAt_5068e_0 (u0 : pa_S) (i0 : Nat) (x1 : Int32) (post : Int32 → Prop) : Prop :=
  (wp_J0_isLatin1_aae02 u0 i0 (fun (r1 : Int32) => (if r1 = 0 then False else (wp_J1_charAt_3b067 u0 i0 x1 (fun (r3 : Int32) => (narrow .char (.int r3) = .int r3) ∧ post r3)))))
set_option maxRecDepth 100000 in
set_option maxHeartbeats 4000000 in
theorem tb_J0_charAt_5068e_0 {p : Program} {l : Launch} {e : Env} {s : State} {m : MethodId} {args : Array Value} {below : List Frame} {meth : Method} {c : Code} {A : Nat → Prop} {D : va_G} {g : pa_G} {q : Nat → Nat → Nat} {u0 : pa_S} {i0 : Nat} {x1 : Int32} {post : Int32 → Prop} (hE : pa_Fx p s m args meth c A D g 2 cJ0_charAt_5068e RJ0) (hr : meth.sig.returnType = (some .char)) (hi0 : i0 < 7) (hw : wb_J0_charAt_5068e_0 u0 i0 x1 post) : pa_At p l e (pa_rm 5) s m args below meth c (MQ below (pa_Qc g D q (fun r => some (.int r)) (fun r u => u = u0 ∧ post r) A) args s 0 0 A) A D g 2 0 0 q u0 0 [(0, .ref (g.2.2.1 i0)), (1, .int x1)] [] := by
  refine pa_aload_n hE dJ0_charAt_5068e_0 rfl 0 rfl ?_
  refine pa_callVs hE (ct_J0_isLatin1_aae02 l g D q u0 i0 _ hi0 hw) cv_RJ0_492 hi0 rfl (pa_hR (by omega) (by decide)) rfl (Nat.le_of_ble_eq_true rfl) dJ0_charAt_5068e_1 (fun r1 hw => ?_)
  refine pa_if_eq hE dJ0_charAt_5068e_4 (tgt := 16) (by decide) (fun h2 => ?_) (fun h2 => ?_)
  · have hw := Eq.mp (if_pos h2) hw
    exact absurd hw (fun z => z)
  · have hw := Eq.mp (if_neg h2) hw
    refine pa_aload_n hE dJ0_charAt_5068e_7 rfl 0 rfl ?_
    refine pa_sgV hE hi0 (pa_m6 234 rfl rfl) dJ0_charAt_5068e_8 ?_
    refine pa_iload_n hE dJ0_charAt_5068e_11 rfl 1 rfl ?_
    refine pa_callSri hE (ct_J1_charAt_3b067 l g D q u0 i0 x1 _ hi0 hw) cs_RJ0_495 rfl (pa_hR (by omega) (by decide)) rfl (Nat.le_of_ble_eq_true rfl) dJ0_charAt_5068e_12 (fun r3 hw => ?_)
    obtain ⟨h4, hw⟩ := hw
    exact pa_zret hE hr h4 ⟨rfl, hw⟩ rfl dJ0_charAt_5068e_15
def wp_J0_charAt_5068e (u0 : pa_S) (i0 : Nat) (x1 : Int32) (post : Int32 → Prop) : Prop := wb_J0_charAt_5068e_0 u0 i0 x1 post
theorem ct_J0_charAt_5068e (l : Launch) (g : pa_G) (D : va_G) (q : Nat → Nat → Nat) (u0 : pa_S) (i0 : Nat) (x1 : Int32) (post : Int32 → Prop) (hi0 : i0 < 7) (hw : wp_J0_charAt_5068e u0 i0 x1 post) : pa_Ct l yJ0_charAt_5068e cJ0_charAt_5068e 2 (some .char) 5 g D q u0 [.ref (g.2.2.1 i0), .int x1] (fun r => some (.int r)) (fun r u => u = u0 ∧ post r) := pa_met rfl rfl (Nat.le_of_ble_eq_true rfl) rfl (fun p e s m args below meth c A hE hr => tb_J0_charAt_5068e_0 hE hr hi0 hw)
def wb_X5_takeAll_2 (k2 : pa_S → Int32 → Prop) (u0 : pa_S) (i0 : Nat) (x2 : Int32) (post : Int32 → pa_S → Prop) : Prop :=
  (wp_J0_length_8abf5 u0 i0 (fun (r1 : Int32) => (if r1 ≤ x2 then post 1 u0 else (wp_J0_charAt_5068e u0 i0 x2 (fun (r3 : Int32) => (wp_X5_take u0 r3 (fun (r4 : Int32) (u5 : pa_S) => (if r4 = 0 then post 0 u5 else ∀ v7 : Int32, v7 = x2 + 1 → k2 u5 v7))))))))
set_option maxRecDepth 100000 in
set_option maxHeartbeats 4000000 in
theorem tb_X5_takeAll_2 {p : Program} {l : Launch} {e : Env} {s : State} {m : MethodId} {args : Array Value} {below : List Frame} {meth : Method} {c : Code} {A : Nat → Prop} {D : va_G} {g : pa_G} {q : Nat → Nat → Nat} {k2 : pa_S → Int32 → Prop} {u0 : pa_S} {i0 : Nat} {x2 : Int32} {post : Int32 → pa_S → Prop} (hE : pa_Fx p s m args meth c A D g 3 cX5_takeAll RX5) (hr : meth.sig.returnType = (some .boolean)) (hi0 : i0 < 7) (hk2 : ∀ (u : pa_S)  (x2 : Int32), k2 u x2 → pa_At p l e (pa_rm 6) s m args below meth c (MQ below (pa_Qc g D q (fun r => some (.int r)) post A) args s 0 0 A) A D g 3 0 0 q u 2 [(0, .ref (q 10 0)), (1, .ref (g.2.2.1 i0)), (2, .int x2)] []) (hw : wb_X5_takeAll_2 k2 u0 i0 x2 post) : pa_At p l e (pa_rm 6) s m args below meth c (MQ below (pa_Qc g D q (fun r => some (.int r)) post A) args s 0 0 A) A D g 3 0 0 q u0 2 [(0, .ref (q 10 0)), (1, .ref (g.2.2.1 i0)), (2, .int x2)] [] := by
  refine pa_iload_n hE dX5_takeAll_2 rfl 2 rfl ?_
  refine pa_aload_n hE dX5_takeAll_3 rfl 1 rfl ?_
  refine pa_callVs hE (ct_J0_length_8abf5 l g D q u0 i0 _ hi0 hw) cv_RX5_98 hi0 rfl (pa_hR (by omega) (by decide)) rfl (Nat.le_of_ble_eq_true rfl) dX5_takeAll_4 (fun r1 hw => ?_)
  refine pa_icmp_ge hE dX5_takeAll_7 (tgt := 30) (by decide) (fun h2 => ?_) (fun h2 => ?_)
  · have hw := Eq.mp (if_pos h2) hw
    refine pa_iconst hE dX5_takeAll_30 (v := 1) (by decide) ?_
    exact pa_zret hE hr (by decide) hw rfl dX5_takeAll_31
  · have hw := Eq.mp (if_neg h2) hw
    refine pa_aload_n hE dX5_takeAll_10 rfl 0 rfl ?_
    refine pa_aload_n hE dX5_takeAll_11 rfl 1 rfl ?_
    refine pa_iload_n hE dX5_takeAll_12 rfl 2 rfl ?_
    refine pa_callVs hE (ct_J0_charAt_5068e l g D q u0 i0 x2 _ hi0 hw) cv_RX5_103 hi0 rfl (pa_hR (by omega) (by decide)) rfl (Nat.le_of_ble_eq_true rfl) dX5_takeAll_13 (fun r3 hw => ?_)
    refine pa_callVi hE (ct_X5_take l g D q u0 r3 _ hw) cv_RX5_42 pa_in10 rfl rfl rfl (pa_hR (by omega) (by decide)) rfl (Nat.le_of_ble_eq_true rfl) dX5_takeAll_16 (fun r4 u5 hw => ?_)
    refine pa_if_ne hE dX5_takeAll_19 (tgt := 24) (by decide) (fun h6 => ?_) (fun h6 => ?_)
    · have hw := Eq.mp (if_neg h6) hw
      refine pa_iinc hE dX5_takeAll_24 (v := 1) 2 rfl (by decide) (by decide) (lvr := [(0, .ref (q 10 0)), (1, .ref (g.2.2.1 i0))]) rfl (fun v7 ev7 => ?_)
      have hw := hw v7 ev7
      refine pa_goto hE dX5_takeAll_27 (tgt := 2) (by decide) ?_
      exact pa_sub [1, 2, 0] rfl (hk2 u5 v7 hw)
    · have hw := Eq.mp (if_pos h6) hw
      refine pa_iconst hE dX5_takeAll_22 (v := 0) (by decide) ?_
      exact pa_zret hE hr (by decide) hw rfl dX5_takeAll_23
def wl_X5_takeAll_2 (i0 : Nat) (post : Int32 → pa_S → Prop) : Nat → pa_S → Int32 → Prop
  | 0, _, _ => False
  | n + 1, u0, x2 => wb_X5_takeAll_2 (fun u0 x2 => wl_X5_takeAll_2 i0 post n u0 x2) u0 i0 x2 post
set_option maxRecDepth 100000 in
set_option maxHeartbeats 4000000 in
theorem tl_X5_takeAll_2 {p : Program} {l : Launch} {e : Env} {s : State} {m : MethodId} {args : Array Value} {below : List Frame} {meth : Method} {c : Code} {A : Nat → Prop} {D : va_G} {g : pa_G} {q : Nat → Nat → Nat} {i0 : Nat} {post : Int32 → pa_S → Prop} (hE : pa_Fx p s m args meth c A D g 3 cX5_takeAll RX5) (hr : meth.sig.returnType = (some .boolean)) (hi0 : i0 < 7) : ∀ (n : Nat) (u0 : pa_S) (x2 : Int32), wl_X5_takeAll_2 i0 post n u0 x2 → pa_At p l e (pa_rm 6) s m args below meth c (MQ below (pa_Qc g D q (fun r => some (.int r)) post A) args s 0 0 A) A D g 3 0 0 q u0 2 [(0, .ref (q 10 0)), (1, .ref (g.2.2.1 i0)), (2, .int x2)] []
  | 0, _, _, hw => absurd hw (by simp only [wl_X5_takeAll_2]; exact fun z => z)
  | n + 1, u0, x2, hw => tb_X5_takeAll_2 hE hr hi0 (fun u0 x2  hw1 => tl_X5_takeAll_2 hE hr hi0 n u0 x2  hw1) hw
def wb_X5_takeAll_0 (u0 : pa_S) (i0 : Nat) (post : Int32 → pa_S → Prop) : Prop :=
  wl_X5_takeAll_2 i0 post 5000 u0 0
set_option maxRecDepth 100000 in
set_option maxHeartbeats 4000000 in
theorem tb_X5_takeAll_0 {p : Program} {l : Launch} {e : Env} {s : State} {m : MethodId} {args : Array Value} {below : List Frame} {meth : Method} {c : Code} {A : Nat → Prop} {D : va_G} {g : pa_G} {q : Nat → Nat → Nat} {u0 : pa_S} {i0 : Nat} {post : Int32 → pa_S → Prop} (hE : pa_Fx p s m args meth c A D g 3 cX5_takeAll RX5) (hr : meth.sig.returnType = (some .boolean)) (hi0 : i0 < 7) (hw : wb_X5_takeAll_0 u0 i0 post) : pa_At p l e (pa_rm 6) s m args below meth c (MQ below (pa_Qc g D q (fun r => some (.int r)) post A) args s 0 0 A) A D g 3 0 0 q u0 0 [(0, .ref (q 10 0)), (1, .ref (g.2.2.1 i0))] [] := by
  refine pa_iconst hE dX5_takeAll_0 (v := 0) (by decide) ?_
  refine pa_istore_n hE dX5_takeAll_1 rfl (by decide) (lvr := [(0, .ref (q 10 0)), (1, .ref (g.2.2.1 i0))]) rfl ?_
  exact pa_sub [1, 2, 0] rfl (tl_X5_takeAll_2 hE hr hi0 5000 u0 0 hw)
def wp_X5_takeAll (u0 : pa_S) (i0 : Nat) (post : Int32 → pa_S → Prop) : Prop := wb_X5_takeAll_0 u0 i0 post
theorem ct_X5_takeAll (l : Launch) (g : pa_G) (D : va_G) (q : Nat → Nat → Nat) (u0 : pa_S) (i0 : Nat) (post : Int32 → pa_S → Prop) (hi0 : i0 < 7) (hw : wp_X5_takeAll u0 i0 post) : pa_Ct l yX5_takeAll cX5_takeAll 3 (some .boolean) 6 g D q u0 [.ref (q 10 0), .ref (g.2.2.1 i0)] (fun r => some (.int r)) post := pa_met rfl rfl (Nat.le_of_ble_eq_true rfl) rfl (fun p e s m args below meth c A hE hr => tb_X5_takeAll_0 hE hr hi0 hw)
def wb_X5_isClause_162 (u0 : pa_S) (x2 : Int32) (y1 : Int32) (post : Int32 → pa_S → Prop) : Prop :=
  (wp_X5_emit u0 y1 x2 (fun (r26 : Int32) (u27 : pa_S) => (if r26 = 0 then post 0 u27 else post 1 u27)))
set_option maxRecDepth 100000 in
set_option maxHeartbeats 4000000 in
theorem tb_X5_isClause_162 {p : Program} {l : Launch} {e : Env} {s : State} {m : MethodId} {args : Array Value} {below : List Frame} {meth : Method} {c : Code} {A : Nat → Prop} {D : va_G} {g : pa_G} {q : Nat → Nat → Nat} {u0 : pa_S} {x2 : Int32} {y1 : Int32} {post : Int32 → pa_S → Prop} (hE : pa_Fx p s m args meth c A D g 3 cX5_isClause RX5) (hr : meth.sig.returnType = (some .boolean)) (hw : wb_X5_isClause_162 u0 x2 y1 post) : pa_At p l e (pa_rm 49) s m args below meth c (MQ below (pa_Qc g D q (fun r => some (.int r)) post A) args s 0 0 A) A D g 3 0 0 q u0 162 [(2, .int x2)] [.int y1, .ref (q 10 0)] := by
  refine pa_iload_n hE dX5_isClause_162 rfl 0 rfl ?_
  refine pa_callVi hE (ct_X5_emit l g D q u0 y1 x2 _ hw) cv_RX5_77 pa_in10 rfl rfl rfl (pa_hR (by omega) (by decide)) rfl (Nat.le_of_ble_eq_true rfl) dX5_isClause_163 (fun r26 u27 hw => ?_)
  refine pa_if_eq hE dX5_isClause_166 (tgt := 173) (by decide) (fun h28 => ?_) (fun h28 => ?_)
  · have hw := Eq.mp (if_pos h28) hw
    refine pa_iconst hE dX5_isClause_173 (v := 0) (by decide) ?_
    exact pa_zret hE hr (by decide) hw rfl dX5_isClause_174
  · have hw := Eq.mp (if_neg h28) hw
    refine pa_iconst hE dX5_isClause_169 (v := 1) (by decide) ?_
    refine pa_goto hE dX5_isClause_170 (tgt := 174) (by decide) ?_
    exact pa_zret hE hr (by decide) hw rfl dX5_isClause_174
def wb_X5_isClause_116 (u0 : pa_S) (jy1 : Nat) (x1 : Int32) (post : Int32 → pa_S → Prop) : Prop :=
  (wp_X5_takeAll u0 jy1 (fun (r13 : Int32) (u14 : pa_S) => (if r13 = 0 then post 0 u14 else (wp_X5_takeNumber u14 (fun (r16 : Int32) (u17 : pa_S) => (if r16 < 0 then post 0 u17 else (wp_X5_take u17 32 (fun (r19 : Int32) (u20 : pa_S) => (if r19 = 0 then post 0 u20 else (wp_X5_isEither u20 0 (fun (r22 : Int32) (u23 : pa_S) => (if r22 = 0 then post 0 u23 else (if x1 = 0 then wb_X5_isClause_162 u23 r16 22 post else wb_X5_isClause_162 u23 r16 21 post)))))))))))))
set_option maxRecDepth 100000 in
set_option maxHeartbeats 4000000 in
theorem tb_X5_isClause_116 {p : Program} {l : Launch} {e : Env} {s : State} {m : MethodId} {args : Array Value} {below : List Frame} {meth : Method} {c : Code} {A : Nat → Prop} {D : va_G} {g : pa_G} {q : Nat → Nat → Nat} {u0 : pa_S} {jy1 : Nat} {x1 : Int32} {post : Int32 → pa_S → Prop} (hE : pa_Fx p s m args meth c A D g 3 cX5_isClause RX5) (hr : meth.sig.returnType = (some .boolean)) (hjy1 : jy1 < 7) (hw : wb_X5_isClause_116 u0 jy1 x1 post) : pa_At p l e (pa_rm 49) s m args below meth c (MQ below (pa_Qc g D q (fun r => some (.int r)) post A) args s 0 0 A) A D g 3 0 0 q u0 116 [(0, .ref (q 10 0)), (1, .int x1)] [.ref (g.2.2.1 jy1), .ref (q 10 0)] := by
  refine pa_callVi hE (ct_X5_takeAll l g D q u0 jy1 _ hjy1 hw) cv_RX5_57 pa_in10 rfl rfl rfl (pa_hR (by omega) (by decide)) rfl (Nat.le_of_ble_eq_true rfl) dX5_isClause_116 (fun r13 u14 hw => ?_)
  refine pa_if_ne hE dX5_isClause_119 (tgt := 124) (by decide) (fun h15 => ?_) (fun h15 => ?_)
  · have hw := Eq.mp (if_neg h15) hw
    refine pa_aload_n hE dX5_isClause_124 rfl 0 rfl ?_
    refine pa_callVi hE (ct_X5_takeNumber l g D q u14 _ hw) cv_RX5_61 pa_in10 rfl rfl rfl (pa_hR (by omega) (by decide)) rfl (Nat.le_of_ble_eq_true rfl) dX5_isClause_125 (fun r16 u17 hw => ?_)
    refine pa_istore_n hE dX5_isClause_128 rfl (by decide) (lvr := [(0, .ref (q 10 0)), (1, .int x1)]) rfl ?_
    refine pa_iload_n hE dX5_isClause_129 rfl 0 rfl ?_
    refine pa_if_lt hE dX5_isClause_130 (tgt := 173) (by decide) (fun h18 => ?_) (fun h18 => ?_)
    · have hw := Eq.mp (if_pos h18) hw
      refine pa_iconst hE dX5_isClause_173 (v := 0) (by decide) ?_
      exact pa_zret hE hr (by decide) hw rfl dX5_isClause_174
    · have hw := Eq.mp (if_neg h18) hw
      refine pa_aload_n hE dX5_isClause_133 rfl 1 rfl ?_
      refine pa_bipush hE dX5_isClause_134 (v := 32) (by decide) ?_
      refine pa_callVi hE (ct_X5_take l g D q u17 32 _ hw) cv_RX5_42 pa_in10 rfl rfl rfl (pa_hR (by omega) (by decide)) rfl (Nat.le_of_ble_eq_true rfl) dX5_isClause_136 (fun r19 u20 hw => ?_)
      refine pa_if_eq hE dX5_isClause_139 (tgt := 173) (by decide) (fun h21 => ?_) (fun h21 => ?_)
      · have hw := Eq.mp (if_pos h21) hw
        refine pa_iconst hE dX5_isClause_173 (v := 0) (by decide) ?_
        exact pa_zret hE hr (by decide) hw rfl dX5_isClause_174
      · have hw := Eq.mp (if_neg h21) hw
        refine pa_aload_n hE dX5_isClause_142 rfl 1 rfl ?_
        refine pa_iconst hE dX5_isClause_143 (v := 0) (by decide) ?_
        refine pa_callVi hE (ct_X5_isEither l g D q u20 0 _ hw) cv_RX5_73 pa_in10 rfl rfl rfl (pa_hR (by omega) (by decide)) rfl (Nat.le_of_ble_eq_true rfl) dX5_isClause_144 (fun r22 u23 hw => ?_)
        refine pa_if_eq hE dX5_isClause_147 (tgt := 173) (by decide) (fun h24 => ?_) (fun h24 => ?_)
        · have hw := Eq.mp (if_pos h24) hw
          refine pa_iconst hE dX5_isClause_173 (v := 0) (by decide) ?_
          exact pa_zret hE hr (by decide) hw rfl dX5_isClause_174
        · have hw := Eq.mp (if_neg h24) hw
          refine pa_aload_n hE dX5_isClause_150 rfl 1 rfl ?_
          refine pa_iload_n hE dX5_isClause_151 rfl 2 rfl ?_
          refine pa_if_eq hE dX5_isClause_152 (tgt := 160) (by decide) (fun h25 => ?_) (fun h25 => ?_)
          · have hw := Eq.mp (if_pos h25) hw
            refine pa_bipush hE dX5_isClause_160 (v := 22) (by decide) ?_
            exact pa_sub [0] rfl (tb_X5_isClause_162 hE hr hw)
          · have hw := Eq.mp (if_neg h25) hw
            refine pa_bipush hE dX5_isClause_155 (v := 21) (by decide) ?_
            refine pa_goto hE dX5_isClause_157 (tgt := 162) (by decide) ?_
            exact pa_sub [0] rfl (tb_X5_isClause_162 hE hr hw)
  · have hw := Eq.mp (if_pos h15) hw
    refine pa_iconst hE dX5_isClause_122 (v := 0) (by decide) ?_
    exact pa_zret hE hr (by decide) hw rfl dX5_isClause_123
def wb_X5_isClause_70 (u0 : pa_S) (y1 : Int32) (post : Int32 → pa_S → Prop) : Prop :=
  ∀ u32 : pa_S, u32 = pa_sI u0 10 0 7 y1 → (if (pa_I u32 10 0 7) < 0 then post 0 u32 else post 1 u32)
set_option maxRecDepth 100000 in
set_option maxHeartbeats 4000000 in
theorem tb_X5_isClause_70 {p : Program} {l : Launch} {e : Env} {s : State} {m : MethodId} {args : Array Value} {below : List Frame} {meth : Method} {c : Code} {A : Nat → Prop} {D : va_G} {g : pa_G} {q : Nat → Nat → Nat} {u0 : pa_S} {y1 : Int32} {post : Int32 → pa_S → Prop} (hE : pa_Fx p s m args meth c A D g 3 cX5_isClause RX5) (hr : meth.sig.returnType = (some .boolean)) (hw : wb_X5_isClause_70 u0 y1 post) : pa_At p l e (pa_rm 49) s m args below meth c (MQ below (pa_Qc g D q (fun r => some (.int r)) post A) args s 0 0 A) A D g 3 0 0 q u0 70 [(0, .ref (q 10 0))] [.int y1, .ref (q 10 0)] := by
  refine pp_10_7 hE (pa_m1 53 rfl rfl) dX5_isClause_70 (fun u32 eu32 => ?_)
  have hw := hw u32 eu32
  refine pa_aload_n hE dX5_isClause_73 rfl 0 rfl ?_
  refine pg_10_7 hE (pa_m1 53 rfl rfl) dX5_isClause_74 ?_
  refine pa_if_lt hE dX5_isClause_77 (tgt := 84) (by decide) (fun h33 => ?_) (fun h33 => ?_)
  · have hw := Eq.mp (if_pos h33) hw
    refine pa_iconst hE dX5_isClause_84 (v := 0) (by decide) ?_
    exact pa_zret hE hr (by decide) hw rfl dX5_isClause_85
  · have hw := Eq.mp (if_neg h33) hw
    refine pa_iconst hE dX5_isClause_80 (v := 1) (by decide) ?_
    refine pa_goto hE dX5_isClause_81 (tgt := 85) (by decide) ?_
    exact pa_zret hE hr (by decide) hw rfl dX5_isClause_85
def wb_X5_isClause_27 (u0 : pa_S) (y1 : Int32) (post : Int32 → pa_S → Prop) : Prop :=
  ∀ u39 : pa_S, u39 = pa_sI u0 10 0 6 y1 → (if (pa_I u39 10 0 6) < 0 then post 0 u39 else post 1 u39)
set_option maxRecDepth 100000 in
set_option maxHeartbeats 4000000 in
theorem tb_X5_isClause_27 {p : Program} {l : Launch} {e : Env} {s : State} {m : MethodId} {args : Array Value} {below : List Frame} {meth : Method} {c : Code} {A : Nat → Prop} {D : va_G} {g : pa_G} {q : Nat → Nat → Nat} {u0 : pa_S} {y1 : Int32} {post : Int32 → pa_S → Prop} (hE : pa_Fx p s m args meth c A D g 3 cX5_isClause RX5) (hr : meth.sig.returnType = (some .boolean)) (hw : wb_X5_isClause_27 u0 y1 post) : pa_At p l e (pa_rm 49) s m args below meth c (MQ below (pa_Qc g D q (fun r => some (.int r)) post A) args s 0 0 A) A D g 3 0 0 q u0 27 [(0, .ref (q 10 0))] [.int y1, .ref (q 10 0)] := by
  refine pp_10_6 hE (pa_m1 52 rfl rfl) dX5_isClause_27 (fun u39 eu39 => ?_)
  have hw := hw u39 eu39
  refine pa_aload_n hE dX5_isClause_30 rfl 0 rfl ?_
  refine pg_10_6 hE (pa_m1 52 rfl rfl) dX5_isClause_31 ?_
  refine pa_if_lt hE dX5_isClause_34 (tgt := 41) (by decide) (fun h40 => ?_) (fun h40 => ?_)
  · have hw := Eq.mp (if_pos h40) hw
    refine pa_iconst hE dX5_isClause_41 (v := 0) (by decide) ?_
    exact pa_zret hE hr (by decide) hw rfl dX5_isClause_42
  · have hw := Eq.mp (if_neg h40) hw
    refine pa_iconst hE dX5_isClause_37 (v := 1) (by decide) ?_
    refine pa_goto hE dX5_isClause_38 (tgt := 42) (by decide) ?_
    exact pa_zret hE hr (by decide) hw rfl dX5_isClause_42
def wb_X5_isClause_0 (u0 : pa_S) (post : Int32 → pa_S → Prop) : Prop :=
  (wp_X5_take u0 114 (fun (r1 : Int32) (u2 : pa_S) => (if r1 = 0 then (wp_X5_take u2 112 (fun (r4 : Int32) (u5 : pa_S) => (if r4 = 0 then (wp_X5_takeAll u5 3 (fun (r7 : Int32) (u8 : pa_S) => (if r7 = 0 then post 0 u8 else (wp_X5_take u8 101 (fun (r10 : Int32) (u11 : pa_S) => (if r10 = 0 then wb_X5_isClause_116 u11 5 r10 post else wb_X5_isClause_116 u11 4 r10 post)))))) else (wp_X5_takeAll u5 2 (fun (r29 : Int32) (u30 : pa_S) => (if r29 = 0 then wb_X5_isClause_70 u30 (-1 : Int32) post else (wp_X5_takeNumber u30 (fun (r34 : Int32) (u35 : pa_S) => wb_X5_isClause_70 u35 r34 post)))))))) else (wp_X5_takeAll u2 1 (fun (r36 : Int32) (u37 : pa_S) => (if r36 = 0 then wb_X5_isClause_27 u37 (-1 : Int32) post else (wp_X5_takeNumber u37 (fun (r41 : Int32) (u42 : pa_S) => wb_X5_isClause_27 u42 r41 post))))))))
set_option maxRecDepth 100000 in
set_option maxHeartbeats 4000000 in
theorem tb_X5_isClause_0 {p : Program} {l : Launch} {e : Env} {s : State} {m : MethodId} {args : Array Value} {below : List Frame} {meth : Method} {c : Code} {A : Nat → Prop} {D : va_G} {g : pa_G} {q : Nat → Nat → Nat} {u0 : pa_S} {post : Int32 → pa_S → Prop} (hE : pa_Fx p s m args meth c A D g 3 cX5_isClause RX5) (hr : meth.sig.returnType = (some .boolean)) (hw : wb_X5_isClause_0 u0 post) : pa_At p l e (pa_rm 49) s m args below meth c (MQ below (pa_Qc g D q (fun r => some (.int r)) post A) args s 0 0 A) A D g 3 0 0 q u0 0 [(0, .ref (q 10 0))] [] := by
  refine pa_aload_n hE dX5_isClause_0 rfl 0 rfl ?_
  refine pa_bipush hE dX5_isClause_1 (v := 114) (by decide) ?_
  refine pa_callVi hE (ct_X5_take l g D q u0 114 _ hw) cv_RX5_42 pa_in10 rfl rfl rfl (pa_hR (by omega) (by decide)) rfl (Nat.le_of_ble_eq_true rfl) dX5_isClause_3 (fun r1 u2 hw => ?_)
  refine pa_if_eq hE dX5_isClause_6 (tgt := 43) (by decide) (fun h3 => ?_) (fun h3 => ?_)
  · have hw := Eq.mp (if_pos h3) hw
    refine pa_aload_n hE dX5_isClause_43 rfl 0 rfl ?_
    refine pa_bipush hE dX5_isClause_44 (v := 112) (by decide) ?_
    refine pa_callVi hE (ct_X5_take l g D q u2 112 _ hw) cv_RX5_42 pa_in10 rfl rfl rfl (pa_hR (by omega) (by decide)) rfl (Nat.le_of_ble_eq_true rfl) dX5_isClause_46 (fun r4 u5 hw => ?_)
    refine pa_if_eq hE dX5_isClause_49 (tgt := 86) (by decide) (fun h6 => ?_) (fun h6 => ?_)
    · have hw := Eq.mp (if_pos h6) hw
      refine pa_aload_n hE dX5_isClause_86 rfl 0 rfl ?_
      refine pa_ldcS hE dX5_isClause_87 (i := 3) rfl ?_
      refine pa_callVi hE (ct_X5_takeAll l g D q u5 3 _ (by decide) hw) cv_RX5_57 pa_in10 rfl rfl rfl (pa_hR (by omega) (by decide)) rfl (Nat.le_of_ble_eq_true rfl) dX5_isClause_89 (fun r7 u8 hw => ?_)
      refine pa_if_ne hE dX5_isClause_92 (tgt := 97) (by decide) (fun h9 => ?_) (fun h9 => ?_)
      · have hw := Eq.mp (if_neg h9) hw
        refine pa_aload_n hE dX5_isClause_97 rfl 0 rfl ?_
        refine pa_bipush hE dX5_isClause_98 (v := 101) (by decide) ?_
        refine pa_callVi hE (ct_X5_take l g D q u8 101 _ hw) cv_RX5_42 pa_in10 rfl rfl rfl (pa_hR (by omega) (by decide)) rfl (Nat.le_of_ble_eq_true rfl) dX5_isClause_100 (fun r10 u11 hw => ?_)
        refine pa_istore_n hE dX5_isClause_103 rfl (by decide) (lvr := [(0, .ref (q 10 0))]) rfl ?_
        refine pa_aload_n hE dX5_isClause_104 rfl 1 rfl ?_
        refine pa_iload_n hE dX5_isClause_105 rfl 0 rfl ?_
        refine pa_if_eq hE dX5_isClause_106 (tgt := 114) (by decide) (fun h12 => ?_) (fun h12 => ?_)
        · have hw := Eq.mp (if_pos h12) hw
          refine pa_ldcS hE dX5_isClause_114 (i := 5) rfl ?_
          exact pa_sub [1, 0] rfl (tb_X5_isClause_116 hE hr (by decide) hw)
        · have hw := Eq.mp (if_neg h12) hw
          refine pa_ldcS hE dX5_isClause_109 (i := 4) rfl ?_
          refine pa_goto hE dX5_isClause_111 (tgt := 116) (by decide) ?_
          exact pa_sub [1, 0] rfl (tb_X5_isClause_116 hE hr (by decide) hw)
      · have hw := Eq.mp (if_pos h9) hw
        refine pa_iconst hE dX5_isClause_95 (v := 0) (by decide) ?_
        exact pa_zret hE hr (by decide) hw rfl dX5_isClause_96
    · have hw := Eq.mp (if_neg h6) hw
      refine pa_aload_n hE dX5_isClause_52 rfl 0 rfl ?_
      refine pa_aload_n hE dX5_isClause_53 rfl 0 rfl ?_
      refine pa_ldcS hE dX5_isClause_54 (i := 2) rfl ?_
      refine pa_callVi hE (ct_X5_takeAll l g D q u5 2 _ (by decide) hw) cv_RX5_57 pa_in10 rfl rfl rfl (pa_hR (by omega) (by decide)) rfl (Nat.le_of_ble_eq_true rfl) dX5_isClause_56 (fun r29 u30 hw => ?_)
      refine pa_if_eq hE dX5_isClause_59 (tgt := 69) (by decide) (fun h31 => ?_) (fun h31 => ?_)
      · have hw := Eq.mp (if_pos h31) hw
        refine pa_iconst hE dX5_isClause_69 (v := (-1 : Int32)) (by decide) ?_
        exact pa_sub [0] rfl (tb_X5_isClause_70 hE hr hw)
      · have hw := Eq.mp (if_neg h31) hw
        refine pa_aload_n hE dX5_isClause_62 rfl 0 rfl ?_
        refine pa_callVi hE (ct_X5_takeNumber l g D q u30 _ hw) cv_RX5_61 pa_in10 rfl rfl rfl (pa_hR (by omega) (by decide)) rfl (Nat.le_of_ble_eq_true rfl) dX5_isClause_63 (fun r34 u35 hw => ?_)
        refine pa_goto hE dX5_isClause_66 (tgt := 70) (by decide) ?_
        exact pa_sub [0] rfl (tb_X5_isClause_70 hE hr hw)
  · have hw := Eq.mp (if_neg h3) hw
    refine pa_aload_n hE dX5_isClause_9 rfl 0 rfl ?_
    refine pa_aload_n hE dX5_isClause_10 rfl 0 rfl ?_
    refine pa_ldcS hE dX5_isClause_11 (i := 1) rfl ?_
    refine pa_callVi hE (ct_X5_takeAll l g D q u2 1 _ (by decide) hw) cv_RX5_57 pa_in10 rfl rfl rfl (pa_hR (by omega) (by decide)) rfl (Nat.le_of_ble_eq_true rfl) dX5_isClause_13 (fun r36 u37 hw => ?_)
    refine pa_if_eq hE dX5_isClause_16 (tgt := 26) (by decide) (fun h38 => ?_) (fun h38 => ?_)
    · have hw := Eq.mp (if_pos h38) hw
      refine pa_iconst hE dX5_isClause_26 (v := (-1 : Int32)) (by decide) ?_
      exact pa_sub [0] rfl (tb_X5_isClause_27 hE hr hw)
    · have hw := Eq.mp (if_neg h38) hw
      refine pa_aload_n hE dX5_isClause_19 rfl 0 rfl ?_
      refine pa_callVi hE (ct_X5_takeNumber l g D q u37 _ hw) cv_RX5_61 pa_in10 rfl rfl rfl (pa_hR (by omega) (by decide)) rfl (Nat.le_of_ble_eq_true rfl) dX5_isClause_20 (fun r41 u42 hw => ?_)
      refine pa_goto hE dX5_isClause_23 (tgt := 27) (by decide) ?_
      exact pa_sub [0] rfl (tb_X5_isClause_27 hE hr hw)
def wp_X5_isClause (u0 : pa_S) (post : Int32 → pa_S → Prop) : Prop := wb_X5_isClause_0 u0 post
theorem ct_X5_isClause (l : Launch) (g : pa_G) (D : va_G) (q : Nat → Nat → Nat) (u0 : pa_S) (post : Int32 → pa_S → Prop)  (hw : wp_X5_isClause u0 post) : pa_Ct l yX5_isClause cX5_isClause 3 (some .boolean) 49 g D q u0 [.ref (q 10 0)] (fun r => some (.int r)) post := pa_met rfl rfl (Nat.le_of_ble_eq_true rfl) rfl (fun p e s m args below meth c A hE hr => tb_X5_isClause_0 hE hr  hw)
def wb_X5_isBooth_23 (k23 : pa_S → Int32 → Prop) (u0 : pa_S) (x1 : Int32) (post : Int32 → pa_S → Prop) : Prop :=
  (if 10 < x1 then post 0 u0 else (wp_X5_isClause u0 (fun (r6 : Int32) (u7 : pa_S) => (if r6 = 0 then post 0 u7 else (if (pa_I u7 10 0 4) < (pa_I u7 10 0 3) then (if x1 = 10 then post 0 u7 else (wp_X5_take u7 59 (fun (r11 : Int32) (u12 : pa_S) => (if r11 = 0 then post 0 u12 else ∀ v14 : Int32, v14 = x1 + 1 → k23 u12 v14)))) else post 1 u7)))))
set_option maxRecDepth 100000 in
set_option maxHeartbeats 4000000 in
theorem tb_X5_isBooth_23 {p : Program} {l : Launch} {e : Env} {s : State} {m : MethodId} {args : Array Value} {below : List Frame} {meth : Method} {c : Code} {A : Nat → Prop} {D : va_G} {g : pa_G} {q : Nat → Nat → Nat} {k23 : pa_S → Int32 → Prop} {u0 : pa_S} {x1 : Int32} {post : Int32 → pa_S → Prop} (hE : pa_Fx p s m args meth c A D g 2 cX5_isBooth RX5) (hr : meth.sig.returnType = (some .boolean)) (hk23 : ∀ (u : pa_S)  (x1 : Int32), k23 u x1 → pa_At p l e (pa_rm 50) s m args below meth c (MQ below (pa_Qc g D q (fun r => some (.int r)) post A) args s 0 0 A) A D g 2 0 0 q u 23 [(0, .ref (q 10 0)), (1, .int x1)] []) (hw : wb_X5_isBooth_23 k23 u0 x1 post) : pa_At p l e (pa_rm 50) s m args below meth c (MQ below (pa_Qc g D q (fun r => some (.int r)) post A) args s 0 0 A) A D g 2 0 0 q u0 23 [(0, .ref (q 10 0)), (1, .int x1)] [] := by
  refine pa_iload_n hE dX5_isBooth_23 rfl 1 rfl ?_
  refine pa_bipush hE dX5_isBooth_24 (v := 10) (by decide) ?_
  refine pa_icmp_gt hE dX5_isBooth_26 (tgt := 74) (by decide) (fun h5 => ?_) (fun h5 => ?_)
  · have hw := Eq.mp (if_pos h5) hw
    refine pa_iconst hE dX5_isBooth_74 (v := 0) (by decide) ?_
    exact pa_zret hE hr (by decide) hw rfl dX5_isBooth_75
  · have hw := Eq.mp (if_neg h5) hw
    refine pa_aload_n hE dX5_isBooth_29 rfl 0 rfl ?_
    refine pa_callVi hE (ct_X5_isClause l g D q u0 _ hw) cv_RX5_38 pa_in10 rfl rfl rfl (pa_hR (by omega) (by decide)) rfl (Nat.le_of_ble_eq_true rfl) dX5_isBooth_30 (fun r6 u7 hw => ?_)
    refine pa_if_ne hE dX5_isBooth_33 (tgt := 38) (by decide) (fun h8 => ?_) (fun h8 => ?_)
    · have hw := Eq.mp (if_neg h8) hw
      refine pa_aload_n hE dX5_isBooth_38 rfl 0 rfl ?_
      refine pg_10_4 hE (pa_m1 50 rfl rfl) dX5_isBooth_39 ?_
      refine pa_aload_n hE dX5_isBooth_42 rfl 0 rfl ?_
      refine pg_10_3 hE (pa_m1 49 rfl rfl) dX5_isBooth_43 ?_
      refine pa_icmp_lt hE dX5_isBooth_46 (tgt := 51) (by decide) (fun h9 => ?_) (fun h9 => ?_)
      · have hw := Eq.mp (if_pos h9) hw
        refine pa_iload_n hE dX5_isBooth_51 rfl 1 rfl ?_
        refine pa_bipush hE dX5_isBooth_52 (v := 10) (by decide) ?_
        refine pa_icmp_eq hE dX5_isBooth_54 (tgt := 66) (by decide) (fun h10 => ?_) (fun h10 => ?_)
        · have hw := Eq.mp (if_pos h10) hw
          refine pa_iconst hE dX5_isBooth_66 (v := 0) (by decide) ?_
          exact pa_zret hE hr (by decide) hw rfl dX5_isBooth_67
        · have hw := Eq.mp (if_neg h10) hw
          refine pa_aload_n hE dX5_isBooth_57 rfl 0 rfl ?_
          refine pa_bipush hE dX5_isBooth_58 (v := 59) (by decide) ?_
          refine pa_callVi hE (ct_X5_take l g D q u7 59 _ hw) cv_RX5_42 pa_in10 rfl rfl rfl (pa_hR (by omega) (by decide)) rfl (Nat.le_of_ble_eq_true rfl) dX5_isBooth_60 (fun r11 u12 hw => ?_)
          refine pa_if_ne hE dX5_isBooth_63 (tgt := 68) (by decide) (fun h13 => ?_) (fun h13 => ?_)
          · have hw := Eq.mp (if_neg h13) hw
            refine pa_iinc hE dX5_isBooth_68 (v := 1) 1 rfl (by decide) (by decide) (lvr := [(0, .ref (q 10 0))]) rfl (fun v14 ev14 => ?_)
            have hw := hw v14 ev14
            refine pa_goto hE dX5_isBooth_71 (tgt := 23) (by decide) ?_
            exact pa_sub [1, 0] rfl (hk23 u12 v14 hw)
          · have hw := Eq.mp (if_pos h13) hw
            refine pa_iconst hE dX5_isBooth_66 (v := 0) (by decide) ?_
            exact pa_zret hE hr (by decide) hw rfl dX5_isBooth_67
      · have hw := Eq.mp (if_neg h9) hw
        refine pa_iconst hE dX5_isBooth_49 (v := 1) (by decide) ?_
        exact pa_zret hE hr (by decide) hw rfl dX5_isBooth_50
    · have hw := Eq.mp (if_pos h8) hw
      refine pa_iconst hE dX5_isBooth_36 (v := 0) (by decide) ?_
      exact pa_zret hE hr (by decide) hw rfl dX5_isBooth_37
def wl_X5_isBooth_23 (post : Int32 → pa_S → Prop) : Nat → pa_S → Int32 → Prop
  | 0, _, _ => False
  | n + 1, u0, x1 => wb_X5_isBooth_23 (fun u0 x1 => wl_X5_isBooth_23 post n u0 x1) u0 x1 post
set_option maxRecDepth 100000 in
set_option maxHeartbeats 4000000 in
theorem tl_X5_isBooth_23 {p : Program} {l : Launch} {e : Env} {s : State} {m : MethodId} {args : Array Value} {below : List Frame} {meth : Method} {c : Code} {A : Nat → Prop} {D : va_G} {g : pa_G} {q : Nat → Nat → Nat} {post : Int32 → pa_S → Prop} (hE : pa_Fx p s m args meth c A D g 2 cX5_isBooth RX5) (hr : meth.sig.returnType = (some .boolean)) : ∀ (n : Nat) (u0 : pa_S) (x1 : Int32), wl_X5_isBooth_23 post n u0 x1 → pa_At p l e (pa_rm 50) s m args below meth c (MQ below (pa_Qc g D q (fun r => some (.int r)) post A) args s 0 0 A) A D g 2 0 0 q u0 23 [(0, .ref (q 10 0)), (1, .int x1)] []
  | 0, _, _, hw => absurd hw (by simp only [wl_X5_isBooth_23]; exact fun z => z)
  | n + 1, u0, x1, hw => tb_X5_isBooth_23 hE hr (fun u0 x1  hw1 => tl_X5_isBooth_23 hE hr  n u0 x1  hw1) hw
def wb_X5_isBooth_0 (u0 : pa_S) (post : Int32 → pa_S → Prop) : Prop :=
  ∀ u1 : pa_S, u1 = pa_sI u0 10 0 4 0 → ∀ u2 : pa_S, u2 = pa_sI u1 10 0 5 0 → ∀ u3 : pa_S, u3 = pa_sI u2 10 0 6 20 → ∀ u4 : pa_S, u4 = pa_sI u3 10 0 7 4 → wl_X5_isBooth_23 post 5000 u4 1
set_option maxRecDepth 100000 in
set_option maxHeartbeats 4000000 in
theorem tb_X5_isBooth_0 {p : Program} {l : Launch} {e : Env} {s : State} {m : MethodId} {args : Array Value} {below : List Frame} {meth : Method} {c : Code} {A : Nat → Prop} {D : va_G} {g : pa_G} {q : Nat → Nat → Nat} {u0 : pa_S} {post : Int32 → pa_S → Prop} (hE : pa_Fx p s m args meth c A D g 2 cX5_isBooth RX5) (hr : meth.sig.returnType = (some .boolean)) (hw : wb_X5_isBooth_0 u0 post) : pa_At p l e (pa_rm 50) s m args below meth c (MQ below (pa_Qc g D q (fun r => some (.int r)) post A) args s 0 0 A) A D g 2 0 0 q u0 0 [(0, .ref (q 10 0))] [] := by
  refine pa_aload_n hE dX5_isBooth_0 rfl 0 rfl ?_
  refine pa_iconst hE dX5_isBooth_1 (v := 0) (by decide) ?_
  refine pp_10_4 hE (pa_m1 50 rfl rfl) dX5_isBooth_2 (fun u1 eu1 => ?_)
  have hw := hw u1 eu1
  refine pa_aload_n hE dX5_isBooth_5 rfl 0 rfl ?_
  refine pa_iconst hE dX5_isBooth_6 (v := 0) (by decide) ?_
  refine pp_10_5 hE (pa_m1 51 rfl rfl) dX5_isBooth_7 (fun u2 eu2 => ?_)
  have hw := hw u2 eu2
  refine pa_aload_n hE dX5_isBooth_10 rfl 0 rfl ?_
  refine pa_bipush hE dX5_isBooth_11 (v := 20) (by decide) ?_
  refine pp_10_6 hE (pa_m1 52 rfl rfl) dX5_isBooth_13 (fun u3 eu3 => ?_)
  have hw := hw u3 eu3
  refine pa_aload_n hE dX5_isBooth_16 rfl 0 rfl ?_
  refine pa_iconst hE dX5_isBooth_17 (v := 4) (by decide) ?_
  refine pp_10_7 hE (pa_m1 53 rfl rfl) dX5_isBooth_18 (fun u4 eu4 => ?_)
  have hw := hw u4 eu4
  refine pa_iconst hE dX5_isBooth_21 (v := 1) (by decide) ?_
  refine pa_istore_n hE dX5_isBooth_22 rfl (by decide) (lvr := [(0, .ref (q 10 0))]) rfl ?_
  exact pa_sub [1, 0] rfl (tl_X5_isBooth_23 hE hr 5000 u4 1 hw)
def wp_X5_isBooth (u0 : pa_S) (post : Int32 → pa_S → Prop) : Prop := wb_X5_isBooth_0 u0 post
theorem ct_X5_isBooth (l : Launch) (g : pa_G) (D : va_G) (q : Nat → Nat → Nat) (u0 : pa_S) (post : Int32 → pa_S → Prop)  (hw : wp_X5_isBooth u0 post) : pa_Ct l yX5_isBooth cX5_isBooth 2 (some .boolean) 50 g D q u0 [.ref (q 10 0)] (fun r => some (.int r)) post := pa_met rfl rfl (Nat.le_of_ble_eq_true rfl) rfl (fun p e s m args below meth c A hE hr => tb_X5_isBooth_0 hE hr  hw)
