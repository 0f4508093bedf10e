
theorem cv_RX0_19 : pa_CV RX0 RX0 19 yX0_isKept cX0_isKept 2 (some .boolean) 1 := ⟨⟨rfl, by decide +kernel, by decide +kernel, by decide +kernel⟩, pa_m4 59 rfl rfl, pa_m4 52 rfl rfl, pa_m4 53 rfl rfl, pa_m1 4 rfl rfl, pa_m4 54 rfl rfl⟩
theorem cs_RX0_36 : pa_CS RX0 36 yX0_bodyFrom cX0_bodyFrom 5 (some .int) 2 := ⟨⟨by decide +kernel, by decide +kernel, by decide +kernel⟩, pa_m4 28 rfl rfl, pa_m4 29 rfl rfl, pa_m1 4 rfl rfl, pa_m4 30 rfl rfl⟩
theorem cv_RX0_40 : pa_CV RX0 RX0 40 yX0_run cX0_run 4 (some .int) 3 := ⟨⟨rfl, by decide +kernel, by decide +kernel, by decide +kernel⟩, pa_m4 35 rfl rfl, pa_m4 37 rfl rfl, pa_ms2 5 rfl rfl, pa_m1 4 rfl rfl, pa_m4 38 rfl rfl⟩
theorem cv_RX0_49 : pa_CV RX0 RX0 49 yX0_begun cX0_begun 2 none 1 := ⟨⟨rfl, by decide +kernel, by decide +kernel, by decide +kernel⟩, pa_m4 39 rfl rfl, pa_m4 41 rfl rfl, pa_ms2 6 rfl rfl, pa_m1 4 rfl rfl, pa_m4 42 rfl rfl⟩
theorem cv_RX0_32 : pa_CV RX0 RX0 32 yX0_own cX0_own 4 (some .int) 3 := ⟨⟨rfl, by decide +kernel, by decide +kernel, by decide +kernel⟩, pa_m4 24 rfl rfl, pa_m4 26 rfl rfl, pa_ms2 4 rfl rfl, pa_m1 4 rfl rfl, pa_m4 27 rfl rfl⟩
theorem cv_RX0_53 : pa_CV RX0 RX0 53 yX0_above cX0_above 6 (some .int) 4 := ⟨⟨rfl, by decide +kernel, by decide +kernel, by decide +kernel⟩, pa_m4 43 rfl rfl, pa_m4 45 rfl rfl, pa_ms2 7 rfl rfl, pa_m1 4 rfl rfl, pa_m4 46 rfl rfl⟩
theorem cs_RX1_34 : pa_CS RX1 34 yX1_holds cX1_holds 4 (some .boolean) 3 := ⟨⟨by decide +kernel, by decide +kernel, by decide +kernel⟩, pa_m2 64 rfl rfl, pa_m2 65 rfl rfl, pa_m1 5 rfl rfl, pa_m2 66 rfl rfl⟩
theorem ca_RX2_17 : Cond.methodLink RX2 17 arraycopyName ∈ pa_tb ∧ Cond.native arraycopyName ∈ pa_tb ∧ Cond.static arraycopyName ∈ pa_tb ∧ Cond.initialized "java/lang/System" ∈ pa_tb := ⟨pa_m4 7 rfl rfl, pa_m3 74 rfl rfl, pa_m3 73 rfl rfl, pa_m1 16 rfl rfl⟩
theorem ca_RX3_48 : Cond.methodLink RX3 48 arraycopyName ∈ pa_tb ∧ Cond.native arraycopyName ∈ pa_tb ∧ Cond.static arraycopyName ∈ pa_tb ∧ Cond.initialized "java/lang/System" ∈ pa_tb := ⟨pa_m3 118 rfl rfl, pa_m3 74 rfl rfl, pa_m3 73 rfl rfl, pa_m1 16 rfl rfl⟩
theorem cv_RX3_60 : pa_CV RX3 RX3 60 yX3_has cX3_has 2 (some .boolean) 1 := ⟨⟨rfl, by decide +kernel, by decide +kernel, by decide +kernel⟩, pa_m2 21 rfl rfl, pa_m2 22 rfl rfl, pa_m2 23 rfl rfl, pa_m1 7 rfl rfl, pa_m2 24 rfl rfl⟩
theorem cv_RX3_68 : pa_CV RX3 RX3 68 yX3_hasLine cX3_hasLine 3 (some .boolean) 2 := ⟨⟨rfl, by decide +kernel, by decide +kernel, by decide +kernel⟩, pa_m2 17 rfl rfl, pa_m2 18 rfl rfl, pa_m2 19 rfl rfl, pa_m1 7 rfl rfl, pa_m2 20 rfl rfl⟩
theorem cv_RX3_64 : pa_CV RX3 RX3 64 yX3_putLength cX3_putLength 4 none 3 := ⟨⟨rfl, by decide +kernel, by decide +kernel, by decide +kernel⟩, pa_m2 13 rfl rfl, pa_m2 14 rfl rfl, pa_m2 15 rfl rfl, pa_m1 7 rfl rfl, pa_m2 16 rfl rfl⟩
theorem cv_RX3_72 : pa_CV RX3 RX3 72 yX3_hasPart cX3_hasPart 3 (some .boolean) 2 := ⟨⟨rfl, by decide +kernel, by decide +kernel, by decide +kernel⟩, pa_m2 76 rfl rfl, pa_m2 78 rfl rfl, pa_ms1 0 rfl rfl, pa_m1 7 rfl rfl, pa_m2 79 rfl rfl⟩
theorem cv_RX3_75 : pa_CV RX3 RX3 75 yX3_kindOf cX3_kindOf 2 (some .int) 1 := ⟨⟨rfl, by decide +kernel, by decide +kernel, by decide +kernel⟩, pa_m2 46 rfl rfl, pa_m2 31 rfl rfl, pa_m2 32 rfl rfl, pa_m1 7 rfl rfl, pa_m2 33 rfl rfl⟩
theorem cv_RX3_79 : pa_CV RX3 RX3 79 yX3_vOf cX3_vOf 2 (some .int) 1 := ⟨⟨rfl, by decide +kernel, by decide +kernel, by decide +kernel⟩, pa_m2 47 rfl rfl, pa_m2 35 rfl rfl, pa_m2 36 rfl rfl, pa_m1 7 rfl rfl, pa_m2 37 rfl rfl⟩
theorem cv_RX3_82 : pa_CV RX3 RX3 82 yX3_lengthOf cX3_lengthOf 3 (some .int) 2 := ⟨⟨rfl, by decide +kernel, by decide +kernel, by decide +kernel⟩, pa_m2 52 rfl rfl, pa_m2 53 rfl rfl, pa_m2 54 rfl rfl, pa_m1 7 rfl rfl, pa_m2 55 rfl rfl⟩
theorem cv_RX3_86 : pa_CV RX3 RX1 86 yX1_grace cX1_grace 5 (some .int) 1 := ⟨⟨rfl, by decide +kernel, by decide +kernel, by decide +kernel⟩, pa_m2 60 rfl rfl, pa_m2 61 rfl rfl, pa_m2 62 rfl rfl, pa_m1 5 rfl rfl, pa_m2 63 rfl rfl⟩
theorem cv_RX3_90 : pa_CV RX3 RX3 90 yX3_graceOf cX3_graceOf 3 (some .int) 2 := ⟨⟨rfl, by decide +kernel, by decide +kernel, by decide +kernel⟩, pa_m2 56 rfl rfl, pa_m2 57 rfl rfl, pa_m2 58 rfl rfl, pa_m1 7 rfl rfl, pa_m2 59 rfl rfl⟩
theorem cm_RX3_93 : Cond.methodLink RX3 93 Lib.Math.max.name ∈ pa_tb ∧ Cond.static Lib.Math.max.name ∈ pa_tb ∧ Cond.initialized "java/lang/Math" ∈ pa_tb ∧ Cond.code Lib.Math.max.name Lib.Math.max.code 2 (some .int) ∈ pa_tb := ⟨pa_m2 67 rfl rfl, pa_m1 106 rfl rfl, pa_m1 6 rfl rfl, pa_m1 107 rfl rfl⟩
theorem cv_RX3_98 : pa_CV RX3 RX3 98 yX3_worthOf cX3_worthOf 4 (some .int) 2 := ⟨⟨rfl, by decide +kernel, by decide +kernel, by decide +kernel⟩, pa_m2 48 rfl rfl, pa_m2 49 rfl rfl, pa_m2 50 rfl rfl, pa_m1 7 rfl rfl, pa_m2 51 rfl rfl⟩
theorem cv_RX3_101 : pa_CV RX3 RX3 101 yX3_fortuneOf cX3_fortuneOf 5 (some .int) 1 := ⟨⟨rfl, by decide +kernel, by decide +kernel, by decide +kernel⟩, pa_m3 92 rfl rfl, pa_m2 43 rfl rfl, pa_m2 44 rfl rfl, pa_m1 7 rfl rfl, pa_m2 45 rfl rfl⟩
theorem cv_RX3_104 : pa_CV RX3 RX3 104 yX3_partOf cX3_partOf 3 (some .int) 2 := ⟨⟨rfl, by decide +kernel, by decide +kernel, by decide +kernel⟩, pa_m2 72 rfl rfl, pa_m2 73 rfl rfl, pa_m2 74 rfl rfl, pa_m1 7 rfl rfl, pa_m2 75 rfl rfl⟩
theorem cv_RX3_107 : pa_CV RX3 RX3 107 yX3_fadesOn cX3_fadesOn 3 (some .int) 2 := ⟨⟨rfl, by decide +kernel, by decide +kernel, by decide +kernel⟩, pa_m3 109 rfl rfl, pa_m2 69 rfl rfl, pa_m2 70 rfl rfl, pa_m1 7 rfl rfl, pa_m2 71 rfl rfl⟩
theorem cv_RX3_110 : pa_CV RX3 RX3 110 yX3_fadesOver cX3_fadesOver 5 (some .int) 2 := ⟨⟨rfl, by decide +kernel, by decide +kernel, by decide +kernel⟩, pa_m3 105 rfl rfl, pa_m3 107 rfl rfl, pa_ms1 14 rfl rfl, pa_m1 7 rfl rfl, pa_m3 108 rfl rfl⟩
theorem cm_RX3_113 : Cond.methodLink RX3 113 Lib.Math.min.name ∈ pa_tb ∧ Cond.static Lib.Math.min.name ∈ pa_tb ∧ Cond.initialized "java/lang/Math" ∈ pa_tb ∧ Cond.code Lib.Math.min.name Lib.Math.min.code 2 (some .int) ∈ pa_tb := ⟨pa_m2 114 rfl rfl, pa_m1 103 rfl rfl, pa_m1 6 rfl rfl, pa_m1 104 rfl rfl⟩
theorem cm_RX3_129 : Cond.methodLink RX3 129 Lib.Math.abs.name ∈ pa_tb ∧ Cond.static Lib.Math.abs.name ∈ pa_tb ∧ Cond.initialized "java/lang/Math" ∈ pa_tb ∧ Cond.code Lib.Math.abs.name Lib.Math.abs.code 1 (some .int) ∈ pa_tb := ⟨pa_m2 131 rfl rfl, pa_m2 132 rfl rfl, pa_m1 6 rfl rfl, pa_m2 133 rfl rfl⟩
theorem cv_RX3_119 : pa_CV RX3 RX3 119 yX3_wearsGloves cX3_wearsGloves 3 (some .boolean) 1 := ⟨⟨rfl, by decide +kernel, by decide +kernel, by decide +kernel⟩, pa_m2 123 rfl rfl, pa_m2 125 rfl rfl, pa_ms1 2 rfl rfl, pa_m1 7 rfl rfl, pa_m2 126 rfl rfl⟩
theorem cv_RX3_122 : pa_CV RX3 RX3 122 yX3_printLine cX3_printLine 8 (some .int) 3 := ⟨⟨rfl, by decide +kernel, by decide +kernel, by decide +kernel⟩, pa_m2 127 rfl rfl, pa_m2 129 rfl rfl, pa_ms1 3 rfl rfl, pa_m1 7 rfl rfl, pa_m2 130 rfl rfl⟩
theorem cm_RX4_19 : Cond.methodLink RX4 19 Lib.Math.min.name ∈ pa_tb ∧ Cond.static Lib.Math.min.name ∈ pa_tb ∧ Cond.initialized "java/lang/Math" ∈ pa_tb ∧ Cond.code Lib.Math.min.name Lib.Math.min.code 2 (some .int) ∈ pa_tb := ⟨pa_m4 85 rfl rfl, pa_m1 103 rfl rfl, pa_m1 6 rfl rfl, pa_m1 104 rfl rfl⟩
theorem cm_RX4_25 : Cond.methodLink RX4 25 Lib.Math.max.name ∈ pa_tb ∧ Cond.static Lib.Math.max.name ∈ pa_tb ∧ Cond.initialized "java/lang/Math" ∈ pa_tb ∧ Cond.code Lib.Math.max.name Lib.Math.max.code 2 (some .int) ∈ pa_tb := ⟨pa_m4 86 rfl rfl, pa_m1 106 rfl rfl, pa_m1 6 rfl rfl, pa_m1 107 rfl rfl⟩
theorem cs_RX4_31 : pa_CS RX4 31 yJ7_fill_d0a16 cJ7_fill_d0a16 5 none 2 := ⟨⟨by decide +kernel, by decide +kernel, by decide +kernel⟩, pa_m4 87 rfl rfl, pa_m4 88 rfl rfl, pa_m1 15 rfl rfl, pa_m4 89 rfl rfl⟩
theorem cv_RX4_37 : pa_CV RX4 RX4 37 yX4_hasPlace cX4_hasPlace 2 (some .boolean) 1 := ⟨⟨rfl, by decide +kernel, by decide +kernel, by decide +kernel⟩, pa_m3 238 rfl rfl, pa_m3 231 rfl rfl, pa_m3 232 rfl rfl, pa_m1 9 rfl rfl, pa_m3 233 rfl rfl⟩
theorem cv_RX4_41 : pa_CV RX4 RX4 41 yX4_cut cX4_cut 3 (some .long) 1 := ⟨⟨rfl, by decide +kernel, by decide +kernel, by decide +kernel⟩, pa_m4 98 rfl rfl, pa_m4 100 rfl rfl, pa_ms2 8 rfl rfl, pa_m1 9 rfl rfl, pa_m4 101 rfl rfl⟩
def wb_X0_forget_0 (u0 : pa_S) (post : pa_S → Prop) : Prop :=
  ∀ u1 : pa_S, u1 = pa_sI u0 17 0 1 0 → post u1
set_option maxRecDepth 100000 in
set_option maxHeartbeats 4000000 in
theorem tb_X0_forget_0 {p : Program} {l : Launch} {e : Env} {s : State} {m : MethodId} {args : Array Value} {below : List Frame} {meth : Method} {c : Code} {A : Nat → Prop} {D : va_G} {g : pa_G} {q : Nat → Nat → Nat} {u0 : pa_S} {post : pa_S → Prop} (hE : pa_Fx p s m args meth c A D g 1 cX0_forget RX0) (hr : meth.sig.returnType = none) (hw : wb_X0_forget_0 u0 post) : pa_At p l e (pa_rm 2) s m args below meth c (MQ below (pa_Qc g D q (fun (_ : Unit) => none) (fun (_ : Unit) u => post u) A) args s 0 0 A) A D g 1 0 0 q u0 0 [(0, .ref (q 17 0))] [] := by
  refine pa_aload_n hE dX0_forget_0 rfl 0 rfl ?_
  refine pa_iconst hE dX0_forget_1 (v := 0) (by decide) ?_
  refine pp_17_1 hE (pa_m1 79 rfl rfl) dX0_forget_2 (fun u1 eu1 => ?_)
  have hw := hw u1 eu1
  exact pa_vret (r := ()) hE hr hw rfl dX0_forget_5
def wp_X0_forget (u0 : pa_S) (post : pa_S → Prop) : Prop := wb_X0_forget_0 u0 post
theorem ct_X0_forget (l : Launch) (g : pa_G) (D : va_G) (q : Nat → Nat → Nat) (u0 : pa_S) (post : pa_S → Prop)  (hw : wp_X0_forget u0 post) : pa_Ct l yX0_forget cX0_forget 1 none 2 g D q u0 [.ref (q 17 0)] (fun (_ : Unit) => none) (fun (_ : Unit) u => post u) := pa_met rfl rfl (Nat.le_of_ble_eq_true rfl) rfl (fun p e s m args below meth c A hE hr => tb_X0_forget_0 hE hr  hw)
def wb_X0_ran_0 (u0 : pa_S) (post : Int32 → Prop) : Prop :=
  post (pa_I u0 17 0 1)
set_option maxRecDepth 100000 in
set_option maxHeartbeats 4000000 in
theorem tb_X0_ran_0 {p : Program} {l : Launch} {e : Env} {s : State} {m : MethodId} {args : Array Value} {below : List Frame} {meth : Method} {c : Code} {A : Nat → Prop} {D : va_G} {g : pa_G} {q : Nat → Nat → Nat} {u0 : pa_S} {post : Int32 → Prop} (hE : pa_Fx p s m args meth c A D g 1 cX0_ran RX0) (hr : meth.sig.returnType = (some .int)) (hw : wb_X0_ran_0 u0 post) : pa_At p l e (pa_rm 2) s m args below meth c (MQ below (pa_Qc g D q (fun r => some (.int r)) (fun r u => u = u0 ∧ post r) A) args s 0 0 A) A D g 1 0 0 q u0 0 [(0, .ref (q 17 0))] [] := by
  refine pa_aload_n hE dX0_ran_0 rfl 0 rfl ?_
  refine pg_17_1 hE (pa_m1 79 rfl rfl) dX0_ran_1 ?_
  exact pa_iret hE hr ⟨rfl, hw⟩ rfl dX0_ran_4
def wp_X0_ran (u0 : pa_S) (post : Int32 → Prop) : Prop := wb_X0_ran_0 u0 post
theorem ct_X0_ran (l : Launch) (g : pa_G) (D : va_G) (q : Nat → Nat → Nat) (u0 : pa_S) (post : Int32 → Prop)  (hw : wp_X0_ran u0 post) : pa_Ct l yX0_ran cX0_ran 1 (some .int) 2 g D q u0 [.ref (q 17 0)] (fun r => some (.int r)) (fun r u => u = u0 ∧ post r) := pa_met rfl rfl (Nat.le_of_ble_eq_true rfl) rfl (fun p e s m args below meth c A hE hr => tb_X0_ran_0 hE hr  hw)
def wb_X0_isKept_0 (u0 : pa_S) (x1 : Int32) (post : Int32 → Prop) : Prop :=
  (if x1 < 0 then post 0 else (if (pa_I u0 17 0 1) ≤ x1 then post 0 else (if 20 ≤ x1 then post 0 else post 1)))
set_option maxRecDepth 100000 in
set_option maxHeartbeats 4000000 in
theorem tb_X0_isKept_0 {p : Program} {l : Launch} {e : Env} {s : State} {m : MethodId} {args : Array Value} {below : List Frame} {meth : Method} {c : Code} {A : Nat → Prop} {D : va_G} {g : pa_G} {q : Nat → Nat → Nat} {u0 : pa_S} {x1 : Int32} {post : Int32 → Prop} (hE : pa_Fx p s m args meth c A D g 2 cX0_isKept RX0) (hr : meth.sig.returnType = (some .boolean)) (hw : wb_X0_isKept_0 u0 x1 post) : pa_At p l e (pa_rm 2) s m args below meth c (MQ below (pa_Qc g D q (fun r => some (.int r)) (fun r u => u = u0 ∧ post r) A) args s 0 0 A) A D g 2 0 0 q u0 0 [(0, .ref (q 17 0)), (1, .int x1)] [] := by
  refine pa_iload_n hE dX0_isKept_0 rfl 1 rfl ?_
  refine pa_if_lt hE dX0_isKept_1 (tgt := 22) (by decide) (fun h1 => ?_) (fun h1 => ?_)
  · have hw := Eq.mp (if_pos h1) hw
    refine pa_iconst hE dX0_isKept_22 (v := 0) (by decide) ?_
    exact pa_zret hE hr (by decide) ⟨rfl, hw⟩ rfl dX0_isKept_23
  · have hw := Eq.mp (if_neg h1) hw
    refine pa_iload_n hE dX0_isKept_4 rfl 1 rfl ?_
    refine pa_aload_n hE dX0_isKept_5 rfl 0 rfl ?_
    refine pg_17_1 hE (pa_m1 79 rfl rfl) dX0_isKept_6 ?_
    refine pa_icmp_ge hE dX0_isKept_9 (tgt := 22) (by decide) (fun h2 => ?_) (fun h2 => ?_)
    · have hw := Eq.mp (if_pos h2) hw
      refine pa_iconst hE dX0_isKept_22 (v := 0) (by decide) ?_
      exact pa_zret hE hr (by decide) ⟨rfl, hw⟩ rfl dX0_isKept_23
    · have hw := Eq.mp (if_neg h2) hw
      refine pa_iload_n hE dX0_isKept_12 rfl 1 rfl ?_
      refine pa_bipush hE dX0_isKept_13 (v := 20) (by decide) ?_
      refine pa_icmp_ge hE dX0_isKept_15 (tgt := 22) (by decide) (fun h3 => ?_) (fun h3 => ?_)
      · have hw := Eq.mp (if_pos h3) hw
        refine pa_iconst hE dX0_isKept_22 (v := 0) (by decide) ?_
        exact pa_zret hE hr (by decide) ⟨rfl, hw⟩ rfl dX0_isKept_23
      · have hw := Eq.mp (if_neg h3) hw
        refine pa_iconst hE dX0_isKept_18 (v := 1) (by decide) ?_
        refine pa_goto hE dX0_isKept_19 (tgt := 23) (by decide) ?_
        exact pa_zret hE hr (by decide) ⟨rfl, hw⟩ rfl dX0_isKept_23
def wp_X0_isKept (u0 : pa_S) (x1 : Int32) (post : Int32 → Prop) : Prop := wb_X0_isKept_0 u0 x1 post
theorem ct_X0_isKept (l : Launch) (g : pa_G) (D : va_G) (q : Nat → Nat → Nat) (u0 : pa_S) (x1 : Int32) (post : Int32 → Prop)  (hw : wp_X0_isKept u0 x1 post) : pa_Ct l yX0_isKept cX0_isKept 2 (some .boolean) 2 g D q u0 [.ref (q 17 0), .int x1] (fun r => some (.int r)) (fun r u => u = u0 ∧ post r) := pa_met rfl rfl (Nat.le_of_ble_eq_true rfl) rfl (fun p e s m args below meth c A hE hr => tb_X0_isKept_0 hE hr  hw)
def wb_X0_bodyAt_0 (u0 : pa_S) (x1 : Int32) (post : Int32 → Prop) : Prop :=
  (wp_X0_isKept u0 x1 (fun (r1 : Int32) => (if r1 = 0 then post 0 else (vp_in x1 20) ∧ post (pa_A u0 18 0 x1.toNatClampNeg))))
set_option maxRecDepth 100000 in
set_option maxHeartbeats 4000000 in
theorem tb_X0_bodyAt_0 {p : Program} {l : Launch} {e : Env} {s : State} {m : MethodId} {args : Array Value} {below : List Frame} {meth : Method} {c : Code} {A : Nat → Prop} {D : va_G} {g : pa_G} {q : Nat → Nat → Nat} {u0 : pa_S} {x1 : Int32} {post : Int32 → Prop} (hE : pa_Fx p s m args meth c A D g 2 cX0_bodyAt RX0) (hr : meth.sig.returnType = (some .int)) (hw : wb_X0_bodyAt_0 u0 x1 post) : pa_At p l e (pa_rm 3) s m args below meth c (MQ below (pa_Qc g D q (fun r => some (.int r)) (fun r u => u = u0 ∧ post r) A) args s 0 0 A) A D g 2 0 0 q u0 0 [(0, .ref (q 17 0)), (1, .int x1)] [] := by
  refine pa_aload_n hE dX0_bodyAt_0 rfl 0 rfl ?_
  refine pa_iload_n hE dX0_bodyAt_1 rfl 1 rfl ?_
  refine pa_callVri hE (ct_X0_isKept l g D q u0 x1 _ hw) cv_RX0_19 pa_in17 rfl rfl rfl (pa_hR (by omega) (by decide)) rfl (Nat.le_of_ble_eq_true rfl) dX0_bodyAt_2 (fun r1 hw => ?_)
  refine pa_if_eq hE dX0_bodyAt_5 (tgt := 17) (by decide) (fun h2 => ?_) (fun h2 => ?_)
  · have hw := Eq.mp (if_pos h2) hw
    refine pa_iconst hE dX0_bodyAt_17 (v := 0) (by decide) ?_
    exact pa_iret hE hr ⟨rfl, hw⟩ rfl dX0_bodyAt_18
  · have hw := Eq.mp (if_neg h2) hw
    refine pa_aload_n hE dX0_bodyAt_8 rfl 0 rfl ?_
    refine pg_17_0 hE (pa_m1 78 rfl rfl) dX0_bodyAt_9 ?_
    refine pa_iload_n hE dX0_bodyAt_12 rfl 1 rfl ?_
    obtain ⟨h3, hw⟩ := hw
    refine pl_18 hE h3 dX0_bodyAt_13 ?_
    refine pa_goto hE dX0_bodyAt_14 (tgt := 18) (by decide) ?_
    exact pa_iret hE hr ⟨rfl, hw⟩ rfl dX0_bodyAt_18
def wp_X0_bodyAt (u0 : pa_S) (x1 : Int32) (post : Int32 → Prop) : Prop := wb_X0_bodyAt_0 u0 x1 post
theorem ct_X0_bodyAt (l : Launch) (g : pa_G) (D : va_G) (q : Nat → Nat → Nat) (u0 : pa_S) (x1 : Int32) (post : Int32 → Prop)  (hw : wp_X0_bodyAt u0 x1 post) : pa_Ct l yX0_bodyAt cX0_bodyAt 2 (some .int) 3 g D q u0 [.ref (q 17 0), .int x1] (fun r => some (.int r)) (fun r u => u = u0 ∧ post r) := pa_met rfl rfl (Nat.le_of_ble_eq_true rfl) rfl (fun p e s m args below meth c A hE hr => tb_X0_bodyAt_0 hE hr  hw)
def wb_X0_bodyFrom_4 (k4 : Int32 → Int32 → Int32 → Prop) (u0 : pa_S) (x1 : Int32) (x2 : Int32) (x3 : Int32) (post : Int32 → Prop) : Prop :=
  (if 7 ≤ x3 then post 0 else (if x2 < 0 then post 0 else (if 7 ≤ x2 then post 0 else (if x1 < 0 then post 0 else (if 3 ≤ x1 then post 0 else (vp_in ((x2 * 3) + x1) 21) ∧ ∀ v7 : Int32, v7 = (pa_bod.getD ((x2 * 3) + x1).toNatClampNeg 0) → (if v7 = 0 then (vp_in x2 7) ∧ ∀ v10 : Int32, v10 = (pa_kab.getD x2.toNatClampNeg 0) → ∀ v11 : Int32, v11 = x3 + 1 → k4 x1 v10 v11 else post v7))))))
set_option maxRecDepth 100000 in
set_option maxHeartbeats 4000000 in
theorem tb_X0_bodyFrom_4 {p : Program} {l : Launch} {e : Env} {s : State} {m : MethodId} {args : Array Value} {below : List Frame} {meth : Method} {c : Code} {A : Nat → Prop} {D : va_G} {g : pa_G} {q : Nat → Nat → Nat} {k4 : Int32 → Int32 → Int32 → Prop} {u0 : pa_S} {x1 : Int32} {x2 : Int32} {x3 : Int32} {post : Int32 → Prop} (hE : pa_Fx p s m args meth c A D g 5 cX0_bodyFrom RX0) (hr : meth.sig.returnType = (some .int)) (hk4 : ∀ (x1 : Int32) (x2 : Int32) (x3 : Int32), k4 x1 x2 x3 → pa_At p l e (pa_rm 2) s m args below meth c (MQ below (pa_Qc g D q (fun r => some (.int r)) (fun r u => u = u0 ∧ post r) A) args s 0 0 A) A D g 5 0 0 q u0 4 [(1, .int x1), (2, .int x2), (3, .int x3)] []) (hw : wb_X0_bodyFrom_4 k4 u0 x1 x2 x3 post) : pa_At p l e (pa_rm 2) s m args below meth c (MQ below (pa_Qc g D q (fun r => some (.int r)) (fun r u => u = u0 ∧ post r) A) args s 0 0 A) A D g 5 0 0 q u0 4 [(1, .int x1), (2, .int x2), (3, .int x3)] [] := by
  refine pa_iload_n hE dX0_bodyFrom_4 rfl 2 rfl ?_
  refine pa_bipush hE dX0_bodyFrom_5 (v := 7) (by decide) ?_
  refine pa_icmp_ge hE dX0_bodyFrom_7 (tgt := 60) (by decide) (fun h1 => ?_) (fun h1 => ?_)
  · have hw := Eq.mp (if_pos h1) hw
    refine pa_iconst hE dX0_bodyFrom_60 (v := 0) (by decide) ?_
    exact pa_iret hE hr ⟨rfl, hw⟩ rfl dX0_bodyFrom_61
  · have hw := Eq.mp (if_neg h1) hw
    refine pa_iload_n hE dX0_bodyFrom_10 rfl 1 rfl ?_
    refine pa_if_lt hE dX0_bodyFrom_11 (tgt := 60) (by decide) (fun h2 => ?_) (fun h2 => ?_)
    · have hw := Eq.mp (if_pos h2) hw
      refine pa_iconst hE dX0_bodyFrom_60 (v := 0) (by decide) ?_
      exact pa_iret hE hr ⟨rfl, hw⟩ rfl dX0_bodyFrom_61
    · have hw := Eq.mp (if_neg h2) hw
      refine pa_iload_n hE dX0_bodyFrom_14 rfl 1 rfl ?_
      refine pa_bipush hE dX0_bodyFrom_15 (v := 7) (by decide) ?_
      refine pa_icmp_ge hE dX0_bodyFrom_17 (tgt := 60) (by decide) (fun h3 => ?_) (fun h3 => ?_)
      · have hw := Eq.mp (if_pos h3) hw
        refine pa_iconst hE dX0_bodyFrom_60 (v := 0) (by decide) ?_
        exact pa_iret hE hr ⟨rfl, hw⟩ rfl dX0_bodyFrom_61
      · have hw := Eq.mp (if_neg h3) hw
        refine pa_iload_n hE dX0_bodyFrom_20 rfl 0 rfl ?_
        refine pa_if_lt hE dX0_bodyFrom_21 (tgt := 60) (by decide) (fun h4 => ?_) (fun h4 => ?_)
        · have hw := Eq.mp (if_pos h4) hw
          refine pa_iconst hE dX0_bodyFrom_60 (v := 0) (by decide) ?_
          exact pa_iret hE hr ⟨rfl, hw⟩ rfl dX0_bodyFrom_61
        · have hw := Eq.mp (if_neg h4) hw
          refine pa_iload_n hE dX0_bodyFrom_24 rfl 0 rfl ?_
          refine pa_iconst hE dX0_bodyFrom_25 (v := 3) (by decide) ?_
          refine pa_icmp_ge hE dX0_bodyFrom_26 (tgt := 60) (by decide) (fun h5 => ?_) (fun h5 => ?_)
          · have hw := Eq.mp (if_pos h5) hw
            refine pa_iconst hE dX0_bodyFrom_60 (v := 0) (by decide) ?_
            exact pa_iret hE hr ⟨rfl, hw⟩ rfl dX0_bodyFrom_61
          · have hw := Eq.mp (if_neg h5) hw
            refine pa_getsB hE (pa_m4 31 rfl rfl) dX0_bodyFrom_29 ?_
            refine pa_iload_n hE dX0_bodyFrom_32 rfl 1 rfl ?_
            refine pa_iconst hE dX0_bodyFrom_33 (v := 3) (by decide) ?_
            refine pa_imul hE dX0_bodyFrom_34 ?_
            refine pa_iload_n hE dX0_bodyFrom_35 rfl 0 rfl ?_
            refine pa_iadd hE dX0_bodyFrom_36 ?_
            obtain ⟨h6, hw⟩ := hw
            refine pa_tldB hE h6 dX0_bodyFrom_37 ?_
            refine pa_namei (fun v7 ev7 => ?_)
            have hw := hw v7 ev7
            refine pa_istore hE dX0_bodyFrom_38 (by decide) (lvr := [(1, .int x1), (2, .int x2), (3, .int x3)]) rfl ?_
            refine pa_iload hE dX0_bodyFrom_40 0 rfl ?_
            refine pa_if_eq hE dX0_bodyFrom_42 (tgt := 48) (by decide) (fun h8 => ?_) (fun h8 => ?_)
            · have hw := Eq.mp (if_pos h8) hw
              refine pa_getsKN hE rfl rfl dX0_bodyFrom_48 ?_
              refine pa_iload_n hE dX0_bodyFrom_51 rfl 2 rfl ?_
              obtain ⟨h9, hw⟩ := hw
              refine pa_tldK hE h9 dX0_bodyFrom_52 ?_
              refine pa_namei (fun v10 ev10 => ?_)
              have hw := hw v10 ev10
              refine pa_istore_n hE dX0_bodyFrom_53 rfl (by decide) (lvr := [(4, .int v7), (1, .int x1), (3, .int x3)]) rfl ?_
              refine pa_iinc hE dX0_bodyFrom_54 (v := 1) 3 rfl (by decide) (by decide) (lvr := [(2, .int v10), (4, .int v7), (1, .int x1)]) rfl (fun v11 ev11 => ?_)
              have hw := hw v11 ev11
              refine pa_goto hE dX0_bodyFrom_57 (tgt := 4) (by decide) ?_
              exact pa_sub [3, 1, 0] rfl (hk4 x1 v10 v11 hw)
            · have hw := Eq.mp (if_neg h8) hw
              refine pa_iload hE dX0_bodyFrom_45 0 rfl ?_
              exact pa_iret hE hr ⟨rfl, hw⟩ rfl dX0_bodyFrom_47
def wl_X0_bodyFrom_4 (post : Int32 → Prop) (u0 : pa_S) : Nat → Int32 → Int32 → Int32 → Prop
  | 0, _, _, _ => False
  | n + 1, x1, x2, x3 => wb_X0_bodyFrom_4 (fun x1 x2 x3 => wl_X0_bodyFrom_4 post u0 n x1 x2 x3) u0 x1 x2 x3 post
set_option maxRecDepth 100000 in
set_option maxHeartbeats 4000000 in
theorem tl_X0_bodyFrom_4 {p : Program} {l : Launch} {e : Env} {s : State} {m : MethodId} {args : Array Value} {below : List Frame} {meth : Method} {c : Code} {A : Nat → Prop} {D : va_G} {g : pa_G} {q : Nat → Nat → Nat} {u0 : pa_S} {post : Int32 → Prop} (hE : pa_Fx p s m args meth c A D g 5 cX0_bodyFrom RX0) (hr : meth.sig.returnType = (some .int)) : ∀ (n : Nat) (x1 : Int32) (x2 : Int32) (x3 : Int32), wl_X0_bodyFrom_4 post u0 n x1 x2 x3 → pa_At p l e (pa_rm 2) s m args below meth c (MQ below (pa_Qc g D q (fun r => some (.int r)) (fun r u => u = u0 ∧ post r) A) args s 0 0 A) A D g 5 0 0 q u0 4 [(1, .int x1), (2, .int x2), (3, .int x3)] []
  | 0, _, _, _, hw => absurd hw (by simp only [wl_X0_bodyFrom_4]; exact fun z => z)
  | n + 1, x1, x2, x3, hw => tb_X0_bodyFrom_4 hE hr (fun x1 x2 x3  hw1 => tl_X0_bodyFrom_4 hE hr  n x1 x2 x3  hw1) hw
def wb_X0_bodyFrom_0 (u0 : pa_S) (x0 : Int32) (x1 : Int32) (post : Int32 → Prop) : Prop :=
  wl_X0_bodyFrom_4 post u0 5000 x1 x0 0
set_option maxRecDepth 100000 in
set_option maxHeartbeats 4000000 in
theorem tb_X0_bodyFrom_0 {p : Program} {l : Launch} {e : Env} {s : State} {m : MethodId} {args : Array Value} {below : List Frame} {meth : Method} {c : Code} {A : Nat → Prop} {D : va_G} {g : pa_G} {q : Nat → Nat → Nat} {u0 : pa_S} {x0 : Int32} {x1 : Int32} {post : Int32 → Prop} (hE : pa_Fx p s m args meth c A D g 5 cX0_bodyFrom RX0) (hr : meth.sig.returnType = (some .int)) (hw : wb_X0_bodyFrom_0 u0 x0 x1 post) : pa_At p l e (pa_rm 2) s m args below meth c (MQ below (pa_Qc g D q (fun r => some (.int r)) (fun r u => u = u0 ∧ post r) A) args s 0 0 A) A D g 5 0 0 q u0 0 [(0, .int x0), (1, .int x1)] [] := by
  refine pa_iload_n hE dX0_bodyFrom_0 rfl 0 rfl ?_
  refine pa_istore_n hE dX0_bodyFrom_1 rfl (by decide) (lvr := [(0, .int x0), (1, .int x1)]) rfl ?_
  refine pa_iconst hE dX0_bodyFrom_2 (v := 0) (by decide) ?_
  refine pa_istore_n hE dX0_bodyFrom_3 rfl (by decide) (lvr := [(2, .int x0), (0, .int x0), (1, .int x1)]) rfl ?_
  exact pa_sub [3, 1, 0] rfl (tl_X0_bodyFrom_4 hE hr 5000 x1 x0 0 hw)
def wp_X0_bodyFrom (u0 : pa_S) (x0 : Int32) (x1 : Int32) (post : Int32 → Prop) : Prop := wb_X0_bodyFrom_0 u0 x0 x1 post
theorem ct_X0_bodyFrom (l : Launch) (g : pa_G) (D : va_G) (q : Nat → Nat → Nat) (u0 : pa_S) (x0 : Int32) (x1 : Int32) (post : Int32 → Prop)  (hw : wp_X0_bodyFrom u0 x0 x1 post) : pa_Ct l yX0_bodyFrom cX0_bodyFrom 5 (some .int) 2 g D q u0 [.int x0, .int x1] (fun r => some (.int r)) (fun r u => u = u0 ∧ post r) := pa_met rfl rfl (Nat.le_of_ble_eq_true rfl) rfl (fun p e s m args below meth c A hE hr => tb_X0_bodyFrom_0 hE hr  hw)
def wb_X0_begun_26 (u0 : pa_S) (post : pa_S → Prop) : Prop :=
  ∀ u2 : pa_S, u2 = pa_sI u0 17 0 1 ((pa_I u0 17 0 1) + 1) → post u2
set_option maxRecDepth 100000 in
set_option maxHeartbeats 4000000 in
theorem tb_X0_begun_26 {p : Program} {l : Launch} {e : Env} {s : State} {m : MethodId} {args : Array Value} {below : List Frame} {meth : Method} {c : Code} {A : Nat → Prop} {D : va_G} {g : pa_G} {q : Nat → Nat → Nat} {u0 : pa_S} {post : pa_S → Prop} (hE : pa_Fx p s m args meth c A D g 2 cX0_begun RX0) (hr : meth.sig.returnType = none) (hw : wb_X0_begun_26 u0 post) : pa_At p l e (pa_rm 2) s m args below meth c (MQ below (pa_Qc g D q (fun (_ : Unit) => none) (fun (_ : Unit) u => post u) A) args s 0 0 A) A D g 2 0 0 q u0 26 [(0, .ref (q 17 0))] [] := by
  refine pa_aload_n hE dX0_begun_26 rfl 0 rfl ?_
  refine pa_dup hE dX0_begun_27 rfl ?_
  refine pg_17_1 hE (pa_m1 79 rfl rfl) dX0_begun_28 ?_
  refine pa_iconst hE dX0_begun_31 (v := 1) (by decide) ?_
  refine pa_iadd hE dX0_begun_32 ?_
  refine pp_17_1 hE (pa_m1 79 rfl rfl) dX0_begun_33 (fun u2 eu2 => ?_)
  have hw := hw u2 eu2
  exact pa_vret (r := ()) hE hr hw rfl dX0_begun_36
def wb_X0_begun_0 (u0 : pa_S) (x1 : Int32) (post : pa_S → Prop) : Prop :=
  (if (pa_I u0 17 0 1) < 0 then wb_X0_begun_26 u0 post else (if 20 ≤ (pa_I u0 17 0 1) then wb_X0_begun_26 u0 post else (vp_in (pa_I u0 17 0 1) 20) ∧ ∀ u5 : pa_S, u5 = pa_sA u0 18 0 (upd (pa_A u0 18 0) (pa_I u0 17 0 1).toNatClampNeg x1) → wb_X0_begun_26 u5 post))
set_option maxRecDepth 100000 in
set_option maxHeartbeats 4000000 in
theorem tb_X0_begun_0 {p : Program} {l : Launch} {e : Env} {s : State} {m : MethodId} {args : Array Value} {below : List Frame} {meth : Method} {c : Code} {A : Nat → Prop} {D : va_G} {g : pa_G} {q : Nat → Nat → Nat} {u0 : pa_S} {x1 : Int32} {post : pa_S → Prop} (hE : pa_Fx p s m args meth c A D g 2 cX0_begun RX0) (hr : meth.sig.returnType = none) (hw : wb_X0_begun_0 u0 x1 post) : pa_At p l e (pa_rm 2) s m args below meth c (MQ below (pa_Qc g D q (fun (_ : Unit) => none) (fun (_ : Unit) u => post u) A) args s 0 0 A) A D g 2 0 0 q u0 0 [(0, .ref (q 17 0)), (1, .int x1)] [] := by
  refine pa_aload_n hE dX0_begun_0 rfl 0 rfl ?_
  refine pg_17_1 hE (pa_m1 79 rfl rfl) dX0_begun_1 ?_
  refine pa_if_lt hE dX0_begun_4 (tgt := 26) (by decide) (fun h1 => ?_) (fun h1 => ?_)
  · have hw := Eq.mp (if_pos h1) hw
    exact pa_sub [0] rfl (tb_X0_begun_26 hE hr hw)
  · have hw := Eq.mp (if_neg h1) hw
    refine pa_aload_n hE dX0_begun_7 rfl 0 rfl ?_
    refine pg_17_1 hE (pa_m1 79 rfl rfl) dX0_begun_8 ?_
    refine pa_bipush hE dX0_begun_11 (v := 20) (by decide) ?_
    refine pa_icmp_ge hE dX0_begun_13 (tgt := 26) (by decide) (fun h3 => ?_) (fun h3 => ?_)
    · have hw := Eq.mp (if_pos h3) hw
      exact pa_sub [0] rfl (tb_X0_begun_26 hE hr hw)
    · have hw := Eq.mp (if_neg h3) hw
      refine pa_aload_n hE dX0_begun_16 rfl 0 rfl ?_
      refine pg_17_0 hE (pa_m1 78 rfl rfl) dX0_begun_17 ?_
      refine pa_aload_n hE dX0_begun_20 rfl 0 rfl ?_
      refine pg_17_1 hE (pa_m1 79 rfl rfl) dX0_begun_21 ?_
      refine pa_iload_n hE dX0_begun_24 rfl 1 rfl ?_
      obtain ⟨h4, hw⟩ := hw
      refine ps_18 hE h4 dX0_begun_25 (fun u5 eu5 => ?_)
      have hw := hw u5 eu5
      exact pa_sub [0] rfl (tb_X0_begun_26 hE hr hw)
def wp_X0_begun (u0 : pa_S) (x1 : Int32) (post : pa_S → Prop) : Prop := wb_X0_begun_0 u0 x1 post
theorem ct_X0_begun (l : Launch) (g : pa_G) (D : va_G) (q : Nat → Nat → Nat) (u0 : pa_S) (x1 : Int32) (post : pa_S → Prop)  (hw : wp_X0_begun u0 x1 post) : pa_Ct l yX0_begun cX0_begun 2 none 2 g D q u0 [.ref (q 17 0), .int x1] (fun (_ : Unit) => none) (fun (_ : Unit) u => post u) := pa_met rfl rfl (Nat.le_of_ble_eq_true rfl) rfl (fun p e s m args below meth c A hE hr => tb_X0_begun_0 hE hr  hw)
def wb_X0_own_0 (rec_X0_own : pa_S → Int32 → Int32 → Int32 → (Int32 → pa_S → Prop) → Prop) (rec_X0_above : pa_S → Int32 → Int32 → Int32 → Int32 → (Int32 → pa_S → Prop) → Prop) (rec_X0_run : pa_S → Int32 → Int32 → Int32 → (Int32 → pa_S → Prop) → Prop) (u0 : pa_S) (x1 : Int32) (x2 : Int32) (x3 : Int32) (post : Int32 → pa_S → Prop) : Prop :=
  (wp_X0_bodyFrom u0 (pa_I u0 17 0 3) x1 (fun (r1 : Int32) => (rec_X0_run u0 r1 x2 (x3 + 1) (fun (r2 : Int32) (u3 : pa_S) => post r2 u3))))
set_option maxRecDepth 100000 in
set_option maxHeartbeats 4000000 in
theorem tb_X0_own_0 {p : Program} {l : Launch} {e : Env} {s : State} {m : MethodId} {args : Array Value} {below : List Frame} {meth : Method} {c : Code} {A : Nat → Prop} {D : va_G} {g : pa_G} {q : Nat → Nat → Nat} {d : Nat} {rec_X0_own : pa_S → Int32 → Int32 → Int32 → (Int32 → pa_S → Prop) → Prop} {rec_X0_above : pa_S → Int32 → Int32 → Int32 → Int32 → (Int32 → pa_S → Prop) → Prop} {rec_X0_run : pa_S → Int32 → Int32 → Int32 → (Int32 → pa_S → Prop) → Prop} {u0 : pa_S} {x1 : Int32} {x2 : Int32} {x3 : Int32} {post : Int32 → pa_S → Prop} (hE : pa_Fx p s m args meth c A D g 4 cX0_own RX0) (hr : meth.sig.returnType = (some .int)) (hrec_X0_own : ∀ (u : pa_S) (x1 : Int32) (x2 : Int32) (x3 : Int32) (po : Int32 → pa_S → Prop), rec_X0_own u x1 x2 x3 po → pa_Ct l yX0_own cX0_own 4 (some .int) (3 + d) g D q u [.ref (q 17 0), .int x1, .int x2, .int x3] (fun r => some (.int r)) po) (hrec_X0_above : ∀ (u : pa_S) (x1 : Int32) (x2 : Int32) (x3 : Int32) (x4 : Int32) (po : Int32 → pa_S → Prop), rec_X0_above u x1 x2 x3 x4 po → pa_Ct l yX0_above cX0_above 6 (some .int) (3 + d) g D q u [.ref (q 17 0), .int x1, .int x2, .int x3, .int x4] (fun r => some (.int r)) po) (hrec_X0_run : ∀ (u : pa_S) (x1 : Int32) (x2 : Int32) (x3 : Int32) (po : Int32 → pa_S → Prop), rec_X0_run u x1 x2 x3 po → pa_Ct l yX0_run cX0_run 4 (some .int) (3 + d) g D q u [.ref (q 17 0), .int x1, .int x2, .int x3] (fun r => some (.int r)) po) (hw : wb_X0_own_0 rec_X0_own rec_X0_above rec_X0_run u0 x1 x2 x3 post) : pa_At p l e (pa_rm (3 + (d + 1))) s m args below meth c (MQ below (pa_Qc g D q (fun r => some (.int r)) post A) args s 0 0 A) A D g 4 0 0 q u0 0 [(0, .ref (q 17 0)), (1, .int x1), (2, .int x2), (3, .int x3)] [] := by
  refine pa_aload_n hE dX0_own_0 rfl 0 rfl ?_
  refine pa_aload_n hE dX0_own_1 rfl 0 rfl ?_
  refine pg_17_3 hE (pa_m1 81 rfl rfl) dX0_own_2 ?_
  refine pa_iload_n hE dX0_own_5 rfl 1 rfl ?_
  refine pa_callSri hE (ct_X0_bodyFrom l g D q u0 (pa_I u0 17 0 3) x1 _ hw) cs_RX0_36 rfl (pa_hR (by omega) (by decide)) rfl (Nat.le_of_ble_eq_true rfl) dX0_own_6 (fun r1 hw => ?_)
  refine pa_iload_n hE dX0_own_9 rfl 2 rfl ?_
  refine pa_iload_n hE dX0_own_10 rfl 3 rfl ?_
  refine pa_iconst hE dX0_own_11 (v := 1) (by decide) ?_
  refine pa_iadd hE dX0_own_12 ?_
  refine pa_callVi hE (hrec_X0_run u0 r1 x2 (x3 + 1) _ hw) cv_RX0_40 pa_in17 rfl rfl rfl (pa_hR (by omega) (by decide)) rfl (Nat.le_of_ble_eq_true rfl) dX0_own_13 (fun r2 u3 hw => ?_)
  exact pa_iret hE hr hw rfl dX0_own_16
def wb_X0_above_35 (rec_X0_own : pa_S → Int32 → Int32 → Int32 → (Int32 → pa_S → Prop) → Prop) (rec_X0_above : pa_S → Int32 → Int32 → Int32 → Int32 → (Int32 → pa_S → Prop) → Prop) (rec_X0_run : pa_S → Int32 → Int32 → Int32 → (Int32 → pa_S → Prop) → Prop) (u0 : pa_S) (x3 : Int32) (x4 : Int32) (y1 : Int32) (post : Int32 → pa_S → Prop) : Prop :=
  (rec_X0_run u0 y1 x3 (x4 + 1) (fun (r3 : Int32) (u4 : pa_S) => post r3 u4))
set_option maxRecDepth 100000 in
set_option maxHeartbeats 4000000 in
theorem tb_X0_above_35 {p : Program} {l : Launch} {e : Env} {s : State} {m : MethodId} {args : Array Value} {below : List Frame} {meth : Method} {c : Code} {A : Nat → Prop} {D : va_G} {g : pa_G} {q : Nat → Nat → Nat} {d : Nat} {rec_X0_own : pa_S → Int32 → Int32 → Int32 → (Int32 → pa_S → Prop) → Prop} {rec_X0_above : pa_S → Int32 → Int32 → Int32 → Int32 → (Int32 → pa_S → Prop) → Prop} {rec_X0_run : pa_S → Int32 → Int32 → Int32 → (Int32 → pa_S → Prop) → Prop} {u0 : pa_S} {x3 : Int32} {x4 : Int32} {y1 : Int32} {post : Int32 → pa_S → Prop} (hE : pa_Fx p s m args meth c A D g 6 cX0_above RX0) (hr : meth.sig.returnType = (some .int)) (hrec_X0_own : ∀ (u : pa_S) (x1 : Int32) (x2 : Int32) (x3 : Int32) (po : Int32 → pa_S → Prop), rec_X0_own u x1 x2 x3 po → pa_Ct l yX0_own cX0_own 4 (some .int) (3 + d) g D q u [.ref (q 17 0), .int x1, .int x2, .int x3] (fun r => some (.int r)) po) (hrec_X0_above : ∀ (u : pa_S) (x1 : Int32) (x2 : Int32) (x3 : Int32) (x4 : Int32) (po : Int32 → pa_S → Prop), rec_X0_above u x1 x2 x3 x4 po → pa_Ct l yX0_above cX0_above 6 (some .int) (3 + d) g D q u [.ref (q 17 0), .int x1, .int x2, .int x3, .int x4] (fun r => some (.int r)) po) (hrec_X0_run : ∀ (u : pa_S) (x1 : Int32) (x2 : Int32) (x3 : Int32) (po : Int32 → pa_S → Prop), rec_X0_run u x1 x2 x3 po → pa_Ct l yX0_run cX0_run 4 (some .int) (3 + d) g D q u [.ref (q 17 0), .int x1, .int x2, .int x3] (fun r => some (.int r)) po) (hw : wb_X0_above_35 rec_X0_own rec_X0_above rec_X0_run u0 x3 x4 y1 post) : pa_At p l e (pa_rm (3 + (d + 1))) s m args below meth c (MQ below (pa_Qc g D q (fun r => some (.int r)) post A) args s 0 0 A) A D g 6 0 0 q u0 35 [(3, .int x3), (4, .int x4)] [.int y1, .ref (q 17 0)] := by
  refine pa_iload_n hE dX0_above_35 rfl 0 rfl ?_
  refine pa_iload hE dX0_above_36 1 rfl ?_
  refine pa_iconst hE dX0_above_38 (v := 1) (by decide) ?_
  refine pa_iadd hE dX0_above_39 ?_
  refine pa_callVi hE (hrec_X0_run u0 y1 x3 (x4 + 1) _ hw) cv_RX0_40 pa_in17 rfl rfl rfl (pa_hR (by omega) (by decide)) rfl (Nat.le_of_ble_eq_true rfl) dX0_above_40 (fun r3 u4 hw => ?_)
  exact pa_iret hE hr hw rfl dX0_above_43
def wb_X0_above_34 (rec_X0_own : pa_S → Int32 → Int32 → Int32 → (Int32 → pa_S → Prop) → Prop) (rec_X0_above : pa_S → Int32 → Int32 → Int32 → Int32 → (Int32 → pa_S → Prop) → Prop) (rec_X0_run : pa_S → Int32 → Int32 → Int32 → (Int32 → pa_S → Prop) → Prop) (u0 : pa_S) (x3 : Int32) (x4 : Int32) (post : Int32 → pa_S → Prop) : Prop :=
  wb_X0_above_35 rec_X0_own rec_X0_above rec_X0_run u0 x3 x4 0 post
set_option maxRecDepth 100000 in
set_option maxHeartbeats 4000000 in
theorem tb_X0_above_34 {p : Program} {l : Launch} {e : Env} {s : State} {m : MethodId} {args : Array Value} {below : List Frame} {meth : Method} {c : Code} {A : Nat → Prop} {D : va_G} {g : pa_G} {q : Nat → Nat → Nat} {d : Nat} {rec_X0_own : pa_S → Int32 → Int32 → Int32 → (Int32 → pa_S → Prop) → Prop} {rec_X0_above : pa_S → Int32 → Int32 → Int32 → Int32 → (Int32 → pa_S → Prop) → Prop} {rec_X0_run : pa_S → Int32 → Int32 → Int32 → (Int32 → pa_S → Prop) → Prop} {u0 : pa_S} {x3 : Int32} {x4 : Int32} {post : Int32 → pa_S → Prop} (hE : pa_Fx p s m args meth c A D g 6 cX0_above RX0) (hr : meth.sig.returnType = (some .int)) (hrec_X0_own : ∀ (u : pa_S) (x1 : Int32) (x2 : Int32) (x3 : Int32) (po : Int32 → pa_S → Prop), rec_X0_own u x1 x2 x3 po → pa_Ct l yX0_own cX0_own 4 (some .int) (3 + d) g D q u [.ref (q 17 0), .int x1, .int x2, .int x3] (fun r => some (.int r)) po) (hrec_X0_above : ∀ (u : pa_S) (x1 : Int32) (x2 : Int32) (x3 : Int32) (x4 : Int32) (po : Int32 → pa_S → Prop), rec_X0_above u x1 x2 x3 x4 po → pa_Ct l yX0_above cX0_above 6 (some .int) (3 + d) g D q u [.ref (q 17 0), .int x1, .int x2, .int x3, .int x4] (fun r => some (.int r)) po) (hrec_X0_run : ∀ (u : pa_S) (x1 : Int32) (x2 : Int32) (x3 : Int32) (po : Int32 → pa_S → Prop), rec_X0_run u x1 x2 x3 po → pa_Ct l yX0_run cX0_run 4 (some .int) (3 + d) g D q u [.ref (q 17 0), .int x1, .int x2, .int x3] (fun r => some (.int r)) po) (hw : wb_X0_above_34 rec_X0_own rec_X0_above rec_X0_run u0 x3 x4 post) : pa_At p l e (pa_rm (3 + (d + 1))) s m args below meth c (MQ below (pa_Qc g D q (fun r => some (.int r)) post A) args s 0 0 A) A D g 6 0 0 q u0 34 [(3, .int x3), (4, .int x4)] [.ref (q 17 0)] := by
  refine pa_iconst hE dX0_above_34 (v := 0) (by decide) ?_
  exact pa_sub [0, 1] rfl (tb_X0_above_35 hE hr hrec_X0_own hrec_X0_above hrec_X0_run hw)
def wb_X0_above_0 (rec_X0_own : pa_S → Int32 → Int32 → Int32 → (Int32 → pa_S → Prop) → Prop) (rec_X0_above : pa_S → Int32 → Int32 → Int32 → Int32 → (Int32 → pa_S → Prop) → Prop) (rec_X0_run : pa_S → Int32 → Int32 → Int32 → (Int32 → pa_S → Prop) → Prop) (u0 : pa_S) (x1 : Int32) (x2 : Int32) (x3 : Int32) (x4 : Int32) (post : Int32 → pa_S → Prop) : Prop :=
  ∀ v1 : Int32, v1 = ((x1 / 10) - 1) → (if v1 < 0 then wb_X0_above_34 rec_X0_own rec_X0_above rec_X0_run u0 x3 x4 post else (if 7 ≤ v1 then wb_X0_above_34 rec_X0_own rec_X0_above rec_X0_run u0 x3 x4 post else (vp_in v1 7) ∧ (wp_X0_bodyFrom u0 (pa_kab.getD v1.toNatClampNeg 0) x2 (fun (r7 : Int32) => wb_X0_above_35 rec_X0_own rec_X0_above rec_X0_run u0 x3 x4 r7 post))))
set_option maxRecDepth 100000 in
set_option maxHeartbeats 4000000 in
theorem tb_X0_above_0 {p : Program} {l : Launch} {e : Env} {s : State} {m : MethodId} {args : Array Value} {below : List Frame} {meth : Method} {c : Code} {A : Nat → Prop} {D : va_G} {g : pa_G} {q : Nat → Nat → Nat} {d : Nat} {rec_X0_own : pa_S → Int32 → Int32 → Int32 → (Int32 → pa_S → Prop) → Prop} {rec_X0_above : pa_S → Int32 → Int32 → Int32 → Int32 → (Int32 → pa_S → Prop) → Prop} {rec_X0_run : pa_S → Int32 → Int32 → Int32 → (Int32 → pa_S → Prop) → Prop} {u0 : pa_S} {x1 : Int32} {x2 : Int32} {x3 : Int32} {x4 : Int32} {post : Int32 → pa_S → Prop} (hE : pa_Fx p s m args meth c A D g 6 cX0_above RX0) (hr : meth.sig.returnType = (some .int)) (hrec_X0_own : ∀ (u : pa_S) (x1 : Int32) (x2 : Int32) (x3 : Int32) (po : Int32 → pa_S → Prop), rec_X0_own u x1 x2 x3 po → pa_Ct l yX0_own cX0_own 4 (some .int) (3 + d) g D q u [.ref (q 17 0), .int x1, .int x2, .int x3] (fun r => some (.int r)) po) (hrec_X0_above : ∀ (u : pa_S) (x1 : Int32) (x2 : Int32) (x3 : Int32) (x4 : Int32) (po : Int32 → pa_S → Prop), rec_X0_above u x1 x2 x3 x4 po → pa_Ct l yX0_above cX0_above 6 (some .int) (3 + d) g D q u [.ref (q 17 0), .int x1, .int x2, .int x3, .int x4] (fun r => some (.int r)) po) (hrec_X0_run : ∀ (u : pa_S) (x1 : Int32) (x2 : Int32) (x3 : Int32) (po : Int32 → pa_S → Prop), rec_X0_run u x1 x2 x3 po → pa_Ct l yX0_run cX0_run 4 (some .int) (3 + d) g D q u [.ref (q 17 0), .int x1, .int x2, .int x3] (fun r => some (.int r)) po) (hw : wb_X0_above_0 rec_X0_own rec_X0_above rec_X0_run u0 x1 x2 x3 x4 post) : pa_At p l e (pa_rm (3 + (d + 1))) s m args below meth c (MQ below (pa_Qc g D q (fun r => some (.int r)) post A) args s 0 0 A) A D g 6 0 0 q u0 0 [(0, .ref (q 17 0)), (1, .int x1), (2, .int x2), (3, .int x3), (4, .int x4)] [] := by
  refine pa_iload_n hE dX0_above_0 rfl 1 rfl ?_
  refine pa_bipush hE dX0_above_1 (v := 10) (by decide) ?_
  refine pa_idiv hE dX0_above_3 (by decide) ?_
  refine pa_iconst hE dX0_above_4 (v := 1) (by decide) ?_
  refine pa_isub hE dX0_above_5 ?_
  refine pa_namei (fun v1 ev1 => ?_)
  have hw := hw v1 ev1
  refine pa_istore hE dX0_above_6 (by decide) (lvr := [(0, .ref (q 17 0)), (1, .int x1), (2, .int x2), (3, .int x3), (4, .int x4)]) rfl ?_
  refine pa_aload_n hE dX0_above_8 rfl 1 rfl ?_
  refine pa_iload hE dX0_above_9 0 rfl ?_
  refine pa_if_lt hE dX0_above_11 (tgt := 34) (by decide) (fun h2 => ?_) (fun h2 => ?_)
  · have hw := Eq.mp (if_pos h2) hw
    exact pa_sub [4, 5] rfl (tb_X0_above_34 hE hr hrec_X0_own hrec_X0_above hrec_X0_run hw)
  · have hw := Eq.mp (if_neg h2) hw
    refine pa_iload hE dX0_above_14 0 rfl ?_
    refine pa_bipush hE dX0_above_16 (v := 7) (by decide) ?_
    refine pa_icmp_ge hE dX0_above_18 (tgt := 34) (by decide) (fun h5 => ?_) (fun h5 => ?_)
    · have hw := Eq.mp (if_pos h5) hw
      exact pa_sub [4, 5] rfl (tb_X0_above_34 hE hr hrec_X0_own hrec_X0_above hrec_X0_run hw)
    · have hw := Eq.mp (if_neg h5) hw
      refine pa_getsKN hE rfl rfl dX0_above_21 ?_
      refine pa_iload hE dX0_above_24 0 rfl ?_
      obtain ⟨h6, hw⟩ := hw
      refine pa_tldK hE h6 dX0_above_26 ?_
      refine pa_iload_n hE dX0_above_27 rfl 3 rfl ?_
      refine pa_callSri hE (ct_X0_bodyFrom l g D q u0 (pa_kab.getD v1.toNatClampNeg 0) x2 _ hw) cs_RX0_36 rfl (pa_hR (by omega) (by decide)) rfl (Nat.le_of_ble_eq_true rfl) dX0_above_28 (fun r7 hw => ?_)
      refine pa_goto hE dX0_above_31 (tgt := 35) (by decide) ?_
      exact pa_sub [4, 5] rfl (tb_X0_above_35 hE hr hrec_X0_own hrec_X0_above hrec_X0_run hw)
def wb_X0_run_0 (rec_X0_own : pa_S → Int32 → Int32 → Int32 → (Int32 → pa_S → Prop) → Prop) (rec_X0_above : pa_S → Int32 → Int32 → Int32 → Int32 → (Int32 → pa_S → Prop) → Prop) (rec_X0_run : pa_S → Int32 → Int32 → Int32 → (Int32 → pa_S → Prop) → Prop) (u0 : pa_S) (x1 : Int32) (x2 : Int32) (x3 : Int32) (post : Int32 → pa_S → Prop) : Prop :=
  (if x3 ≤ 30 then (wp_X0_begun u0 x1 (fun (u3 : pa_S) => (if x1 = 10 then post (x2 + (pa_I u3 17 0 2)) u3 else (if x1 = 11 then (rec_X0_own u3 0 x2 x3 (fun (r15 : Int32) (u16 : pa_S) => post (r15 - (pa_I u16 17 0 4)) u16)) else (if x1 = 12 then (rec_X0_own u3 1 x2 x3 (fun (r17 : Int32) (u18 : pa_S) => post (r17 * 2) u18)) else (if x1 = 20 then (rec_X0_above u3 x1 1 x2 x3 (fun (r19 : Int32) (u20 : pa_S) => post (r19 ^^^ 6) u20)) else (if x1 = 30 then (rec_X0_above u3 x1 0 (x2 * 3) x3 (fun (r21 : Int32) (u22 : pa_S) => post r21 u22)) else (if x1 = 40 then (rec_X0_above u3 x1 2 x2 x3 (fun (r23 : Int32) (u24 : pa_S) => (rec_X0_own u24 1 1 x3 (fun (r25 : Int32) (u26 : pa_S) => post (r23 + r25) u26)))) else (if x1 = 50 then (rec_X0_above u3 x1 0 x2 x3 (fun (r27 : Int32) (u28 : pa_S) => post (-r27) u28)) else (if x1 = 51 then (rec_X0_above u3 x1 1 (x2 + 1) x3 (fun (r29 : Int32) (u30 : pa_S) => post r29 u30)) else (if x1 = 60 then (rec_X0_above u3 x1 2 (x2 - (pa_I u3 17 0 2)) x3 (fun (r31 : Int32) (u32 : pa_S) => post r31 u32)) else (if x1 = 70 then (rec_X0_above u3 x1 1 x2 x3 (fun (r33 : Int32) (u34 : pa_S) => (rec_X0_above u34 x1 0 2 x3 (fun (r35 : Int32) (u36 : pa_S) => post (r33 + r35) u36)))) else (if x1 = 71 then (rec_X0_above u3 x1 0 x2 x3 (fun (r37 : Int32) (u38 : pa_S) => post (r37 ^^^ (pa_I u38 17 0 4)) u38)) else post 0 u3))))))))))))) else post 0 u0)
set_option maxRecDepth 100000 in
set_option maxHeartbeats 4000000 in
theorem tb_X0_run_0 {p : Program} {l : Launch} {e : Env} {s : State} {m : MethodId} {args : Array Value} {below : List Frame} {meth : Method} {c : Code} {A : Nat → Prop} {D : va_G} {g : pa_G} {q : Nat → Nat → Nat} {d : Nat} {rec_X0_own : pa_S → Int32 → Int32 → Int32 → (Int32 → pa_S → Prop) → Prop} {rec_X0_above : pa_S → Int32 → Int32 → Int32 → Int32 → (Int32 → pa_S → Prop) → Prop} {rec_X0_run : pa_S → Int32 → Int32 → Int32 → (Int32 → pa_S → Prop) → Prop} {u0 : pa_S} {x1 : Int32} {x2 : Int32} {x3 : Int32} {post : Int32 → pa_S → Prop} (hE : pa_Fx p s m args meth c A D g 4 cX0_run RX0) (hr : meth.sig.returnType = (some .int)) (hrec_X0_own : ∀ (u : pa_S) (x1 : Int32) (x2 : Int32) (x3 : Int32) (po : Int32 → pa_S → Prop), rec_X0_own u x1 x2 x3 po → pa_Ct l yX0_own cX0_own 4 (some .int) (3 + d) g D q u [.ref (q 17 0), .int x1, .int x2, .int x3] (fun r => some (.int r)) po) (hrec_X0_above : ∀ (u : pa_S) (x1 : Int32) (x2 : Int32) (x3 : Int32) (x4 : Int32) (po : Int32 → pa_S → Prop), rec_X0_above u x1 x2 x3 x4 po → pa_Ct l yX0_above cX0_above 6 (some .int) (3 + d) g D q u [.ref (q 17 0), .int x1, .int x2, .int x3, .int x4] (fun r => some (.int r)) po) (hrec_X0_run : ∀ (u : pa_S) (x1 : Int32) (x2 : Int32) (x3 : Int32) (po : Int32 → pa_S → Prop), rec_X0_run u x1 x2 x3 po → pa_Ct l yX0_run cX0_run 4 (some .int) (3 + d) g D q u [.ref (q 17 0), .int x1, .int x2, .int x3] (fun r => some (.int r)) po) (hw : wb_X0_run_0 rec_X0_own rec_X0_above rec_X0_run u0 x1 x2 x3 post) : pa_At p l e (pa_rm (3 + (d + 1))) s m args below meth c (MQ below (pa_Qc g D q (fun r => some (.int r)) post A) args s 0 0 A) A D g 4 0 0 q u0 0 [(0, .ref (q 17 0)), (1, .int x1), (2, .int x2), (3, .int x3)] [] := by
  refine pa_iload_n hE dX0_run_0 rfl 3 rfl ?_
  refine pa_bipush hE dX0_run_1 (v := 30) (by decide) ?_
  refine pa_icmp_le hE dX0_run_3 (tgt := 8) (by decide) (fun h1 => ?_) (fun h1 => ?_)
  · have hw := Eq.mp (if_pos h1) hw
    refine pa_aload_n hE dX0_run_8 rfl 0 rfl ?_
    refine pa_iload_n hE dX0_run_9 rfl 1 rfl ?_
    refine pa_callVv hE (ct_X0_begun l g D q u0 x1 _ hw) cv_RX0_49 pa_in17 rfl rfl rfl (pa_hR (by omega) (by decide)) rfl (Nat.le_of_ble_eq_true rfl) dX0_run_10 (fun u3 hw => ?_)
    refine pa_iload_n hE dX0_run_13 rfl 1 rfl ?_
    by_cases h4 : x1 = 10
    · have hw := Eq.mp (if_pos h4) hw
      refine pa_lsw hE dX0_run_14 (by decide) (by rw [h4]; first | done | decide) (tgt := 112) (by decide) ?_
      refine pa_iload_n hE dX0_run_112 rfl 2 rfl ?_
      refine pa_aload_n hE dX0_run_113 rfl 0 rfl ?_
      refine pg_17_2 hE (pa_m1 80 rfl rfl) dX0_run_114 ?_
      refine pa_iadd hE dX0_run_117 ?_
      exact pa_iret hE hr hw rfl dX0_run_118
    · have hw := Eq.mp (if_neg h4) hw
      by_cases h5 : x1 = 11
      · have hw := Eq.mp (if_pos h5) hw
        refine pa_lsw hE dX0_run_14 (by decide) (by rw [h5]; first | done | decide) (tgt := 119) (by decide) ?_
        refine pa_aload_n hE dX0_run_119 rfl 0 rfl ?_
        refine pa_iconst hE dX0_run_120 (v := 0) (by decide) ?_
        refine pa_iload_n hE dX0_run_121 rfl 2 rfl ?_
        refine pa_iload_n hE dX0_run_122 rfl 3 rfl ?_
        refine pa_callVi hE (hrec_X0_own u3 0 x2 x3 _ hw) cv_RX0_32 pa_in17 rfl rfl rfl (pa_hR (by omega) (by decide)) rfl (Nat.le_of_ble_eq_true rfl) dX0_run_123 (fun r15 u16 hw => ?_)
        refine pa_aload_n hE dX0_run_126 rfl 0 rfl ?_
        refine pg_17_4 hE (pa_m1 82 rfl rfl) dX0_run_127 ?_
        refine pa_isub hE dX0_run_130 ?_
        exact pa_iret hE hr hw rfl dX0_run_131
      · have hw := Eq.mp (if_neg h5) hw
        by_cases h6 : x1 = 12
        · have hw := Eq.mp (if_pos h6) hw
          refine pa_lsw hE dX0_run_14 (by decide) (by rw [h6]; first | done | decide) (tgt := 132) (by decide) ?_
          refine pa_aload_n hE dX0_run_132 rfl 0 rfl ?_
          refine pa_iconst hE dX0_run_133 (v := 1) (by decide) ?_
          refine pa_iload_n hE dX0_run_134 rfl 2 rfl ?_
          refine pa_iload_n hE dX0_run_135 rfl 3 rfl ?_
          refine pa_callVi hE (hrec_X0_own u3 1 x2 x3 _ hw) cv_RX0_32 pa_in17 rfl rfl rfl (pa_hR (by omega) (by decide)) rfl (Nat.le_of_ble_eq_true rfl) dX0_run_136 (fun r17 u18 hw => ?_)
          refine pa_iconst hE dX0_run_139 (v := 2) (by decide) ?_
          refine pa_imul hE dX0_run_140 ?_
          exact pa_iret hE hr hw rfl dX0_run_141
        · have hw := Eq.mp (if_neg h6) hw
          by_cases h7 : x1 = 20
          · have hw := Eq.mp (if_pos h7) hw
            refine pa_lsw hE dX0_run_14 (by decide) (by rw [h7]; first | done | decide) (tgt := 142) (by decide) ?_
            refine pa_aload_n hE dX0_run_142 rfl 0 rfl ?_
            refine pa_iload_n hE dX0_run_143 rfl 1 rfl ?_
            refine pa_iconst hE dX0_run_144 (v := 1) (by decide) ?_
            refine pa_iload_n hE dX0_run_145 rfl 2 rfl ?_
            refine pa_iload_n hE dX0_run_146 rfl 3 rfl ?_
            refine pa_callVi hE (hrec_X0_above u3 x1 1 x2 x3 _ hw) cv_RX0_53 pa_in17 rfl rfl rfl (pa_hR (by omega) (by decide)) rfl (Nat.le_of_ble_eq_true rfl) dX0_run_147 (fun r19 u20 hw => ?_)
            refine pa_bipush hE dX0_run_150 (v := 6) (by decide) ?_
            refine pa_ixor hE dX0_run_152 ?_
            exact pa_iret hE hr hw rfl dX0_run_153
          · have hw := Eq.mp (if_neg h7) hw
            by_cases h8 : x1 = 30
            · have hw := Eq.mp (if_pos h8) hw
              refine pa_lsw hE dX0_run_14 (by decide) (by rw [h8]; first | done | decide) (tgt := 154) (by decide) ?_
              refine pa_aload_n hE dX0_run_154 rfl 0 rfl ?_
              refine pa_iload_n hE dX0_run_155 rfl 1 rfl ?_
              refine pa_iconst hE dX0_run_156 (v := 0) (by decide) ?_
              refine pa_iload_n hE dX0_run_157 rfl 2 rfl ?_
              refine pa_iconst hE dX0_run_158 (v := 3) (by decide) ?_
              refine pa_imul hE dX0_run_159 ?_
              refine pa_iload_n hE dX0_run_160 rfl 3 rfl ?_
              refine pa_callVi hE (hrec_X0_above u3 x1 0 (x2 * 3) x3 _ hw) cv_RX0_53 pa_in17 rfl rfl rfl (pa_hR (by omega) (by decide)) rfl (Nat.le_of_ble_eq_true rfl) dX0_run_161 (fun r21 u22 hw => ?_)
              exact pa_iret hE hr hw rfl dX0_run_164
            · have hw := Eq.mp (if_neg h8) hw
              by_cases h9 : x1 = 40
              · have hw := Eq.mp (if_pos h9) hw
                refine pa_lsw hE dX0_run_14 (by decide) (by rw [h9]; first | done | decide) (tgt := 165) (by decide) ?_
                refine pa_aload_n hE dX0_run_165 rfl 0 rfl ?_
                refine pa_iload_n hE dX0_run_166 rfl 1 rfl ?_
                refine pa_iconst hE dX0_run_167 (v := 2) (by decide) ?_
                refine pa_iload_n hE dX0_run_168 rfl 2 rfl ?_
                refine pa_iload_n hE dX0_run_169 rfl 3 rfl ?_
                refine pa_callVi hE (hrec_X0_above u3 x1 2 x2 x3 _ hw) cv_RX0_53 pa_in17 rfl rfl rfl (pa_hR (by omega) (by decide)) rfl (Nat.le_of_ble_eq_true rfl) dX0_run_170 (fun r23 u24 hw => ?_)
                refine pa_aload_n hE dX0_run_173 rfl 0 rfl ?_
                refine pa_iconst hE dX0_run_174 (v := 1) (by decide) ?_
                refine pa_iconst hE dX0_run_175 (v := 1) (by decide) ?_
                refine pa_iload_n hE dX0_run_176 rfl 3 rfl ?_
                refine pa_callVi hE (hrec_X0_own u24 1 1 x3 _ hw) cv_RX0_32 pa_in17 rfl rfl rfl (pa_hR (by omega) (by decide)) rfl (Nat.le_of_ble_eq_true rfl) dX0_run_177 (fun r25 u26 hw => ?_)
                refine pa_iadd hE dX0_run_180 ?_
                exact pa_iret hE hr hw rfl dX0_run_181
              · have hw := Eq.mp (if_neg h9) hw
                by_cases h10 : x1 = 50
                · have hw := Eq.mp (if_pos h10) hw
                  refine pa_lsw hE dX0_run_14 (by decide) (by rw [h10]; first | done | decide) (tgt := 182) (by decide) ?_
                  refine pa_aload_n hE dX0_run_182 rfl 0 rfl ?_
                  refine pa_iload_n hE dX0_run_183 rfl 1 rfl ?_
                  refine pa_iconst hE dX0_run_184 (v := 0) (by decide) ?_
                  refine pa_iload_n hE dX0_run_185 rfl 2 rfl ?_
                  refine pa_iload_n hE dX0_run_186 rfl 3 rfl ?_
                  refine pa_callVi hE (hrec_X0_above u3 x1 0 x2 x3 _ hw) cv_RX0_53 pa_in17 rfl rfl rfl (pa_hR (by omega) (by decide)) rfl (Nat.le_of_ble_eq_true rfl) dX0_run_187 (fun r27 u28 hw => ?_)
                  refine pa_ineg hE dX0_run_190 ?_
                  exact pa_iret hE hr hw rfl dX0_run_191
                · have hw := Eq.mp (if_neg h10) hw
                  by_cases h11 : x1 = 51
                  · have hw := Eq.mp (if_pos h11) hw
                    refine pa_lsw hE dX0_run_14 (by decide) (by rw [h11]; first | done | decide) (tgt := 192) (by decide) ?_
                    refine pa_aload_n hE dX0_run_192 rfl 0 rfl ?_
                    refine pa_iload_n hE dX0_run_193 rfl 1 rfl ?_
                    refine pa_iconst hE dX0_run_194 (v := 1) (by decide) ?_
                    refine pa_iload_n hE dX0_run_195 rfl 2 rfl ?_
                    refine pa_iconst hE dX0_run_196 (v := 1) (by decide) ?_
                    refine pa_iadd hE dX0_run_197 ?_
                    refine pa_iload_n hE dX0_run_198 rfl 3 rfl ?_
                    refine pa_callVi hE (hrec_X0_above u3 x1 1 (x2 + 1) x3 _ hw) cv_RX0_53 pa_in17 rfl rfl rfl (pa_hR (by omega) (by decide)) rfl (Nat.le_of_ble_eq_true rfl) dX0_run_199 (fun r29 u30 hw => ?_)
                    exact pa_iret hE hr hw rfl dX0_run_202
                  · have hw := Eq.mp (if_neg h11) hw
                    by_cases h12 : x1 = 60
                    · have hw := Eq.mp (if_pos h12) hw
                      refine pa_lsw hE dX0_run_14 (by decide) (by rw [h12]; first | done | decide) (tgt := 203) (by decide) ?_
                      refine pa_aload_n hE dX0_run_203 rfl 0 rfl ?_
                      refine pa_iload_n hE dX0_run_204 rfl 1 rfl ?_
                      refine pa_iconst hE dX0_run_205 (v := 2) (by decide) ?_
                      refine pa_iload_n hE dX0_run_206 rfl 2 rfl ?_
                      refine pa_aload_n hE dX0_run_207 rfl 0 rfl ?_
                      refine pg_17_2 hE (pa_m1 80 rfl rfl) dX0_run_208 ?_
                      refine pa_isub hE dX0_run_211 ?_
                      refine pa_iload_n hE dX0_run_212 rfl 3 rfl ?_
                      refine pa_callVi hE (hrec_X0_above u3 x1 2 (x2 - (pa_I u3 17 0 2)) x3 _ hw) cv_RX0_53 pa_in17 rfl rfl rfl (pa_hR (by omega) (by decide)) rfl (Nat.le_of_ble_eq_true rfl) dX0_run_213 (fun r31 u32 hw => ?_)
                      exact pa_iret hE hr hw rfl dX0_run_216
                    · have hw := Eq.mp (if_neg h12) hw
                      by_cases h13 : x1 = 70
                      · have hw := Eq.mp (if_pos h13) hw
                        refine pa_lsw hE dX0_run_14 (by decide) (by rw [h13]; first | done | decide) (tgt := 217) (by decide) ?_
                        refine pa_aload_n hE dX0_run_217 rfl 0 rfl ?_
                        refine pa_iload_n hE dX0_run_218 rfl 1 rfl ?_
                        refine pa_iconst hE dX0_run_219 (v := 1) (by decide) ?_
                        refine pa_iload_n hE dX0_run_220 rfl 2 rfl ?_
                        refine pa_iload_n hE dX0_run_221 rfl 3 rfl ?_
                        refine pa_callVi hE (hrec_X0_above u3 x1 1 x2 x3 _ hw) cv_RX0_53 pa_in17 rfl rfl rfl (pa_hR (by omega) (by decide)) rfl (Nat.le_of_ble_eq_true rfl) dX0_run_222 (fun r33 u34 hw => ?_)
                        refine pa_aload_n hE dX0_run_225 rfl 0 rfl ?_
                        refine pa_iload_n hE dX0_run_226 rfl 1 rfl ?_
                        refine pa_iconst hE dX0_run_227 (v := 0) (by decide) ?_
                        refine pa_iconst hE dX0_run_228 (v := 2) (by decide) ?_
                        refine pa_iload_n hE dX0_run_229 rfl 3 rfl ?_
                        refine pa_callVi hE (hrec_X0_above u34 x1 0 2 x3 _ hw) cv_RX0_53 pa_in17 rfl rfl rfl (pa_hR (by omega) (by decide)) rfl (Nat.le_of_ble_eq_true rfl) dX0_run_230 (fun r35 u36 hw => ?_)
                        refine pa_iadd hE dX0_run_233 ?_
                        exact pa_iret hE hr hw rfl dX0_run_234
                      · have hw := Eq.mp (if_neg h13) hw
                        by_cases h14 : x1 = 71
                        · have hw := Eq.mp (if_pos h14) hw
                          refine pa_lsw hE dX0_run_14 (by decide) (by rw [h14]; first | done | decide) (tgt := 235) (by decide) ?_
                          refine pa_aload_n hE dX0_run_235 rfl 0 rfl ?_
                          refine pa_iload_n hE dX0_run_236 rfl 1 rfl ?_
                          refine pa_iconst hE dX0_run_237 (v := 0) (by decide) ?_
                          refine pa_iload_n hE dX0_run_238 rfl 2 rfl ?_
                          refine pa_iload_n hE dX0_run_239 rfl 3 rfl ?_
                          refine pa_callVi hE (hrec_X0_above u3 x1 0 x2 x3 _ hw) cv_RX0_53 pa_in17 rfl rfl rfl (pa_hR (by omega) (by decide)) rfl (Nat.le_of_ble_eq_true rfl) dX0_run_240 (fun r37 u38 hw => ?_)
                          refine pa_aload_n hE dX0_run_243 rfl 0 rfl ?_
                          refine pg_17_4 hE (pa_m1 82 rfl rfl) dX0_run_244 ?_
                          refine pa_ixor hE dX0_run_247 ?_
                          exact pa_iret hE hr hw rfl dX0_run_248
                        · have hw := Eq.mp (if_neg h14) hw
                          refine pa_lsw hE dX0_run_14 (by decide) (by rw [Op.lookupswitch.offset_cons, if_neg (fun z => h4 (pa_toI (c := 10) (by decide) z)), Op.lookupswitch.offset_cons, if_neg (fun z => h5 (pa_toI (c := 11) (by decide) z)), Op.lookupswitch.offset_cons, if_neg (fun z => h6 (pa_toI (c := 12) (by decide) z)), Op.lookupswitch.offset_cons, if_neg (fun z => h7 (pa_toI (c := 20) (by decide) z)), Op.lookupswitch.offset_cons, if_neg (fun z => h8 (pa_toI (c := 30) (by decide) z)), Op.lookupswitch.offset_cons, if_neg (fun z => h9 (pa_toI (c := 40) (by decide) z)), Op.lookupswitch.offset_cons, if_neg (fun z => h10 (pa_toI (c := 50) (by decide) z)), Op.lookupswitch.offset_cons, if_neg (fun z => h11 (pa_toI (c := 51) (by decide) z)), Op.lookupswitch.offset_cons, if_neg (fun z => h12 (pa_toI (c := 60) (by decide) z)), Op.lookupswitch.offset_cons, if_neg (fun z => h13 (pa_toI (c := 70) (by decide) z)), Op.lookupswitch.offset_cons, if_neg (fun z => h14 (pa_toI (c := 71) (by decide) z)), Op.lookupswitch.offset_nil]) (tgt := 249) (by decide) ?_
                          refine pa_iconst hE dX0_run_249 (v := 0) (by decide) ?_
                          exact pa_iret hE hr hw rfl dX0_run_250
  · have hw := Eq.mp (if_neg h1) hw
    refine pa_iconst hE dX0_run_6 (v := 0) (by decide) ?_
    exact pa_iret hE hr hw rfl dX0_run_7
def wg_1 : Nat → Nat → pa_S → Int32 → Int32 → Int32 → Int32 → (Int32 → pa_S → Prop) → Prop
  | 0, _, _, _, _, _, _, _ => False
  | d + 1, k, u, a0, a1, a2, a3, po => if k = 0 then wb_X0_own_0 (fun u x1 x2 x3 po => wg_1 d 0 u x1 x2 x3 0 po) (fun u x1 x2 x3 x4 po => wg_1 d 1 u x1 x2 x3 x4 po) (fun u x1 x2 x3 po => wg_1 d 2 u x1 x2 x3 0 po) u a0 a1 a2 po else if k = 1 then wb_X0_above_0 (fun u x1 x2 x3 po => wg_1 d 0 u x1 x2 x3 0 po) (fun u x1 x2 x3 x4 po => wg_1 d 1 u x1 x2 x3 x4 po) (fun u x1 x2 x3 po => wg_1 d 2 u x1 x2 x3 0 po) u a0 a1 a2 a3 po else wb_X0_run_0 (fun u x1 x2 x3 po => wg_1 d 0 u x1 x2 x3 0 po) (fun u x1 x2 x3 x4 po => wg_1 d 1 u x1 x2 x3 x4 po) (fun u x1 x2 x3 po => wg_1 d 2 u x1 x2 x3 0 po) u a0 a1 a2 po
theorem wge_1_0 {d : Nat} {u : pa_S} {x1 : Int32} {x2 : Int32} {x3 : Int32} {po : Int32 → pa_S → Prop} : wg_1 (d + 1) 0 u x1 x2 x3 0 po = wb_X0_own_0 (fun u x1 x2 x3 po => wg_1 d 0 u x1 x2 x3 0 po) (fun u x1 x2 x3 x4 po => wg_1 d 1 u x1 x2 x3 x4 po) (fun u x1 x2 x3 po => wg_1 d 2 u x1 x2 x3 0 po) u x1 x2 x3 po := by
  rw [wg_1]
  exact if_pos rfl
theorem wge_1_1 {d : Nat} {u : pa_S} {x1 : Int32} {x2 : Int32} {x3 : Int32} {x4 : Int32} {po : Int32 → pa_S → Prop} : wg_1 (d + 1) 1 u x1 x2 x3 x4 po = wb_X0_above_0 (fun u x1 x2 x3 po => wg_1 d 0 u x1 x2 x3 0 po) (fun u x1 x2 x3 x4 po => wg_1 d 1 u x1 x2 x3 x4 po) (fun u x1 x2 x3 po => wg_1 d 2 u x1 x2 x3 0 po) u x1 x2 x3 x4 po := by
  rw [wg_1]
  exact (if_neg (by decide)).trans (if_pos rfl)
theorem wge_1_2 {d : Nat} {u : pa_S} {x1 : Int32} {x2 : Int32} {x3 : Int32} {po : Int32 → pa_S → Prop} : wg_1 (d + 1) 2 u x1 x2 x3 0 po = wb_X0_run_0 (fun u x1 x2 x3 po => wg_1 d 0 u x1 x2 x3 0 po) (fun u x1 x2 x3 x4 po => wg_1 d 1 u x1 x2 x3 x4 po) (fun u x1 x2 x3 po => wg_1 d 2 u x1 x2 x3 0 po) u x1 x2 x3 po := by
  rw [wg_1]
  exact (if_neg (by decide)).trans ((if_neg (by decide)).trans (rfl))
set_option maxRecDepth 100000 in
set_option maxHeartbeats 4000000 in
theorem cg_1 (l : Launch) (g : pa_G) (D : va_G) (q : Nat → Nat → Nat) : ∀ d : Nat, (∀ (u : pa_S) (x1 : Int32) (x2 : Int32) (x3 : Int32) (po : Int32 → pa_S → Prop), wg_1 d 0 u x1 x2 x3 0 po → pa_Ct l yX0_own cX0_own 4 (some .int) (3 + d) g D q u [.ref (q 17 0), .int x1, .int x2, .int x3] (fun r => some (.int r)) po) ∧ (∀ (u : pa_S) (x1 : Int32) (x2 : Int32) (x3 : Int32) (x4 : Int32) (po : Int32 → pa_S → Prop), wg_1 d 1 u x1 x2 x3 x4 po → pa_Ct l yX0_above cX0_above 6 (some .int) (3 + d) g D q u [.ref (q 17 0), .int x1, .int x2, .int x3, .int x4] (fun r => some (.int r)) po) ∧ (∀ (u : pa_S) (x1 : Int32) (x2 : Int32) (x3 : Int32) (po : Int32 → pa_S → Prop), wg_1 d 2 u x1 x2 x3 0 po → pa_Ct l yX0_run cX0_run 4 (some .int) (3 + d) g D q u [.ref (q 17 0), .int x1, .int x2, .int x3] (fun r => some (.int r)) po) := by
  intro d
  induction d with
  | zero => exact ⟨fun _ _ _ _ _ hw => absurd hw (by simp only [wg_1]; exact fun z => z), fun _ _ _ _ _ _ hw => absurd hw (by simp only [wg_1]; exact fun z => z), fun _ _ _ _ _ hw => absurd hw (by simp only [wg_1]; exact fun z => z)⟩
  | succ d ih =>
    obtain ⟨h0, h1, h2⟩ := ih
    refine ⟨?_, ?_, ?_⟩
    · intro u x1 x2 x3 po hw
      exact pa_met rfl rfl (Nat.le_of_ble_eq_true rfl) rfl (fun p e s m args below meth c A hE hr => tb_X0_own_0 (d := d) hE hr h0 h1 h2 (Eq.mp wge_1_0 hw))
    · intro u x1 x2 x3 x4 po hw
      exact pa_met rfl rfl (Nat.le_of_ble_eq_true rfl) rfl (fun p e s m args below meth c A hE hr => tb_X0_above_0 (d := d) hE hr h0 h1 h2 (Eq.mp wge_1_1 hw))
    · intro u x1 x2 x3 po hw
      exact pa_met rfl rfl (Nat.le_of_ble_eq_true rfl) rfl (fun p e s m args below meth c A hE hr => tb_X0_run_0 (d := d) hE hr h0 h1 h2 (Eq.mp wge_1_2 hw))

def wp_X0_own (u0 : pa_S) (x1 : Int32) (x2 : Int32) (x3 : Int32) (post : Int32 → pa_S → Prop) : Prop := wg_1 40 0 u0 x1 x2 x3 0 post
theorem ct_X0_own (l : Launch) (g : pa_G) (D : va_G) (q : Nat → Nat → Nat) (u0 : pa_S) (x1 : Int32) (x2 : Int32) (x3 : Int32) (post : Int32 → pa_S → Prop) (hw : wp_X0_own u0 x1 x2 x3 post) : pa_Ct l yX0_own cX0_own 4 (some .int) 43 g D q u0 [.ref (q 17 0), .int x1, .int x2, .int x3] (fun r => some (.int r)) post := (cg_1 l g D q 40).1 u0 x1 x2 x3 post hw
def wp_X0_above (u0 : pa_S) (x1 : Int32) (x2 : Int32) (x3 : Int32) (x4 : Int32) (post : Int32 → pa_S → Prop) : Prop := wg_1 40 1 u0 x1 x2 x3 x4 post
theorem ct_X0_above (l : Launch) (g : pa_G) (D : va_G) (q : Nat → Nat → Nat) (u0 : pa_S) (x1 : Int32) (x2 : Int32) (x3 : Int32) (x4 : Int32) (post : Int32 → pa_S → Prop) (hw : wp_X0_above u0 x1 x2 x3 x4 post) : pa_Ct l yX0_above cX0_above 6 (some .int) 43 g D q u0 [.ref (q 17 0), .int x1, .int x2, .int x3, .int x4] (fun r => some (.int r)) post := (cg_1 l g D q 40).2.1 u0 x1 x2 x3 x4 post hw
def wp_X0_run (u0 : pa_S) (x1 : Int32) (x2 : Int32) (x3 : Int32) (post : Int32 → pa_S → Prop) : Prop := wg_1 40 2 u0 x1 x2 x3 0 post
theorem ct_X0_run (l : Launch) (g : pa_G) (D : va_G) (q : Nat → Nat → Nat) (u0 : pa_S) (x1 : Int32) (x2 : Int32) (x3 : Int32) (post : Int32 → pa_S → Prop) (hw : wp_X0_run u0 x1 x2 x3 post) : pa_Ct l yX0_run cX0_run 4 (some .int) 43 g D q u0 [.ref (q 17 0), .int x1, .int x2, .int x3] (fun r => some (.int r)) post := (cg_1 l g D q 40).2.2 u0 x1 x2 x3 post hw
def wb_X0_begin_0 (u0 : pa_S) (x1 : Int32) (x2 : Int32) (x3 : Int32) (x4 : Int32) (x5 : Int32) (post : Int32 → pa_S → Prop) : Prop :=
  ∀ u1 : pa_S, u1 = pa_sI u0 17 0 2 x1 → ∀ u2 : pa_S, u2 = pa_sI u1 17 0 3 x2 → ∀ u3 : pa_S, u3 = pa_sI u2 17 0 4 x3 → (wp_X0_own u3 x4 x5 0 (fun (r4 : Int32) (u5 : pa_S) => post r4 u5))
set_option maxRecDepth 100000 in
set_option maxHeartbeats 4000000 in
theorem tb_X0_begin_0 {p : Program} {l : Launch} {e : Env} {s : State} {m : MethodId} {args : Array Value} {below : List Frame} {meth : Method} {c : Code} {A : Nat → Prop} {D : va_G} {g : pa_G} {q : Nat → Nat → Nat} {u0 : pa_S} {x1 : Int32} {x2 : Int32} {x3 : Int32} {x4 : Int32} {x5 : Int32} {post : Int32 → pa_S → Prop} (hE : pa_Fx p s m args meth c A D g 6 cX0_begin RX0) (hr : meth.sig.returnType = (some .int)) (hw : wb_X0_begin_0 u0 x1 x2 x3 x4 x5 post) : pa_At p l e (pa_rm 44) s m args below meth c (MQ below (pa_Qc g D q (fun r => some (.int r)) post A) args s 0 0 A) A D g 6 0 0 q u0 0 [(0, .ref (q 17 0)), (1, .int x1), (2, .int x2), (3, .int x3), (4, .int x4), (5, .int x5)] [] := by
  refine pa_aload_n hE dX0_begin_0 rfl 0 rfl ?_
  refine pa_iload_n hE dX0_begin_1 rfl 1 rfl ?_
  refine pp_17_2 hE (pa_m1 80 rfl rfl) dX0_begin_2 (fun u1 eu1 => ?_)
  have hw := hw u1 eu1
  refine pa_aload_n hE dX0_begin_5 rfl 0 rfl ?_
  refine pa_iload_n hE dX0_begin_6 rfl 2 rfl ?_
  refine pp_17_3 hE (pa_m1 81 rfl rfl) dX0_begin_7 (fun u2 eu2 => ?_)
  have hw := hw u2 eu2
  refine pa_aload_n hE dX0_begin_10 rfl 0 rfl ?_
  refine pa_iload_n hE dX0_begin_11 rfl 3 rfl ?_
  refine pp_17_4 hE (pa_m1 82 rfl rfl) dX0_begin_12 (fun u3 eu3 => ?_)
  have hw := hw u3 eu3
  refine pa_aload_n hE dX0_begin_15 rfl 0 rfl ?_
  refine pa_iload hE dX0_begin_16 4 rfl ?_
  refine pa_iload hE dX0_begin_18 5 rfl ?_
  refine pa_iconst hE dX0_begin_20 (v := 0) (by decide) ?_
  refine pa_callVi hE (ct_X0_own l g D q u3 x4 x5 0 _ hw) cv_RX0_32 pa_in17 rfl rfl rfl (pa_hR (by omega) (by decide)) rfl (Nat.le_of_ble_eq_true rfl) dX0_begin_21 (fun r4 u5 hw => ?_)
  exact pa_iret hE hr hw rfl dX0_begin_24
def wp_X0_begin (u0 : pa_S) (x1 : Int32) (x2 : Int32) (x3 : Int32) (x4 : Int32) (x5 : Int32) (post : Int32 → pa_S → Prop) : Prop := wb_X0_begin_0 u0 x1 x2 x3 x4 x5 post
theorem ct_X0_begin (l : Launch) (g : pa_G) (D : va_G) (q : Nat → Nat → Nat) (u0 : pa_S) (x1 : Int32) (x2 : Int32) (x3 : Int32) (x4 : Int32) (x5 : Int32) (post : Int32 → pa_S → Prop)  (hw : wp_X0_begin u0 x1 x2 x3 x4 x5 post) : pa_Ct l yX0_begin cX0_begin 6 (some .int) 44 g D q u0 [.ref (q 17 0), .int x1, .int x2, .int x3, .int x4, .int x5] (fun r => some (.int r)) post := pa_met rfl rfl (Nat.le_of_ble_eq_true rfl) rfl (fun p e s m args below meth c A hE hr => tb_X0_begin_0 hE hr  hw)
def wb_X1_holds_0 (u0 : pa_S) (i0 : Nat) (x0 : Int32) (x1 : Int32) (post : Int32 → Prop) : Prop :=
  ∀ v1 : Int32, v1 = (x0 / 3) → (if v1 < 0 then post 0 else (if v1 < 6 then (if (pa_rem x0 3) = 0 then (vp_in v1 6) ∧ (if x1 ≤ (pa_A u0 7 i0 v1.toNatClampNeg) then post 0 else post 1) else (if (pa_rem x0 3) = 1 then (vp_in v1 6) ∧ (if (pa_A u0 7 i0 v1.toNatClampNeg) = x1 then post 1 else post 0) else (vp_in v1 6) ∧ (if (pa_A u0 7 i0 v1.toNatClampNeg) ≤ x1 then post 0 else post 1))) else post 0))
set_option maxRecDepth 100000 in
set_option maxHeartbeats 4000000 in
theorem tb_X1_holds_0 {p : Program} {l : Launch} {e : Env} {s : State} {m : MethodId} {args : Array Value} {below : List Frame} {meth : Method} {c : Code} {A : Nat → Prop} {D : va_G} {g : pa_G} {q : Nat → Nat → Nat} {u0 : pa_S} {i0 : Nat} {x0 : Int32} {x1 : Int32} {post : Int32 → Prop} (hE : pa_Fx p s m args meth c A D g 4 cX1_holds RX1) (hr : meth.sig.returnType = (some .boolean)) (hi0 : i0 < 6) (hw : wb_X1_holds_0 u0 i0 x0 x1 post) : pa_At p l e (pa_rm 2) s m args below meth c (MQ below (pa_Qc g D q (fun r => some (.int r)) (fun r u => u = u0 ∧ post r) A) args s 0 0 A) A D g 4 0 0 q u0 0 [(0, .int x0), (1, .int x1), (2, .ref (q 7 i0))] [] := by
  refine pa_iload_n hE dX1_holds_0 rfl 0 rfl ?_
  refine pa_iconst hE dX1_holds_1 (v := 3) (by decide) ?_
  refine pa_idiv hE dX1_holds_2 (by decide) ?_
  refine pa_namei (fun v1 ev1 => ?_)
  have hw := hw v1 ev1
  refine pa_istore_n hE dX1_holds_3 rfl (by decide) (lvr := [(0, .int x0), (1, .int x1), (2, .ref (q 7 i0))]) rfl ?_
  refine pa_iload_n hE dX1_holds_4 rfl 0 rfl ?_
  refine pa_if_lt hE dX1_holds_5 (tgt := 14) (by decide) (fun h2 => ?_) (fun h2 => ?_)
  · have hw := Eq.mp (if_pos h2) hw
    refine pa_iconst hE dX1_holds_14 (v := 0) (by decide) ?_
    exact pa_zret hE hr (by decide) ⟨rfl, hw⟩ rfl dX1_holds_15
  · have hw := Eq.mp (if_neg h2) hw
    refine pa_iload_n hE dX1_holds_8 rfl 0 rfl ?_
    refine pa_aload_n hE dX1_holds_9 rfl 3 rfl ?_
    refine pn_7 (pa_in7 hi0) hE (v := 6) (by decide) dX1_holds_10 ?_
    refine pa_icmp_lt hE dX1_holds_11 (tgt := 16) (by decide) (fun h3 => ?_) (fun h3 => ?_)
    · have hw := Eq.mp (if_pos h3) hw
      refine pa_iload_n hE dX1_holds_16 rfl 1 rfl ?_
      refine pa_iconst hE dX1_holds_17 (v := 3) (by decide) ?_
      refine pa_irem hE dX1_holds_18 (by decide) ?_
      by_cases h4 : (pa_rem x0 3) = 0
      · have hw := Eq.mp (if_pos h4) hw
        refine pa_lsw hE dX1_holds_19 (by decide) (by rw [h4]; first | done | decide) (tgt := 44) (by decide) ?_
        refine pa_aload_n hE dX1_holds_44 rfl 3 rfl ?_
        refine pa_iload_n hE dX1_holds_45 rfl 0 rfl ?_
        obtain ⟨h6, hw⟩ := hw
        refine pl_7 (pa_in7 hi0) hE h6 dX1_holds_46 ?_
        refine pa_iload_n hE dX1_holds_47 rfl 2 rfl ?_
        refine pa_icmp_ge hE dX1_holds_48 (tgt := 55) (by decide) (fun h7 => ?_) (fun h7 => ?_)
        · have hw := Eq.mp (if_pos h7) hw
          refine pa_iconst hE dX1_holds_55 (v := 0) (by decide) ?_
          exact pa_zret hE hr (by decide) ⟨rfl, hw⟩ rfl dX1_holds_56
        · have hw := Eq.mp (if_neg h7) hw
          refine pa_iconst hE dX1_holds_51 (v := 1) (by decide) ?_
          refine pa_goto hE dX1_holds_52 (tgt := 56) (by decide) ?_
          exact pa_zret hE hr (by decide) ⟨rfl, hw⟩ rfl dX1_holds_56
      · have hw := Eq.mp (if_neg h4) hw
        by_cases h5 : (pa_rem x0 3) = 1
        · have hw := Eq.mp (if_pos h5) hw
          refine pa_lsw hE dX1_holds_19 (by decide) (by rw [h5]; first | done | decide) (tgt := 57) (by decide) ?_
          refine pa_aload_n hE dX1_holds_57 rfl 3 rfl ?_
          refine pa_iload_n hE dX1_holds_58 rfl 0 rfl ?_
          obtain ⟨h8, hw⟩ := hw
          refine pl_7 (pa_in7 hi0) hE h8 dX1_holds_59 ?_
          refine pa_iload_n hE dX1_holds_60 rfl 2 rfl ?_
          refine pa_icmp_ne hE dX1_holds_61 (tgt := 68) (by decide) (fun h9 => ?_) (fun h9 => ?_)
          · have hw := Eq.mp (if_neg h9) hw
            refine pa_iconst hE dX1_holds_68 (v := 0) (by decide) ?_
            exact pa_zret hE hr (by decide) ⟨rfl, hw⟩ rfl dX1_holds_69
          · have hw := Eq.mp (if_pos h9) hw
            refine pa_iconst hE dX1_holds_64 (v := 1) (by decide) ?_
            refine pa_goto hE dX1_holds_65 (tgt := 69) (by decide) ?_
            exact pa_zret hE hr (by decide) ⟨rfl, hw⟩ rfl dX1_holds_69
        · have hw := Eq.mp (if_neg h5) hw
          refine pa_lsw hE dX1_holds_19 (by decide) (by rw [Op.lookupswitch.offset_cons, if_neg (fun z => h4 (pa_toI (c := 0) (by decide) z)), Op.lookupswitch.offset_cons, if_neg (fun z => h5 (pa_toI (c := 1) (by decide) z)), Op.lookupswitch.offset_nil]) (tgt := 70) (by decide) ?_
          refine pa_aload_n hE dX1_holds_70 rfl 3 rfl ?_
          refine pa_iload_n hE dX1_holds_71 rfl 0 rfl ?_
          obtain ⟨h10, hw⟩ := hw
          refine pl_7 (pa_in7 hi0) hE h10 dX1_holds_72 ?_
          refine pa_iload_n hE dX1_holds_73 rfl 2 rfl ?_
          refine pa_icmp_le hE dX1_holds_74 (tgt := 81) (by decide) (fun h11 => ?_) (fun h11 => ?_)
          · have hw := Eq.mp (if_pos h11) hw
            refine pa_iconst hE dX1_holds_81 (v := 0) (by decide) ?_
            exact pa_zret hE hr (by decide) ⟨rfl, hw⟩ rfl dX1_holds_82
          · have hw := Eq.mp (if_neg h11) hw
            refine pa_iconst hE dX1_holds_77 (v := 1) (by decide) ?_
            refine pa_goto hE dX1_holds_78 (tgt := 82) (by decide) ?_
            exact pa_zret hE hr (by decide) ⟨rfl, hw⟩ rfl dX1_holds_82
    · have hw := Eq.mp (if_neg h3) hw
      refine pa_iconst hE dX1_holds_14 (v := 0) (by decide) ?_
      exact pa_zret hE hr (by decide) ⟨rfl, hw⟩ rfl dX1_holds_15
def wp_X1_holds (u0 : pa_S) (i0 : Nat) (x0 : Int32) (x1 : Int32) (post : Int32 → Prop) : Prop := wb_X1_holds_0 u0 i0 x0 x1 post
theorem ct_X1_holds (l : Launch) (g : pa_G) (D : va_G) (q : Nat → Nat → Nat) (u0 : pa_S) (i0 : Nat) (x0 : Int32) (x1 : Int32) (post : Int32 → Prop) (hi0 : i0 < 6) (hw : wp_X1_holds u0 i0 x0 x1 post) : pa_Ct l yX1_holds cX1_holds 4 (some .boolean) 2 g D q u0 [.int x0, .int x1, .ref (q 7 i0)] (fun r => some (.int r)) (fun r u => u = u0 ∧ post r) := pa_met rfl rfl (Nat.le_of_ble_eq_true rfl) rfl (fun p e s m args below meth c A hE hr => tb_X1_holds_0 hE hr hi0 hw)
def wb_X1_grace_167 (k7 : Int32 → Int32 → Int32 → Prop) (u0 : pa_S) (i0 : Nat) (i1 : Nat) (x2 : Int32) (x3 : Int32) (x4 : Int32) (post : Int32 → Prop) : Prop :=
  ∀ v10 : Int32, v10 = x4 + 1 → k7 x2 x3 v10
set_option maxRecDepth 100000 in
set_option maxHeartbeats 4000000 in
theorem tb_X1_grace_167 {p : Program} {l : Launch} {e : Env} {s : State} {m : MethodId} {args : Array Value} {below : List Frame} {meth : Method} {c : Code} {A : Nat → Prop} {D : va_G} {g : pa_G} {q : Nat → Nat → Nat} {k7 : Int32 → Int32 → Int32 → Prop} {u0 : pa_S} {i0 : Nat} {i1 : Nat} {x2 : Int32} {x3 : Int32} {x4 : Int32} {post : Int32 → Prop} (hE : pa_Fx p s m args meth c A D g 5 cX1_grace RX1) (hr : meth.sig.returnType = (some .int)) (hi0 : i0 < pa_N u0 70 0) (hi1 : i1 < 6) (hk7 : ∀ (x2 : Int32) (x3 : Int32) (x4 : Int32), k7 x2 x3 x4 → pa_At p l e (pa_rm 3) s m args below meth c (MQ below (pa_Qc g D q (fun r => some (.int r)) (fun r u => u = u0 ∧ post r) A) args s 0 0 A) A D g 5 0 0 q u0 7 [(0, .ref (q 14 i0)), (1, .ref (q 7 i1)), (2, .int x2), (3, .int x3), (4, .int x4)] []) (hw : wb_X1_grace_167 k7 u0 i0 i1 x2 x3 x4 post) : pa_At p l e (pa_rm 3) s m args below meth c (MQ below (pa_Qc g D q (fun r => some (.int r)) (fun r u => u = u0 ∧ post r) A) args s 0 0 A) A D g 5 0 0 q u0 167 [(0, .ref (q 14 i0)), (1, .ref (q 7 i1)), (2, .int x2), (3, .int x3), (4, .int x4)] [] := by
  refine pa_iinc hE dX1_grace_167 (v := 1) 4 rfl (by decide) (by decide) (lvr := [(0, .ref (q 14 i0)), (1, .ref (q 7 i1)), (2, .int x2), (3, .int x3)]) rfl (fun v10 ev10 => ?_)
  have hw := hw v10 ev10
  refine pa_goto hE dX1_grace_170 (tgt := 7) (by decide) ?_
  exact pa_sub [1, 2, 3, 4, 0] rfl (hk7 x2 x3 v10 hw)
def wb_X1_grace_165 (k7 : Int32 → Int32 → Int32 → Prop) (u0 : pa_S) (i0 : Nat) (i1 : Nat) (x2 : Int32) (x4 : Int32) (y0 : Int32) (y1 : Int32) (post : Int32 → Prop) : Prop :=
  ∀ v21 : Int32, v21 = (y0 ||| y1) → wb_X1_grace_167 k7 u0 i0 i1 x2 v21 x4 post
set_option maxRecDepth 100000 in
set_option maxHeartbeats 4000000 in
theorem tb_X1_grace_165 {p : Program} {l : Launch} {e : Env} {s : State} {m : MethodId} {args : Array Value} {below : List Frame} {meth : Method} {c : Code} {A : Nat → Prop} {D : va_G} {g : pa_G} {q : Nat → Nat → Nat} {k7 : Int32 → Int32 → Int32 → Prop} {u0 : pa_S} {i0 : Nat} {i1 : Nat} {x2 : Int32} {x4 : Int32} {y0 : Int32} {y1 : Int32} {post : Int32 → Prop} (hE : pa_Fx p s m args meth c A D g 5 cX1_grace RX1) (hr : meth.sig.returnType = (some .int)) (hi0 : i0 < pa_N u0 70 0) (hi1 : i1 < 6) (hk7 : ∀ (x2 : Int32) (x3 : Int32) (x4 : Int32), k7 x2 x3 x4 → pa_At p l e (pa_rm 3) s m args below meth c (MQ below (pa_Qc g D q (fun r => some (.int r)) (fun r u => u = u0 ∧ post r) A) args s 0 0 A) A D g 5 0 0 q u0 7 [(0, .ref (q 14 i0)), (1, .ref (q 7 i1)), (2, .int x2), (3, .int x3), (4, .int x4)] []) (hw : wb_X1_grace_165 k7 u0 i0 i1 x2 x4 y0 y1 post) : pa_At p l e (pa_rm 3) s m args below meth c (MQ below (pa_Qc g D q (fun r => some (.int r)) (fun r u => u = u0 ∧ post r) A) args s 0 0 A) A D g 5 0 0 q u0 165 [(0, .ref (q 14 i0)), (1, .ref (q 7 i1)), (2, .int x2), (4, .int x4)] [.int y1, .int y0] := by
  refine pa_ior hE dX1_grace_165 ?_
  refine pa_namei (fun v21 ev21 => ?_)
  have hw := hw v21 ev21
  refine pa_istore_n hE dX1_grace_166 rfl (by decide) (lvr := [(0, .ref (q 14 i0)), (1, .ref (q 7 i1)), (2, .int x2), (4, .int x4)]) rfl ?_
  exact pa_sub [1, 2, 3, 0, 4] rfl (tb_X1_grace_167 hE hr hi0 hi1 hk7 hw)
def wb_X1_grace_7 (k7 : Int32 → Int32 → Int32 → Prop) (u0 : pa_S) (i0 : Nat) (i1 : Nat) (x2 : Int32) (x3 : Int32) (x4 : Int32) (post : Int32 → Prop) : Prop :=
  (if (Int32.ofNat (pa_N u0 15 i0)) ≤ x4 then post x2 else (if (Int32.ofNat (pa_N u0 16 i0)) ≤ x4 then post x2 else (vp_in x4 (pa_N u0 15 i0)) ∧ (if (pa_A u0 15 i0 x4.toNatClampNeg) = 18 then ∀ v9 : Int32, v9 = (x3 ^^^ 1) → wb_X1_grace_167 k7 u0 i0 i1 x2 v9 x4 post else (if (pa_A u0 15 i0 x4.toNatClampNeg) = 19 then ∀ v11 : Int32, v11 = ((x3 >>> (1 &&& 31)) &&& (x3 ||| (-2 : Int32))) → wb_X1_grace_167 k7 u0 i0 i1 x2 v11 x4 post else (if (pa_A u0 15 i0 x4.toNatClampNeg) = 20 then ∀ v12 : Int32, v12 = ((x3 >>> (1 &&& 31)) ||| (x3 &&& 1)) → wb_X1_grace_167 k7 u0 i0 i1 x2 v12 x4 post else (if (pa_A u0 15 i0 x4.toNatClampNeg) = 21 then (vp_in x4 (pa_N u0 16 i0)) ∧ ∀ v14 : Int32, v14 = (x2 + ((x3 &&& 1) * (pa_A u0 16 i0 x4.toNatClampNeg))) → wb_X1_grace_167 k7 u0 i0 i1 v14 0 x4 post else (if (pa_A u0 15 i0 x4.toNatClampNeg) = 22 then (vp_in x4 (pa_N u0 16 i0)) ∧ ∀ v16 : Int32, v16 = (x2 - ((x3 &&& 1) * (pa_A u0 16 i0 x4.toNatClampNeg))) → wb_X1_grace_167 k7 u0 i0 i1 v16 0 x4 post else (vp_in x4 (pa_N u0 15 i0)) ∧ (vp_in x4 (pa_N u0 16 i0)) ∧ (wp_X1_holds u0 i1 (pa_A u0 15 i0 x4.toNatClampNeg) (pa_A u0 16 i0 x4.toNatClampNeg) (fun (r19 : Int32) => (if r19 = 0 then wb_X1_grace_165 k7 u0 i0 i1 x2 x4 (x3 <<< (1 &&& 31)) 0 post else wb_X1_grace_165 k7 u0 i0 i1 x2 x4 (x3 <<< (1 &&& 31)) 1 post))))))))))
set_option maxRecDepth 100000 in
set_option maxHeartbeats 4000000 in
theorem tb_X1_grace_7 {p : Program} {l : Launch} {e : Env} {s : State} {m : MethodId} {args : Array Value} {below : List Frame} {meth : Method} {c : Code} {A : Nat → Prop} {D : va_G} {g : pa_G} {q : Nat → Nat → Nat} {k7 : Int32 → Int32 → Int32 → Prop} {u0 : pa_S} {i0 : Nat} {i1 : Nat} {x2 : Int32} {x3 : Int32} {x4 : Int32} {post : Int32 → Prop} (hE : pa_Fx p s m args meth c A D g 5 cX1_grace RX1) (hr : meth.sig.returnType = (some .int)) (hi0 : i0 < pa_N u0 70 0) (hi1 : i1 < 6) (hk7 : ∀ (x2 : Int32) (x3 : Int32) (x4 : Int32), k7 x2 x3 x4 → pa_At p l e (pa_rm 3) s m args below meth c (MQ below (pa_Qc g D q (fun r => some (.int r)) (fun r u => u = u0 ∧ post r) A) args s 0 0 A) A D g 5 0 0 q u0 7 [(0, .ref (q 14 i0)), (1, .ref (q 7 i1)), (2, .int x2), (3, .int x3), (4, .int x4)] []) (hw : wb_X1_grace_7 k7 u0 i0 i1 x2 x3 x4 post) : pa_At p l e (pa_rm 3) s m args below meth c (MQ below (pa_Qc g D q (fun r => some (.int r)) (fun r u => u = u0 ∧ post r) A) args s 0 0 A) A D g 5 0 0 q u0 7 [(0, .ref (q 14 i0)), (1, .ref (q 7 i1)), (2, .int x2), (3, .int x3), (4, .int x4)] [] := by
  refine pa_iload hE dX1_grace_7 4 rfl ?_
  refine pa_aload_n hE dX1_grace_9 rfl 0 rfl ?_
  refine pg_14_0 (pa_in14 hi0) hE (pa_m1 108 rfl rfl) dX1_grace_10 ?_
  refine pn_15 (pa_in15 hi0) hE rfl dX1_grace_13 ?_
  refine pa_icmp_ge hE dX1_grace_14 (tgt := 173) (by decide) (fun h1 => ?_) (fun h1 => ?_)
  · have hw := Eq.mp (if_pos h1) hw
    refine pa_iload_n hE dX1_grace_173 rfl 2 rfl ?_
    exact pa_iret hE hr ⟨rfl, hw⟩ rfl dX1_grace_174
  · have hw := Eq.mp (if_neg h1) hw
    refine pa_iload hE dX1_grace_17 4 rfl ?_
    refine pa_aload_n hE dX1_grace_19 rfl 0 rfl ?_
    refine pg_14_1 (pa_in14 hi0) hE (pa_m1 109 rfl rfl) dX1_grace_20 ?_
    refine pn_16 (pa_in16 hi0) hE rfl dX1_grace_23 ?_
    refine pa_icmp_ge hE dX1_grace_24 (tgt := 173) (by decide) (fun h2 => ?_) (fun h2 => ?_)
    · have hw := Eq.mp (if_pos h2) hw
      refine pa_iload_n hE dX1_grace_173 rfl 2 rfl ?_
      exact pa_iret hE hr ⟨rfl, hw⟩ rfl dX1_grace_174
    · have hw := Eq.mp (if_neg h2) hw
      refine pa_aload_n hE dX1_grace_27 rfl 0 rfl ?_
      refine pg_14_0 (pa_in14 hi0) hE (pa_m1 108 rfl rfl) dX1_grace_28 ?_
      refine pa_iload hE dX1_grace_31 4 rfl ?_
      obtain ⟨h3, hw⟩ := hw
      refine pl_15 (pa_in15 hi0) hE h3 dX1_grace_33 ?_
      by_cases h4 : (pa_A u0 15 i0 x4.toNatClampNeg) = 18
      · have hw := Eq.mp (if_pos h4) hw
        refine pa_tswIn hE dX1_grace_34 (z := 18) h4 (by decide) (by decide) rfl (tgt := 68) (by decide) ?_
        refine pa_iload_n hE dX1_grace_68 rfl 3 rfl ?_
        refine pa_iconst hE dX1_grace_69 (v := 1) (by decide) ?_
        refine pa_ixor hE dX1_grace_70 ?_
        refine pa_namei (fun v9 ev9 => ?_)
        have hw := hw v9 ev9
        refine pa_istore_n hE dX1_grace_71 rfl (by decide) (lvr := [(0, .ref (q 14 i0)), (1, .ref (q 7 i1)), (2, .int x2), (4, .int x4)]) rfl ?_
        refine pa_goto hE dX1_grace_72 (tgt := 167) (by decide) ?_
        exact pa_sub [1, 2, 3, 0, 4] rfl (tb_X1_grace_167 hE hr hi0 hi1 hk7 hw)
      · have hw := Eq.mp (if_neg h4) hw
        by_cases h5 : (pa_A u0 15 i0 x4.toNatClampNeg) = 19
        · have hw := Eq.mp (if_pos h5) hw
          refine pa_tswIn hE dX1_grace_34 (z := 19) h5 (by decide) (by decide) rfl (tgt := 75) (by decide) ?_
          refine pa_iload_n hE dX1_grace_75 rfl 3 rfl ?_
          refine pa_iconst hE dX1_grace_76 (v := 1) (by decide) ?_
          refine pa_ishr hE dX1_grace_77 ?_
          refine pa_iload_n hE dX1_grace_78 rfl 3 rfl ?_
          refine pa_bipush hE dX1_grace_79 (v := (-2 : Int32)) (by decide) ?_
          refine pa_ior hE dX1_grace_81 ?_
          refine pa_iand hE dX1_grace_82 ?_
          refine pa_namei (fun v11 ev11 => ?_)
          have hw := hw v11 ev11
          refine pa_istore_n hE dX1_grace_83 rfl (by decide) (lvr := [(0, .ref (q 14 i0)), (1, .ref (q 7 i1)), (2, .int x2), (4, .int x4)]) rfl ?_
          refine pa_goto hE dX1_grace_84 (tgt := 167) (by decide) ?_
          exact pa_sub [1, 2, 3, 0, 4] rfl (tb_X1_grace_167 hE hr hi0 hi1 hk7 hw)
        · have hw := Eq.mp (if_neg h5) hw
          by_cases h6 : (pa_A u0 15 i0 x4.toNatClampNeg) = 20
          · have hw := Eq.mp (if_pos h6) hw
            refine pa_tswIn hE dX1_grace_34 (z := 20) h6 (by decide) (by decide) rfl (tgt := 87) (by decide) ?_
            refine pa_iload_n hE dX1_grace_87 rfl 3 rfl ?_
            refine pa_iconst hE dX1_grace_88 (v := 1) (by decide) ?_
            refine pa_ishr hE dX1_grace_89 ?_
            refine pa_iload_n hE dX1_grace_90 rfl 3 rfl ?_
            refine pa_iconst hE dX1_grace_91 (v := 1) (by decide) ?_
            refine pa_iand hE dX1_grace_92 ?_
            refine pa_ior hE dX1_grace_93 ?_
            refine pa_namei (fun v12 ev12 => ?_)
            have hw := hw v12 ev12
            refine pa_istore_n hE dX1_grace_94 rfl (by decide) (lvr := [(0, .ref (q 14 i0)), (1, .ref (q 7 i1)), (2, .int x2), (4, .int x4)]) rfl ?_
            refine pa_goto hE dX1_grace_95 (tgt := 167) (by decide) ?_
            exact pa_sub [1, 2, 3, 0, 4] rfl (tb_X1_grace_167 hE hr hi0 hi1 hk7 hw)
          · have hw := Eq.mp (if_neg h6) hw
            by_cases h7 : (pa_A u0 15 i0 x4.toNatClampNeg) = 21
            · have hw := Eq.mp (if_pos h7) hw
              refine pa_tswIn hE dX1_grace_34 (z := 21) h7 (by decide) (by decide) rfl (tgt := 98) (by decide) ?_
              refine pa_iload_n hE dX1_grace_98 rfl 2 rfl ?_
              refine pa_iload_n hE dX1_grace_99 rfl 3 rfl ?_
              refine pa_iconst hE dX1_grace_100 (v := 1) (by decide) ?_
              refine pa_iand hE dX1_grace_101 ?_
              refine pa_aload_n hE dX1_grace_102 rfl 0 rfl ?_
              refine pg_14_1 (pa_in14 hi0) hE (pa_m1 109 rfl rfl) dX1_grace_103 ?_
              refine pa_iload hE dX1_grace_106 4 rfl ?_
              obtain ⟨h13, hw⟩ := hw
              refine pl_16 (pa_in16 hi0) hE h13 dX1_grace_108 ?_
              refine pa_imul hE dX1_grace_109 ?_
              refine pa_iadd hE dX1_grace_110 ?_
              refine pa_namei (fun v14 ev14 => ?_)
              have hw := hw v14 ev14
              refine pa_istore_n hE dX1_grace_111 rfl (by decide) (lvr := [(0, .ref (q 14 i0)), (1, .ref (q 7 i1)), (3, .int x3), (4, .int x4)]) rfl ?_
              refine pa_iconst hE dX1_grace_112 (v := 0) (by decide) ?_
              refine pa_istore_n hE dX1_grace_113 rfl (by decide) (lvr := [(2, .int v14), (0, .ref (q 14 i0)), (1, .ref (q 7 i1)), (4, .int x4)]) rfl ?_
              refine pa_goto hE dX1_grace_114 (tgt := 167) (by decide) ?_
              exact pa_sub [2, 3, 1, 0, 4] rfl (tb_X1_grace_167 hE hr hi0 hi1 hk7 hw)
            · have hw := Eq.mp (if_neg h7) hw
              by_cases h8 : (pa_A u0 15 i0 x4.toNatClampNeg) = 22
              · have hw := Eq.mp (if_pos h8) hw
                refine pa_tswIn hE dX1_grace_34 (z := 22) h8 (by decide) (by decide) rfl (tgt := 117) (by decide) ?_
                refine pa_iload_n hE dX1_grace_117 rfl 2 rfl ?_
                refine pa_iload_n hE dX1_grace_118 rfl 3 rfl ?_
                refine pa_iconst hE dX1_grace_119 (v := 1) (by decide) ?_
                refine pa_iand hE dX1_grace_120 ?_
                refine pa_aload_n hE dX1_grace_121 rfl 0 rfl ?_
                refine pg_14_1 (pa_in14 hi0) hE (pa_m1 109 rfl rfl) dX1_grace_122 ?_
                refine pa_iload hE dX1_grace_125 4 rfl ?_
                obtain ⟨h15, hw⟩ := hw
                refine pl_16 (pa_in16 hi0) hE h15 dX1_grace_127 ?_
                refine pa_imul hE dX1_grace_128 ?_
                refine pa_isub hE dX1_grace_129 ?_
                refine pa_namei (fun v16 ev16 => ?_)
                have hw := hw v16 ev16
                refine pa_istore_n hE dX1_grace_130 rfl (by decide) (lvr := [(0, .ref (q 14 i0)), (1, .ref (q 7 i1)), (3, .int x3), (4, .int x4)]) rfl ?_
                refine pa_iconst hE dX1_grace_131 (v := 0) (by decide) ?_
                refine pa_istore_n hE dX1_grace_132 rfl (by decide) (lvr := [(2, .int v16), (0, .ref (q 14 i0)), (1, .ref (q 7 i1)), (4, .int x4)]) rfl ?_
                refine pa_goto hE dX1_grace_133 (tgt := 167) (by decide) ?_
                exact pa_sub [2, 3, 1, 0, 4] rfl (tb_X1_grace_167 hE hr hi0 hi1 hk7 hw)
              · have hw := Eq.mp (if_neg h8) hw
                refine pa_tswOut hE dX1_grace_34 (by have eh4 := pa_neL h4 (by decide : (18 : Int32).toInt = 18); have eh5 := pa_neL h5 (by decide : (19 : Int32).toInt = 19); have eh6 := pa_neL h6 (by decide : (20 : Int32).toInt = 20); have eh7 := pa_neL h7 (by decide : (21 : Int32).toInt = 21); have eh8 := pa_neL h8 (by decide : (22 : Int32).toInt = 22); omega) (tgt := 136) (by decide) ?_
                refine pa_iload_n hE dX1_grace_136 rfl 3 rfl ?_
                refine pa_iconst hE dX1_grace_137 (v := 1) (by decide) ?_
                refine pa_ishl hE dX1_grace_138 ?_
                refine pa_aload_n hE dX1_grace_139 rfl 0 rfl ?_
                refine pg_14_0 (pa_in14 hi0) hE (pa_m1 108 rfl rfl) dX1_grace_140 ?_
                refine pa_iload hE dX1_grace_143 4 rfl ?_
                obtain ⟨h17, hw⟩ := hw
                refine pl_15 (pa_in15 hi0) hE h17 dX1_grace_145 ?_
                refine pa_aload_n hE dX1_grace_146 rfl 0 rfl ?_
                refine pg_14_1 (pa_in14 hi0) hE (pa_m1 109 rfl rfl) dX1_grace_147 ?_
                refine pa_iload hE dX1_grace_150 4 rfl ?_
                obtain ⟨h18, hw⟩ := hw
                refine pl_16 (pa_in16 hi0) hE h18 dX1_grace_152 ?_
                refine pa_aload_n hE dX1_grace_153 rfl 1 rfl ?_
                refine pa_callSri hE (ct_X1_holds l g D q u0 i1 (pa_A u0 15 i0 x4.toNatClampNeg) (pa_A u0 16 i0 x4.toNatClampNeg) _ hi1 hw) cs_RX1_34 rfl (pa_hR (by omega) (by decide)) rfl (Nat.le_of_ble_eq_true rfl) dX1_grace_154 (fun r19 hw => ?_)
                refine pa_if_eq hE dX1_grace_157 (tgt := 164) (by decide) (fun h20 => ?_) (fun h20 => ?_)
                · have hw := Eq.mp (if_pos h20) hw
                  refine pa_iconst hE dX1_grace_164 (v := 0) (by decide) ?_
                  exact pa_sub [0, 1, 2, 4] rfl (tb_X1_grace_165 hE hr hi0 hi1 hk7 hw)
                · have hw := Eq.mp (if_neg h20) hw
                  refine pa_iconst hE dX1_grace_160 (v := 1) (by decide) ?_
                  refine pa_goto hE dX1_grace_161 (tgt := 165) (by decide) ?_
                  exact pa_sub [0, 1, 2, 4] rfl (tb_X1_grace_165 hE hr hi0 hi1 hk7 hw)
def wl_X1_grace_7 (i0 : Nat) (i1 : Nat) (post : Int32 → Prop) (u0 : pa_S) : Nat → Int32 → Int32 → Int32 → Prop
  | 0, _, _, _ => False
  | n + 1, x2, x3, x4 => wb_X1_grace_7 (fun x2 x3 x4 => wl_X1_grace_7 i0 i1 post u0 n x2 x3 x4) u0 i0 i1 x2 x3 x4 post
set_option maxRecDepth 100000 in
set_option maxHeartbeats 4000000 in
theorem tl_X1_grace_7 {p : Program} {l : Launch} {e : Env} {s : State} {m : MethodId} {args : Array Value} {below : List Frame} {meth : Method} {c : Code} {A : Nat → Prop} {D : va_G} {g : pa_G} {q : Nat → Nat → Nat} {u0 : pa_S} {i0 : Nat} {i1 : Nat} {post : Int32 → Prop} (hE : pa_Fx p s m args meth c A D g 5 cX1_grace RX1) (hr : meth.sig.returnType = (some .int)) (hi0 : i0 < pa_N u0 70 0) (hi1 : i1 < 6) : ∀ (n : Nat) (x2 : Int32) (x3 : Int32) (x4 : Int32), wl_X1_grace_7 i0 i1 post u0 n x2 x3 x4 → pa_At p l e (pa_rm 3) s m args below meth c (MQ below (pa_Qc g D q (fun r => some (.int r)) (fun r u => u = u0 ∧ post r) A) args s 0 0 A) A D g 5 0 0 q u0 7 [(0, .ref (q 14 i0)), (1, .ref (q 7 i1)), (2, .int x2), (3, .int x3), (4, .int x4)] []
  | 0, _, _, _, hw => absurd hw (by simp only [wl_X1_grace_7]; exact fun z => z)
  | n + 1, x2, x3, x4, hw => tb_X1_grace_7 hE hr hi0 hi1 (fun x2 x3 x4  hw1 => tl_X1_grace_7 hE hr hi0 hi1 n x2 x3 x4  hw1) hw
def wb_X1_grace_0 (u0 : pa_S) (i0 : Nat) (i1 : Nat) (post : Int32 → Prop) : Prop :=
  wl_X1_grace_7 i0 i1 post u0 5000 0 0 0
set_option maxRecDepth 100000 in
set_option maxHeartbeats 4000000 in
theorem tb_X1_grace_0 {p : Program} {l : Launch} {e : Env} {s : State} {m : MethodId} {args : Array Value} {below : List Frame} {meth : Method} {c : Code} {A : Nat → Prop} {D : va_G} {g : pa_G} {q : Nat → Nat → Nat} {u0 : pa_S} {i0 : Nat} {i1 : Nat} {post : Int32 → Prop} (hE : pa_Fx p s m args meth c A D g 5 cX1_grace RX1) (hr : meth.sig.returnType = (some .int)) (hi0 : i0 < pa_N u0 70 0) (hi1 : i1 < 6) (hw : wb_X1_grace_0 u0 i0 i1 post) : pa_At p l e (pa_rm 3) s m args below meth c (MQ below (pa_Qc g D q (fun r => some (.int r)) (fun r u => u = u0 ∧ post r) A) args s 0 0 A) A D g 5 0 0 q u0 0 [(0, .ref (q 14 i0)), (1, .ref (q 7 i1))] [] := by
  refine pa_iconst hE dX1_grace_0 (v := 0) (by decide) ?_
  refine pa_istore_n hE dX1_grace_1 rfl (by decide) (lvr := [(0, .ref (q 14 i0)), (1, .ref (q 7 i1))]) rfl ?_
  refine pa_iconst hE dX1_grace_2 (v := 0) (by decide) ?_
  refine pa_istore_n hE dX1_grace_3 rfl (by decide) (lvr := [(2, .int 0), (0, .ref (q 14 i0)), (1, .ref (q 7 i1))]) rfl ?_
  refine pa_iconst hE dX1_grace_4 (v := 0) (by decide) ?_
  refine pa_istore hE dX1_grace_5 (by decide) (lvr := [(3, .int 0), (2, .int 0), (0, .ref (q 14 i0)), (1, .ref (q 7 i1))]) rfl ?_
  exact pa_sub [3, 4, 2, 1, 0] rfl (tl_X1_grace_7 hE hr hi0 hi1 5000 0 0 0 hw)
def wp_X1_grace (u0 : pa_S) (i0 : Nat) (i1 : Nat) (post : Int32 → Prop) : Prop := wb_X1_grace_0 u0 i0 i1 post
theorem ct_X1_grace (l : Launch) (g : pa_G) (D : va_G) (q : Nat → Nat → Nat) (u0 : pa_S) (i0 : Nat) (i1 : Nat) (post : Int32 → Prop) (hi0 : i0 < pa_N u0 70 0) (hi1 : i1 < 6) (hw : wp_X1_grace u0 i0 i1 post) : pa_Ct l yX1_grace cX1_grace 5 (some .int) 3 g D q u0 [.ref (q 14 i0), .ref (q 7 i1)] (fun r => some (.int r)) (fun r u => u = u0 ∧ post r) := pa_met rfl rfl (Nat.le_of_ble_eq_true rfl) rfl (fun p e s m args below meth c A hE hr => tb_X1_grace_0 hE hr hi0 hi1 hw)
def wb_X2_clear_0 (u0 : pa_S) (i0 : Nat) (post : Int32 → pa_S → Prop) : Prop :=
  ∀ u1 : pa_S, u1 = pa_sI u0 8 i0 1 0 → post (pa_I u1 8 i0 1) u1
set_option maxRecDepth 100000 in
set_option maxHeartbeats 4000000 in
theorem tb_X2_clear_0 {p : Program} {l : Launch} {e : Env} {s : State} {m : MethodId} {args : Array Value} {below : List Frame} {meth : Method} {c : Code} {A : Nat → Prop} {D : va_G} {g : pa_G} {q : Nat → Nat → Nat} {u0 : pa_S} {i0 : Nat} {post : Int32 → pa_S → Prop} (hE : pa_Fx p s m args meth c A D g 1 cX2_clear RX2) (hr : meth.sig.returnType = (some .int)) (hi0 : i0 < 6) (hw : wb_X2_clear_0 u0 i0 post) : pa_At p l e (pa_rm 2) s m args below meth c (MQ below (pa_Qc g D q (fun r => some (.int r)) post A) args s 0 0 A) A D g 1 0 0 q u0 0 [(0, .ref (q 8 i0))] [] := by
  refine pa_aload_n hE dX2_clear_0 rfl 0 rfl ?_
  refine pa_iconst hE dX2_clear_1 (v := 0) (by decide) ?_
  refine pp_8_1 (pa_in8 hi0) hE (pa_m1 32 rfl rfl) dX2_clear_2 (fun u1 eu1 => ?_)
  have hw := hw u1 eu1
  refine pa_aload_n hE dX2_clear_5 rfl 0 rfl ?_
  refine pg_8_1 (pa_in8 hi0) hE (pa_m1 32 rfl rfl) dX2_clear_6 ?_
  exact pa_iret hE hr hw rfl dX2_clear_9
def wp_X2_clear (u0 : pa_S) (i0 : Nat) (post : Int32 → pa_S → Prop) : Prop := wb_X2_clear_0 u0 i0 post
theorem ct_X2_clear (l : Launch) (g : pa_G) (D : va_G) (q : Nat → Nat → Nat) (u0 : pa_S) (i0 : Nat) (post : Int32 → pa_S → Prop) (hi0 : i0 < 6) (hw : wp_X2_clear u0 i0 post) : pa_Ct l yX2_clear cX2_clear 1 (some .int) 2 g D q u0 [.ref (q 8 i0)] (fun r => some (.int r)) post := pa_met rfl rfl (Nat.le_of_ble_eq_true rfl) rfl (fun p e s m args below meth c A hE hr => tb_X2_clear_0 hE hr hi0 hw)
def wb_X2_add_0 (u0 : pa_S) (i0 : Nat) (x1 : Int32) (x2 : Int32) (x3 : Int32) (x4 : Int32) (post : Int32 → pa_S → Prop) : Prop :=
  (if (pa_I u0 8 i0 1) < 0 then post (pa_I u0 8 i0 1) u0 else (if 10 ≤ (pa_I u0 8 i0 1) then post (pa_I u0 8 i0 1) u0 else (vp_in ((pa_I u0 8 i0 1) * 4) 40) ∧ ∀ u4 : pa_S, u4 = pa_sA u0 9 i0 (upd (pa_A u0 9 i0) ((pa_I u0 8 i0 1) * 4).toNatClampNeg x1) → (vp_in (((pa_I u4 8 i0 1) * 4) + 1) 40) ∧ ∀ u6 : pa_S, u6 = pa_sA u4 9 i0 (upd (pa_A u4 9 i0) (((pa_I u4 8 i0 1) * 4) + 1).toNatClampNeg x2) → (vp_in (((pa_I u6 8 i0 1) * 4) + 2) 40) ∧ ∀ u8 : pa_S, u8 = pa_sA u6 9 i0 (upd (pa_A u6 9 i0) (((pa_I u6 8 i0 1) * 4) + 2).toNatClampNeg x3) → (vp_in (((pa_I u8 8 i0 1) * 4) + 3) 40) ∧ ∀ u10 : pa_S, u10 = pa_sA u8 9 i0 (upd (pa_A u8 9 i0) (((pa_I u8 8 i0 1) * 4) + 3).toNatClampNeg x4) → ∀ u11 : pa_S, u11 = pa_sI u10 8 i0 1 ((pa_I u10 8 i0 1) + 1) → post (pa_I u11 8 i0 1) u11))
set_option maxRecDepth 100000 in
set_option maxHeartbeats 4000000 in
theorem tb_X2_add_0 {p : Program} {l : Launch} {e : Env} {s : State} {m : MethodId} {args : Array Value} {below : List Frame} {meth : Method} {c : Code} {A : Nat → Prop} {D : va_G} {g : pa_G} {q : Nat → Nat → Nat} {u0 : pa_S} {i0 : Nat} {x1 : Int32} {x2 : Int32} {x3 : Int32} {x4 : Int32} {post : Int32 → pa_S → Prop} (hE : pa_Fx p s m args meth c A D g 5 cX2_add RX2) (hr : meth.sig.returnType = (some .int)) (hi0 : i0 < 6) (hw : wb_X2_add_0 u0 i0 x1 x2 x3 x4 post) : pa_At p l e (pa_rm 2) s m args below meth c (MQ below (pa_Qc g D q (fun r => some (.int r)) post A) args s 0 0 A) A D g 5 0 0 q u0 0 [(0, .ref (q 8 i0)), (1, .int x1), (2, .int x2), (3, .int x3), (4, .int x4)] [] := by
  refine pa_aload_n hE dX2_add_0 rfl 0 rfl ?_
  refine pg_8_1 (pa_in8 hi0) hE (pa_m1 32 rfl rfl) dX2_add_1 ?_
  refine pa_if_lt hE dX2_add_4 (tgt := 81) (by decide) (fun h1 => ?_) (fun h1 => ?_)
  · have hw := Eq.mp (if_pos h1) hw
    refine pa_aload_n hE dX2_add_81 rfl 0 rfl ?_
    refine pg_8_1 (pa_in8 hi0) hE (pa_m1 32 rfl rfl) dX2_add_82 ?_
    exact pa_iret hE hr hw rfl dX2_add_85
  · have hw := Eq.mp (if_neg h1) hw
    refine pa_aload_n hE dX2_add_7 rfl 0 rfl ?_
    refine pg_8_1 (pa_in8 hi0) hE (pa_m1 32 rfl rfl) dX2_add_8 ?_
    refine pa_bipush hE dX2_add_11 (v := 10) (by decide) ?_
    refine pa_icmp_ge hE dX2_add_13 (tgt := 81) (by decide) (fun h2 => ?_) (fun h2 => ?_)
    · have hw := Eq.mp (if_pos h2) hw
      refine pa_aload_n hE dX2_add_81 rfl 0 rfl ?_
      refine pg_8_1 (pa_in8 hi0) hE (pa_m1 32 rfl rfl) dX2_add_82 ?_
      exact pa_iret hE hr hw rfl dX2_add_85
    · have hw := Eq.mp (if_neg h2) hw
      refine pa_aload_n hE dX2_add_16 rfl 0 rfl ?_
      refine pg_8_0 (pa_in8 hi0) hE (pa_m1 31 rfl rfl) dX2_add_17 ?_
      refine pa_aload_n hE dX2_add_20 rfl 0 rfl ?_
      refine pg_8_1 (pa_in8 hi0) hE (pa_m1 32 rfl rfl) dX2_add_21 ?_
      refine pa_iconst hE dX2_add_24 (v := 4) (by decide) ?_
      refine pa_imul hE dX2_add_25 ?_
      refine pa_iload_n hE dX2_add_26 rfl 1 rfl ?_
      obtain ⟨h3, hw⟩ := hw
      refine ps_9 (pa_in9 hi0) hE h3 dX2_add_27 (fun u4 eu4 => ?_)
      have hw := hw u4 eu4
      refine pa_aload_n hE dX2_add_28 rfl 0 rfl ?_
      refine pg_8_0 (pa_in8 hi0) hE (pa_m1 31 rfl rfl) dX2_add_29 ?_
      refine pa_aload_n hE dX2_add_32 rfl 0 rfl ?_
      refine pg_8_1 (pa_in8 hi0) hE (pa_m1 32 rfl rfl) dX2_add_33 ?_
      refine pa_iconst hE dX2_add_36 (v := 4) (by decide) ?_
      refine pa_imul hE dX2_add_37 ?_
      refine pa_iconst hE dX2_add_38 (v := 1) (by decide) ?_
      refine pa_iadd hE dX2_add_39 ?_
      refine pa_iload_n hE dX2_add_40 rfl 2 rfl ?_
      obtain ⟨h5, hw⟩ := hw
      refine ps_9 (pa_in9 hi0) hE h5 dX2_add_41 (fun u6 eu6 => ?_)
      have hw := hw u6 eu6
      refine pa_aload_n hE dX2_add_42 rfl 0 rfl ?_
      refine pg_8_0 (pa_in8 hi0) hE (pa_m1 31 rfl rfl) dX2_add_43 ?_
      refine pa_aload_n hE dX2_add_46 rfl 0 rfl ?_
      refine pg_8_1 (pa_in8 hi0) hE (pa_m1 32 rfl rfl) dX2_add_47 ?_
      refine pa_iconst hE dX2_add_50 (v := 4) (by decide) ?_
      refine pa_imul hE dX2_add_51 ?_
      refine pa_iconst hE dX2_add_52 (v := 2) (by decide) ?_
      refine pa_iadd hE dX2_add_53 ?_
      refine pa_iload_n hE dX2_add_54 rfl 3 rfl ?_
      obtain ⟨h7, hw⟩ := hw
      refine ps_9 (pa_in9 hi0) hE h7 dX2_add_55 (fun u8 eu8 => ?_)
      have hw := hw u8 eu8
      refine pa_aload_n hE dX2_add_56 rfl 0 rfl ?_
      refine pg_8_0 (pa_in8 hi0) hE (pa_m1 31 rfl rfl) dX2_add_57 ?_
      refine pa_aload_n hE dX2_add_60 rfl 0 rfl ?_
      refine pg_8_1 (pa_in8 hi0) hE (pa_m1 32 rfl rfl) dX2_add_61 ?_
      refine pa_iconst hE dX2_add_64 (v := 4) (by decide) ?_
      refine pa_imul hE dX2_add_65 ?_
      refine pa_iconst hE dX2_add_66 (v := 3) (by decide) ?_
      refine pa_iadd hE dX2_add_67 ?_
      refine pa_iload hE dX2_add_68 4 rfl ?_
      obtain ⟨h9, hw⟩ := hw
      refine ps_9 (pa_in9 hi0) hE h9 dX2_add_70 (fun u10 eu10 => ?_)
      have hw := hw u10 eu10
      refine pa_aload_n hE dX2_add_71 rfl 0 rfl ?_
      refine pa_dup hE dX2_add_72 rfl ?_
      refine pg_8_1 (pa_in8 hi0) hE (pa_m1 32 rfl rfl) dX2_add_73 ?_
      refine pa_iconst hE dX2_add_76 (v := 1) (by decide) ?_
      refine pa_iadd hE dX2_add_77 ?_
      refine pp_8_1 (pa_in8 hi0) hE (pa_m1 32 rfl rfl) dX2_add_78 (fun u11 eu11 => ?_)
      have hw := hw u11 eu11
      refine pa_aload_n hE dX2_add_81 rfl 0 rfl ?_
      refine pg_8_1 (pa_in8 hi0) hE (pa_m1 32 rfl rfl) dX2_add_82 ?_
      exact pa_iret hE hr hw rfl dX2_add_85
def wp_X2_add (u0 : pa_S) (i0 : Nat) (x1 : Int32) (x2 : Int32) (x3 : Int32) (x4 : Int32) (post : Int32 → pa_S → Prop) : Prop := wb_X2_add_0 u0 i0 x1 x2 x3 x4 post
theorem ct_X2_add (l : Launch) (g : pa_G) (D : va_G) (q : Nat → Nat → Nat) (u0 : pa_S) (i0 : Nat) (x1 : Int32) (x2 : Int32) (x3 : Int32) (x4 : Int32) (post : Int32 → pa_S → Prop) (hi0 : i0 < 6) (hw : wp_X2_add u0 i0 x1 x2 x3 x4 post) : pa_Ct l yX2_add cX2_add 5 (some .int) 2 g D q u0 [.ref (q 8 i0), .int x1, .int x2, .int x3, .int x4] (fun r => some (.int r)) post := pa_met rfl rfl (Nat.le_of_ble_eq_true rfl) rfl (fun p e s m args below meth c A hE hr => tb_X2_add_0 hE hr hi0 hw)
def wb_X2_at_24 (u0 : pa_S) (i0 : Nat) (x1 : Int32) (x2 : Int32) (y0 : Int32) (post : Int32 → Prop) : Prop :=
  (if y0 = 0 then post 0 else (vp_in ((x1 * 4) + x2) 40) ∧ post (pa_A u0 9 i0 ((x1 * 4) + x2).toNatClampNeg))
set_option maxRecDepth 100000 in
set_option maxHeartbeats 4000000 in
theorem tb_X2_at_24 {p : Program} {l : Launch} {e : Env} {s : State} {m : MethodId} {args : Array Value} {below : List Frame} {meth : Method} {c : Code} {A : Nat → Prop} {D : va_G} {g : pa_G} {q : Nat → Nat → Nat} {u0 : pa_S} {i0 : Nat} {x1 : Int32} {x2 : Int32} {y0 : Int32} {post : Int32 → Prop} (hE : pa_Fx p s m args meth c A D g 4 cX2_at RX2) (hr : meth.sig.returnType = (some .int)) (hi0 : i0 < 6) (hw : wb_X2_at_24 u0 i0 x1 x2 y0 post) : pa_At p l e (pa_rm 2) s m args below meth c (MQ below (pa_Qc g D q (fun r => some (.int r)) (fun r u => u = u0 ∧ post r) A) args s 0 0 A) A D g 4 0 0 q u0 24 [(0, .ref (q 8 i0)), (1, .int x1), (2, .int x2)] [.int y0] := by
  refine pa_istore_n hE dX2_at_24 rfl (by decide) (lvr := [(0, .ref (q 8 i0)), (1, .int x1), (2, .int x2)]) rfl ?_
  refine pa_iload_n hE dX2_at_25 rfl 0 rfl ?_
  refine pa_if_eq hE dX2_at_26 (tgt := 42) (by decide) (fun h2 => ?_) (fun h2 => ?_)
  · have hw := Eq.mp (if_pos h2) hw
    refine pa_iconst hE dX2_at_42 (v := 0) (by decide) ?_
    exact pa_iret hE hr ⟨rfl, hw⟩ rfl dX2_at_43
  · have hw := Eq.mp (if_neg h2) hw
    refine pa_aload_n hE dX2_at_29 rfl 1 rfl ?_
    refine pg_8_0 (pa_in8 hi0) hE (pa_m1 31 rfl rfl) dX2_at_30 ?_
    refine pa_iload_n hE dX2_at_33 rfl 2 rfl ?_
    refine pa_iconst hE dX2_at_34 (v := 4) (by decide) ?_
    refine pa_imul hE dX2_at_35 ?_
    refine pa_iload_n hE dX2_at_36 rfl 3 rfl ?_
    refine pa_iadd hE dX2_at_37 ?_
    obtain ⟨h3, hw⟩ := hw
    refine pl_9 (pa_in9 hi0) hE h3 dX2_at_38 ?_
    refine pa_goto hE dX2_at_39 (tgt := 43) (by decide) ?_
    exact pa_iret hE hr ⟨rfl, hw⟩ rfl dX2_at_43
def wb_X2_at_23 (u0 : pa_S) (i0 : Nat) (x1 : Int32) (x2 : Int32) (post : Int32 → Prop) : Prop :=
  wb_X2_at_24 u0 i0 x1 x2 0 post
set_option maxRecDepth 100000 in
set_option maxHeartbeats 4000000 in
theorem tb_X2_at_23 {p : Program} {l : Launch} {e : Env} {s : State} {m : MethodId} {args : Array Value} {below : List Frame} {meth : Method} {c : Code} {A : Nat → Prop} {D : va_G} {g : pa_G} {q : Nat → Nat → Nat} {u0 : pa_S} {i0 : Nat} {x1 : Int32} {x2 : Int32} {post : Int32 → Prop} (hE : pa_Fx p s m args meth c A D g 4 cX2_at RX2) (hr : meth.sig.returnType = (some .int)) (hi0 : i0 < 6) (hw : wb_X2_at_23 u0 i0 x1 x2 post) : pa_At p l e (pa_rm 2) s m args below meth c (MQ below (pa_Qc g D q (fun r => some (.int r)) (fun r u => u = u0 ∧ post r) A) args s 0 0 A) A D g 4 0 0 q u0 23 [(0, .ref (q 8 i0)), (1, .int x1), (2, .int x2)] [] := by
  refine pa_iconst hE dX2_at_23 (v := 0) (by decide) ?_
  exact pa_sub [0, 1, 2] rfl (tb_X2_at_24 hE hr hi0 hw)
def wb_X2_at_0 (u0 : pa_S) (i0 : Nat) (x1 : Int32) (x2 : Int32) (post : Int32 → Prop) : Prop :=
  (if x1 < 0 then wb_X2_at_23 u0 i0 x1 x2 post else (if 10 ≤ x1 then wb_X2_at_23 u0 i0 x1 x2 post else (if x2 < 0 then wb_X2_at_23 u0 i0 x1 x2 post else (if 4 ≤ x2 then wb_X2_at_23 u0 i0 x1 x2 post else wb_X2_at_24 u0 i0 x1 x2 1 post))))
set_option maxRecDepth 100000 in
set_option maxHeartbeats 4000000 in
theorem tb_X2_at_0 {p : Program} {l : Launch} {e : Env} {s : State} {m : MethodId} {args : Array Value} {below : List Frame} {meth : Method} {c : Code} {A : Nat → Prop} {D : va_G} {g : pa_G} {q : Nat → Nat → Nat} {u0 : pa_S} {i0 : Nat} {x1 : Int32} {x2 : Int32} {post : Int32 → Prop} (hE : pa_Fx p s m args meth c A D g 4 cX2_at RX2) (hr : meth.sig.returnType = (some .int)) (hi0 : i0 < 6) (hw : wb_X2_at_0 u0 i0 x1 x2 post) : pa_At p l e (pa_rm 2) s m args below meth c (MQ below (pa_Qc g D q (fun r => some (.int r)) (fun r u => u = u0 ∧ post r) A) args s 0 0 A) A D g 4 0 0 q u0 0 [(0, .ref (q 8 i0)), (1, .int x1), (2, .int x2)] [] := by
  refine pa_iload_n hE dX2_at_0 rfl 1 rfl ?_
  refine pa_if_lt hE dX2_at_1 (tgt := 23) (by decide) (fun h1 => ?_) (fun h1 => ?_)
  · have hw := Eq.mp (if_pos h1) hw
    exact pa_sub [0, 1, 2] rfl (tb_X2_at_23 hE hr hi0 hw)
  · have hw := Eq.mp (if_neg h1) hw
    refine pa_iload_n hE dX2_at_4 rfl 1 rfl ?_
    refine pa_bipush hE dX2_at_5 (v := 10) (by decide) ?_
    refine pa_icmp_ge hE dX2_at_7 (tgt := 23) (by decide) (fun h4 => ?_) (fun h4 => ?_)
    · have hw := Eq.mp (if_pos h4) hw
      exact pa_sub [0, 1, 2] rfl (tb_X2_at_23 hE hr hi0 hw)
    · have hw := Eq.mp (if_neg h4) hw
      refine pa_iload_n hE dX2_at_10 rfl 2 rfl ?_
      refine pa_if_lt hE dX2_at_11 (tgt := 23) (by decide) (fun h5 => ?_) (fun h5 => ?_)
      · have hw := Eq.mp (if_pos h5) hw
        exact pa_sub [0, 1, 2] rfl (tb_X2_at_23 hE hr hi0 hw)
      · have hw := Eq.mp (if_neg h5) hw
        refine pa_iload_n hE dX2_at_14 rfl 2 rfl ?_
        refine pa_iconst hE dX2_at_15 (v := 4) (by decide) ?_
        refine pa_icmp_ge hE dX2_at_16 (tgt := 23) (by decide) (fun h6 => ?_) (fun h6 => ?_)
        · have hw := Eq.mp (if_pos h6) hw
          exact pa_sub [0, 1, 2] rfl (tb_X2_at_23 hE hr hi0 hw)
        · have hw := Eq.mp (if_neg h6) hw
          refine pa_iconst hE dX2_at_19 (v := 1) (by decide) ?_
          refine pa_goto hE dX2_at_20 (tgt := 24) (by decide) ?_
          exact pa_sub [0, 1, 2] rfl (tb_X2_at_24 hE hr hi0 hw)
def wp_X2_at (u0 : pa_S) (i0 : Nat) (x1 : Int32) (x2 : Int32) (post : Int32 → Prop) : Prop := wb_X2_at_0 u0 i0 x1 x2 post
theorem ct_X2_at (l : Launch) (g : pa_G) (D : va_G) (q : Nat → Nat → Nat) (u0 : pa_S) (i0 : Nat) (x1 : Int32) (x2 : Int32) (post : Int32 → Prop) (hi0 : i0 < 6) (hw : wp_X2_at u0 i0 x1 x2 post) : pa_Ct l yX2_at cX2_at 4 (some .int) 2 g D q u0 [.ref (q 8 i0), .int x1, .int x2] (fun r => some (.int r)) (fun r u => u = u0 ∧ post r) := pa_met rfl rfl (Nat.le_of_ble_eq_true rfl) rfl (fun p e s m args below meth c A hE hr => tb_X2_at_0 hE hr hi0 hw)
def wb_X2_become_0 (u0 : pa_S) (i0 : Nat) (i1 : Nat) (post : pa_S → Prop) : Prop :=
  ∀ u1 : pa_S, u1 = pa_sA u0 9 i0 (va_cpy (pa_A u0 9 i1) (pa_A u0 9 i0) 0 0 40) → ∀ u2 : pa_S, u2 = pa_sI u1 8 i0 1 (pa_I u1 8 i1 1) → post u2
set_option maxRecDepth 100000 in
set_option maxHeartbeats 4000000 in
theorem tb_X2_become_0 {p : Program} {l : Launch} {e : Env} {s : State} {m : MethodId} {args : Array Value} {below : List Frame} {meth : Method} {c : Code} {A : Nat → Prop} {D : va_G} {g : pa_G} {q : Nat → Nat → Nat} {u0 : pa_S} {i0 : Nat} {i1 : Nat} {post : pa_S → Prop} (hE : pa_Fx p s m args meth c A D g 2 cX2_become RX2) (hr : meth.sig.returnType = none) (hi0 : i0 < 6) (hi1 : i1 < 6) (hw : wb_X2_become_0 u0 i0 i1 post) : pa_At p l e (pa_rm 2) s m args below meth c (MQ below (pa_Qc g D q (fun (_ : Unit) => none) (fun (_ : Unit) u => post u) A) args s 0 0 A) A D g 2 0 0 q u0 0 [(0, .ref (q 8 i0)), (1, .ref (q 8 i1))] [] := by
  refine pa_aload_n hE dX2_become_0 rfl 1 rfl ?_
  refine pg_8_0 (pa_in8 hi1) hE (pa_m1 31 rfl rfl) dX2_become_1 ?_
  refine pa_iconst hE dX2_become_4 (v := 0) (by decide) ?_
  refine pa_aload_n hE dX2_become_5 rfl 0 rfl ?_
  refine pg_8_0 (pa_in8 hi0) hE (pa_m1 31 rfl rfl) dX2_become_6 ?_
  refine pa_iconst hE dX2_become_9 (v := 0) (by decide) ?_
  refine pa_bipush hE dX2_become_10 (v := 40) (by decide) ?_
  refine pa_copyi hE ca_RX2_17 (pa_in9 hi1) (pa_in9 hi0) (hc := rfl) (hc2 := fun _ => rfl) (by decide) (by decide) (by decide) (by decide) (by decide) (pa_hRc (by omega)) (Nat.le_of_ble_eq_true rfl) dX2_become_12 (fun u1 eu1 => ?_)
  have hw := hw u1 eu1
  refine pa_aload_n hE dX2_become_15 rfl 0 rfl ?_
  refine pa_aload_n hE dX2_become_16 rfl 1 rfl ?_
  refine pg_8_1 (pa_in8 hi1) hE (pa_m1 32 rfl rfl) dX2_become_17 ?_
  refine pp_8_1 (pa_in8 hi0) hE (pa_m1 32 rfl rfl) dX2_become_20 (fun u2 eu2 => ?_)
  have hw := hw u2 eu2
  exact pa_vret (r := ()) hE hr hw rfl dX2_become_23
def wp_X2_become (u0 : pa_S) (i0 : Nat) (i1 : Nat) (post : pa_S → Prop) : Prop := wb_X2_become_0 u0 i0 i1 post
theorem ct_X2_become (l : Launch) (g : pa_G) (D : va_G) (q : Nat → Nat → Nat) (u0 : pa_S) (i0 : Nat) (i1 : Nat) (post : pa_S → Prop) (hi0 : i0 < 6) (hi1 : i1 < 6) (hw : wp_X2_become u0 i0 i1 post) : pa_Ct l yX2_become cX2_become 2 none 2 g D q u0 [.ref (q 8 i0), .ref (q 8 i1)] (fun (_ : Unit) => none) (fun (_ : Unit) u => post u) := pa_met rfl rfl (Nat.le_of_ble_eq_true rfl) rfl (fun p e s m args below meth c A hE hr => tb_X2_become_0 hE hr hi0 hi1 hw)
def wb_X3_become_0 (u0 : pa_S) (i0 : Nat) (i1 : Nat) (post : pa_S → Prop) : Prop :=
  ∀ u1 : pa_S, u1 = pa_sA u0 2 i0 (va_cpy (pa_A u0 2 i1) (pa_A u0 2 i0) 0 0 5) → ∀ u2 : pa_S, u2 = pa_sA u1 3 i0 (va_cpy (pa_A u1 3 i1) (pa_A u1 3 i0) 0 0 5) → ∀ u3 : pa_S, u3 = pa_sA u2 4 i0 (va_cpy (pa_A u2 4 i1) (pa_A u2 4 i0) 0 0 5) → ∀ u4 : pa_S, u4 = pa_sA u3 5 i0 (va_cpy (pa_A u3 5 i1) (pa_A u3 5 i0) 0 0 15) → ∀ u5 : pa_S, u5 = pa_sA u4 6 i0 (va_cpy (pa_A u4 6 i1) (pa_A u4 6 i0) 0 0 20) → ∀ u6 : pa_S, u6 = pa_sI u5 1 i0 6 (pa_I u5 1 i1 6) → ∀ u7 : pa_S, u7 = pa_sI u6 1 i0 7 (pa_I u6 1 i1 7) → ∀ u8 : pa_S, u8 = pa_sI u7 1 i0 8 (pa_I u7 1 i1 8) → (pa_N u8 1 i1 < pa_N u8 70 0) ∧ ∀ u10 : pa_S, u10 = pa_sN u8 1 i0 (pa_N u8 1 i1) → post u10
set_option maxRecDepth 100000 in
set_option maxHeartbeats 4000000 in
theorem tb_X3_become_0 {p : Program} {l : Launch} {e : Env} {s : State} {m : MethodId} {args : Array Value} {below : List Frame} {meth : Method} {c : Code} {A : Nat → Prop} {D : va_G} {g : pa_G} {q : Nat → Nat → Nat} {u0 : pa_S} {i0 : Nat} {i1 : Nat} {post : pa_S → Prop} (hE : pa_Fx p s m args meth c A D g 2 cX3_become RX3) (hr : meth.sig.returnType = none) (hi0 : i0 < 6) (hi1 : i1 < 6) (hw : wb_X3_become_0 u0 i0 i1 post) : pa_At p l e (pa_rm 2) s m args below meth c (MQ below (pa_Qc g D q (fun (_ : Unit) => none) (fun (_ : Unit) u => post u) A) args s 0 0 A) A D g 2 0 0 q u0 0 [(0, .ref (q 1 i0)), (1, .ref (q 1 i1))] [] := by
  refine pa_aload_n hE dX3_become_0 rfl 1 rfl ?_
  refine pg_1_0 (pa_in1 hi1) hE (pa_m1 142 rfl rfl) dX3_become_1 ?_
  refine pa_iconst hE dX3_become_4 (v := 0) (by decide) ?_
  refine pa_aload_n hE dX3_become_5 rfl 0 rfl ?_
  refine pg_1_0 (pa_in1 hi0) hE (pa_m1 142 rfl rfl) dX3_become_6 ?_
  refine pa_iconst hE dX3_become_9 (v := 0) (by decide) ?_
  refine pa_iconst hE dX3_become_10 (v := 5) (by decide) ?_
  refine pa_copyi hE ca_RX3_48 (pa_in2 hi1) (pa_in2 hi0) (hc := rfl) (hc2 := fun _ => rfl) (by decide) (by decide) (by decide) (by decide) (by decide) (pa_hRc (by omega)) (Nat.le_of_ble_eq_true rfl) dX3_become_11 (fun u1 eu1 => ?_)
  have hw := hw u1 eu1
  refine pa_aload_n hE dX3_become_14 rfl 1 rfl ?_
  refine pg_1_1 (pa_in1 hi1) hE (pa_m1 143 rfl rfl) dX3_become_15 ?_
  refine pa_iconst hE dX3_become_18 (v := 0) (by decide) ?_
  refine pa_aload_n hE dX3_become_19 rfl 0 rfl ?_
  refine pg_1_1 (pa_in1 hi0) hE (pa_m1 143 rfl rfl) dX3_become_20 ?_
  refine pa_iconst hE dX3_become_23 (v := 0) (by decide) ?_
  refine pa_iconst hE dX3_become_24 (v := 5) (by decide) ?_
  refine pa_copyi hE ca_RX3_48 (pa_in3 hi1) (pa_in3 hi0) (hc := rfl) (hc2 := fun _ => rfl) (by decide) (by decide) (by decide) (by decide) (by decide) (pa_hRc (by omega)) (Nat.le_of_ble_eq_true rfl) dX3_become_25 (fun u2 eu2 => ?_)
  have hw := hw u2 eu2
  refine pa_aload_n hE dX3_become_28 rfl 1 rfl ?_
  refine pg_1_2 (pa_in1 hi1) hE (pa_m1 144 rfl rfl) dX3_become_29 ?_
  refine pa_iconst hE dX3_become_32 (v := 0) (by decide) ?_
  refine pa_aload_n hE dX3_become_33 rfl 0 rfl ?_
  refine pg_1_2 (pa_in1 hi0) hE (pa_m1 144 rfl rfl) dX3_become_34 ?_
  refine pa_iconst hE dX3_become_37 (v := 0) (by decide) ?_
  refine pa_iconst hE dX3_become_38 (v := 5) (by decide) ?_
  refine pa_copyi hE ca_RX3_48 (pa_in4 hi1) (pa_in4 hi0) (hc := rfl) (hc2 := fun _ => rfl) (by decide) (by decide) (by decide) (by decide) (by decide) (pa_hRc (by omega)) (Nat.le_of_ble_eq_true rfl) dX3_become_39 (fun u3 eu3 => ?_)
  have hw := hw u3 eu3
  refine pa_aload_n hE dX3_become_42 rfl 1 rfl ?_
  refine pg_1_3 (pa_in1 hi1) hE (pa_m1 145 rfl rfl) dX3_become_43 ?_
  refine pa_iconst hE dX3_become_46 (v := 0) (by decide) ?_
  refine pa_aload_n hE dX3_become_47 rfl 0 rfl ?_
  refine pg_1_3 (pa_in1 hi0) hE (pa_m1 145 rfl rfl) dX3_become_48 ?_
  refine pa_iconst hE dX3_become_51 (v := 0) (by decide) ?_
  refine pa_bipush hE dX3_become_52 (v := 15) (by decide) ?_
  refine pa_copyi hE ca_RX3_48 (pa_in5 hi1) (pa_in5 hi0) (hc := rfl) (hc2 := fun _ => rfl) (by decide) (by decide) (by decide) (by decide) (by decide) (pa_hRc (by omega)) (Nat.le_of_ble_eq_true rfl) dX3_become_54 (fun u4 eu4 => ?_)
  have hw := hw u4 eu4
  refine pa_aload_n hE dX3_become_57 rfl 1 rfl ?_
  refine pg_1_4 (pa_in1 hi1) hE (pa_m1 146 rfl rfl) dX3_become_58 ?_
  refine pa_iconst hE dX3_become_61 (v := 0) (by decide) ?_
  refine pa_aload_n hE dX3_become_62 rfl 0 rfl ?_
  refine pg_1_4 (pa_in1 hi0) hE (pa_m1 146 rfl rfl) dX3_become_63 ?_
  refine pa_iconst hE dX3_become_66 (v := 0) (by decide) ?_
  refine pa_bipush hE dX3_become_67 (v := 20) (by decide) ?_
  refine pa_copyi hE ca_RX3_48 (pa_in6 hi1) (pa_in6 hi0) (hc := rfl) (hc2 := fun _ => rfl) (by decide) (by decide) (by decide) (by decide) (by decide) (pa_hRc (by omega)) (Nat.le_of_ble_eq_true rfl) dX3_become_69 (fun u5 eu5 => ?_)
  have hw := hw u5 eu5
  refine pa_aload_n hE dX3_become_72 rfl 0 rfl ?_
  refine pa_aload_n hE dX3_become_73 rfl 1 rfl ?_
  refine pg_1_6 (pa_in1 hi1) hE (pa_m1 149 rfl rfl) dX3_become_74 ?_
  refine pp_1_6 (pa_in1 hi0) hE (pa_m1 149 rfl rfl) dX3_become_77 (fun u6 eu6 => ?_)
  have hw := hw u6 eu6
  refine pa_aload_n hE dX3_become_80 rfl 0 rfl ?_
  refine pa_aload_n hE dX3_become_81 rfl 1 rfl ?_
  refine pg_1_7 (pa_in1 hi1) hE (pa_m1 150 rfl rfl) dX3_become_82 ?_
  refine pp_1_7 (pa_in1 hi0) hE (pa_m1 150 rfl rfl) dX3_become_85 (fun u7 eu7 => ?_)
  have hw := hw u7 eu7
  refine pa_aload_n hE dX3_become_88 rfl 0 rfl ?_
  refine pa_aload_n hE dX3_become_89 rfl 1 rfl ?_
  refine pg_1_8 (pa_in1 hi1) hE (pa_m1 152 rfl rfl) dX3_become_90 ?_
  refine pp_1_8 (pa_in1 hi0) hE (pa_m1 152 rfl rfl) dX3_become_93 (fun u8 eu8 => ?_)
  have hw := hw u8 eu8
  refine pa_aload_n hE dX3_become_96 rfl 0 rfl ?_
  refine pa_aload_n hE dX3_become_97 rfl 1 rfl ?_
  obtain ⟨h9, hw⟩ := hw
  refine pg_1_9 (pa_in1 hi1) hE (pa_m1 154 rfl rfl) dX3_become_98 ?_
  refine pp_1_9 (pa_in1 hi0) (pa_in14 h9) hE (pa_m1 154 rfl rfl) dX3_become_101 (fun u10 eu10 => ?_)
  have hw := hw u10 eu10
  exact pa_vret (r := ()) hE hr hw rfl dX3_become_104
def wp_X3_become (u0 : pa_S) (i0 : Nat) (i1 : Nat) (post : pa_S → Prop) : Prop := wb_X3_become_0 u0 i0 i1 post
theorem ct_X3_become (l : Launch) (g : pa_G) (D : va_G) (q : Nat → Nat → Nat) (u0 : pa_S) (i0 : Nat) (i1 : Nat) (post : pa_S → Prop) (hi0 : i0 < 6) (hi1 : i1 < 6) (hw : wp_X3_become u0 i0 i1 post) : pa_Ct l yX3_become cX3_become 2 none 2 g D q u0 [.ref (q 1 i0), .ref (q 1 i1)] (fun (_ : Unit) => none) (fun (_ : Unit) u => post u) := pa_met rfl rfl (Nat.le_of_ble_eq_true rfl) rfl (fun p e s m args below meth c A hE hr => tb_X3_become_0 hE hr hi0 hi1 hw)
def wb_X3_has_0 (u0 : pa_S) (i0 : Nat) (x1 : Int32) (post : Int32 → Prop) : Prop :=
  (if x1 < 0 then post 0 else (if (pa_I u0 1 i0 6) ≤ x1 then post 0 else (if 5 ≤ x1 then post 0 else post 1)))
set_option maxRecDepth 100000 in
set_option maxHeartbeats 4000000 in
theorem tb_X3_has_0 {p : Program} {l : Launch} {e : Env} {s : State} {m : MethodId} {args : Array Value} {below : List Frame} {meth : Method} {c : Code} {A : Nat → Prop} {D : va_G} {g : pa_G} {q : Nat → Nat → Nat} {u0 : pa_S} {i0 : Nat} {x1 : Int32} {post : Int32 → Prop} (hE : pa_Fx p s m args meth c A D g 2 cX3_has RX3) (hr : meth.sig.returnType = (some .boolean)) (hi0 : i0 < 6) (hw : wb_X3_has_0 u0 i0 x1 post) : pa_At p l e (pa_rm 2) s m args below meth c (MQ below (pa_Qc g D q (fun r => some (.int r)) (fun r u => u = u0 ∧ post r) A) args s 0 0 A) A D g 2 0 0 q u0 0 [(0, .ref (q 1 i0)), (1, .int x1)] [] := by
  refine pa_iload_n hE dX3_has_0 rfl 1 rfl ?_
  refine pa_if_lt hE dX3_has_1 (tgt := 21) (by decide) (fun h1 => ?_) (fun h1 => ?_)
  · have hw := Eq.mp (if_pos h1) hw
    refine pa_iconst hE dX3_has_21 (v := 0) (by decide) ?_
    exact pa_zret hE hr (by decide) ⟨rfl, hw⟩ rfl dX3_has_22
  · have hw := Eq.mp (if_neg h1) hw
    refine pa_iload_n hE dX3_has_4 rfl 1 rfl ?_
    refine pa_aload_n hE dX3_has_5 rfl 0 rfl ?_
    refine pg_1_6 (pa_in1 hi0) hE (pa_m1 149 rfl rfl) dX3_has_6 ?_
    refine pa_icmp_ge hE dX3_has_9 (tgt := 21) (by decide) (fun h2 => ?_) (fun h2 => ?_)
    · have hw := Eq.mp (if_pos h2) hw
      refine pa_iconst hE dX3_has_21 (v := 0) (by decide) ?_
      exact pa_zret hE hr (by decide) ⟨rfl, hw⟩ rfl dX3_has_22
    · have hw := Eq.mp (if_neg h2) hw
      refine pa_iload_n hE dX3_has_12 rfl 1 rfl ?_
      refine pa_iconst hE dX3_has_13 (v := 5) (by decide) ?_
      refine pa_icmp_ge hE dX3_has_14 (tgt := 21) (by decide) (fun h3 => ?_) (fun h3 => ?_)
      · have hw := Eq.mp (if_pos h3) hw
        refine pa_iconst hE dX3_has_21 (v := 0) (by decide) ?_
        exact pa_zret hE hr (by decide) ⟨rfl, hw⟩ rfl dX3_has_22
      · have hw := Eq.mp (if_neg h3) hw
        refine pa_iconst hE dX3_has_17 (v := 1) (by decide) ?_
        refine pa_goto hE dX3_has_18 (tgt := 22) (by decide) ?_
        exact pa_zret hE hr (by decide) ⟨rfl, hw⟩ rfl dX3_has_22
def wp_X3_has (u0 : pa_S) (i0 : Nat) (x1 : Int32) (post : Int32 → Prop) : Prop := wb_X3_has_0 u0 i0 x1 post
theorem ct_X3_has (l : Launch) (g : pa_G) (D : va_G) (q : Nat → Nat → Nat) (u0 : pa_S) (i0 : Nat) (x1 : Int32) (post : Int32 → Prop) (hi0 : i0 < 6) (hw : wp_X3_has u0 i0 x1 post) : pa_Ct l yX3_has cX3_has 2 (some .boolean) 2 g D q u0 [.ref (q 1 i0), .int x1] (fun r => some (.int r)) (fun r u => u = u0 ∧ post r) := pa_met rfl rfl (Nat.le_of_ble_eq_true rfl) rfl (fun p e s m args below meth c A hE hr => tb_X3_has_0 hE hr hi0 hw)
def wb_X3_hasLine_0 (u0 : pa_S) (i0 : Nat) (x1 : Int32) (x2 : Int32) (post : Int32 → Prop) : Prop :=
  (wp_X3_has u0 i0 x1 (fun (r1 : Int32) => (if r1 = 0 then post 0 else (if x2 < 0 then post 0 else (if 3 ≤ x2 then post 0 else post 1)))))
set_option maxRecDepth 100000 in
set_option maxHeartbeats 4000000 in
theorem tb_X3_hasLine_0 {p : Program} {l : Launch} {e : Env} {s : State} {m : MethodId} {args : Array Value} {below : List Frame} {meth : Method} {c : Code} {A : Nat → Prop} {D : va_G} {g : pa_G} {q : Nat → Nat → Nat} {u0 : pa_S} {i0 : Nat} {x1 : Int32} {x2 : Int32} {post : Int32 → Prop} (hE : pa_Fx p s m args meth c A D g 3 cX3_hasLine RX3) (hr : meth.sig.returnType = (some .boolean)) (hi0 : i0 < 6) (hw : wb_X3_hasLine_0 u0 i0 x1 x2 post) : pa_At p l e (pa_rm 3) s m args below meth c (MQ below (pa_Qc g D q (fun r => some (.int r)) (fun r u => u = u0 ∧ post r) A) args s 0 0 A) A D g 3 0 0 q u0 0 [(0, .ref (q 1 i0)), (1, .int x1), (2, .int x2)] [] := by
  refine pa_aload_n hE dX3_hasLine_0 rfl 0 rfl ?_
  refine pa_iload_n hE dX3_hasLine_1 rfl 1 rfl ?_
  refine pa_callVri hE (ct_X3_has l g D q u0 i0 x1 _ hi0 hw) cv_RX3_60 (pa_in1 hi0) rfl rfl rfl (pa_hR (by omega) (by decide)) rfl (Nat.le_of_ble_eq_true rfl) dX3_hasLine_2 (fun r1 hw => ?_)
  refine pa_if_eq hE dX3_hasLine_5 (tgt := 21) (by decide) (fun h2 => ?_) (fun h2 => ?_)
  · have hw := Eq.mp (if_pos h2) hw
    refine pa_iconst hE dX3_hasLine_21 (v := 0) (by decide) ?_
    exact pa_zret hE hr (by decide) ⟨rfl, hw⟩ rfl dX3_hasLine_22
  · have hw := Eq.mp (if_neg h2) hw
    refine pa_iload_n hE dX3_hasLine_8 rfl 2 rfl ?_
    refine pa_if_lt hE dX3_hasLine_9 (tgt := 21) (by decide) (fun h3 => ?_) (fun h3 => ?_)
    · have hw := Eq.mp (if_pos h3) hw
      refine pa_iconst hE dX3_hasLine_21 (v := 0) (by decide) ?_
      exact pa_zret hE hr (by decide) ⟨rfl, hw⟩ rfl dX3_hasLine_22
    · have hw := Eq.mp (if_neg h3) hw
      refine pa_iload_n hE dX3_hasLine_12 rfl 2 rfl ?_
      refine pa_iconst hE dX3_hasLine_13 (v := 3) (by decide) ?_
      refine pa_icmp_ge hE dX3_hasLine_14 (tgt := 21) (by decide) (fun h4 => ?_) (fun h4 => ?_)
      · have hw := Eq.mp (if_pos h4) hw
        refine pa_iconst hE dX3_hasLine_21 (v := 0) (by decide) ?_
        exact pa_zret hE hr (by decide) ⟨rfl, hw⟩ rfl dX3_hasLine_22
      · have hw := Eq.mp (if_neg h4) hw
        refine pa_iconst hE dX3_hasLine_17 (v := 1) (by decide) ?_
        refine pa_goto hE dX3_hasLine_18 (tgt := 22) (by decide) ?_
        exact pa_zret hE hr (by decide) ⟨rfl, hw⟩ rfl dX3_hasLine_22
def wp_X3_hasLine (u0 : pa_S) (i0 : Nat) (x1 : Int32) (x2 : Int32) (post : Int32 → Prop) : Prop := wb_X3_hasLine_0 u0 i0 x1 x2 post
theorem ct_X3_hasLine (l : Launch) (g : pa_G) (D : va_G) (q : Nat → Nat → Nat) (u0 : pa_S) (i0 : Nat) (x1 : Int32) (x2 : Int32) (post : Int32 → Prop) (hi0 : i0 < 6) (hw : wp_X3_hasLine u0 i0 x1 x2 post) : pa_Ct l yX3_hasLine cX3_hasLine 3 (some .boolean) 3 g D q u0 [.ref (q 1 i0), .int x1, .int x2] (fun r => some (.int r)) (fun r u => u = u0 ∧ post r) := pa_met rfl rfl (Nat.le_of_ble_eq_true rfl) rfl (fun p e s m args below meth c A hE hr => tb_X3_hasLine_0 hE hr hi0 hw)
def wb_X3_putLength_0 (u0 : pa_S) (i0 : Nat) (x1 : Int32) (x2 : Int32) (x3 : Int32) (post : pa_S → Prop) : Prop :=
  (wp_X3_hasLine u0 i0 x1 x2 (fun (r1 : Int32) => (if r1 = 0 then post u0 else (vp_in ((x1 * 3) + x2) 15) ∧ ∀ u4 : pa_S, u4 = pa_sA u0 5 i0 (upd (pa_A u0 5 i0) ((x1 * 3) + x2).toNatClampNeg x3) → post u4)))
set_option maxRecDepth 100000 in
set_option maxHeartbeats 4000000 in
theorem tb_X3_putLength_0 {p : Program} {l : Launch} {e : Env} {s : State} {m : MethodId} {args : Array Value} {below : List Frame} {meth : Method} {c : Code} {A : Nat → Prop} {D : va_G} {g : pa_G} {q : Nat → Nat → Nat} {u0 : pa_S} {i0 : Nat} {x1 : Int32} {x2 : Int32} {x3 : Int32} {post : pa_S → Prop} (hE : pa_Fx p s m args meth c A D g 4 cX3_putLength RX3) (hr : meth.sig.returnType = none) (hi0 : i0 < 6) (hw : wb_X3_putLength_0 u0 i0 x1 x2 x3 post) : pa_At p l e (pa_rm 4) s m args below meth c (MQ below (pa_Qc g D q (fun (_ : Unit) => none) (fun (_ : Unit) u => post u) A) args s 0 0 A) A D g 4 0 0 q u0 0 [(0, .ref (q 1 i0)), (1, .int x1), (2, .int x2), (3, .int x3)] [] := by
  refine pa_aload_n hE dX3_putLength_0 rfl 0 rfl ?_
  refine pa_iload_n hE dX3_putLength_1 rfl 1 rfl ?_
  refine pa_iload_n hE dX3_putLength_2 rfl 2 rfl ?_
  refine pa_callVri hE (ct_X3_hasLine l g D q u0 i0 x1 x2 _ hi0 hw) cv_RX3_68 (pa_in1 hi0) rfl rfl rfl (pa_hR (by omega) (by decide)) rfl (Nat.le_of_ble_eq_true rfl) dX3_putLength_3 (fun r1 hw => ?_)
  refine pa_if_eq hE dX3_putLength_6 (tgt := 20) (by decide) (fun h2 => ?_) (fun h2 => ?_)
  · have hw := Eq.mp (if_pos h2) hw
    exact pa_vret (r := ()) hE hr hw rfl dX3_putLength_20
  · have hw := Eq.mp (if_neg h2) hw
    refine pa_aload_n hE dX3_putLength_9 rfl 0 rfl ?_
    refine pg_1_3 (pa_in1 hi0) hE (pa_m1 145 rfl rfl) dX3_putLength_10 ?_
    refine pa_iload_n hE dX3_putLength_13 rfl 1 rfl ?_
    refine pa_iconst hE dX3_putLength_14 (v := 3) (by decide) ?_
    refine pa_imul hE dX3_putLength_15 ?_
    refine pa_iload_n hE dX3_putLength_16 rfl 2 rfl ?_
    refine pa_iadd hE dX3_putLength_17 ?_
    refine pa_iload_n hE dX3_putLength_18 rfl 3 rfl ?_
    obtain ⟨h3, hw⟩ := hw
    refine ps_5 (pa_in5 hi0) hE h3 dX3_putLength_19 (fun u4 eu4 => ?_)
    have hw := hw u4 eu4
    exact pa_vret (r := ()) hE hr hw rfl dX3_putLength_20
def wp_X3_putLength (u0 : pa_S) (i0 : Nat) (x1 : Int32) (x2 : Int32) (x3 : Int32) (post : pa_S → Prop) : Prop := wb_X3_putLength_0 u0 i0 x1 x2 x3 post
theorem ct_X3_putLength (l : Launch) (g : pa_G) (D : va_G) (q : Nat → Nat → Nat) (u0 : pa_S) (i0 : Nat) (x1 : Int32) (x2 : Int32) (x3 : Int32) (post : pa_S → Prop) (hi0 : i0 < 6) (hw : wp_X3_putLength u0 i0 x1 x2 x3 post) : pa_Ct l yX3_putLength cX3_putLength 4 none 4 g D q u0 [.ref (q 1 i0), .int x1, .int x2, .int x3] (fun (_ : Unit) => none) (fun (_ : Unit) u => post u) := pa_met rfl rfl (Nat.le_of_ble_eq_true rfl) rfl (fun p e s m args below meth c A hE hr => tb_X3_putLength_0 hE hr hi0 hw)
def wb_X3_admit_46 (k46 : pa_S → Int32 → Int32 → Int32 → Prop) (u0 : pa_S) (i0 : Nat) (x3 : Int32) (x4 : Int32) (x5 : Int32) (post : Int32 → pa_S → Prop) : Prop :=
  (if 3 ≤ x5 then post x4 u0 else (wp_X3_putLength u0 i0 x4 x5 x3 (fun (u10 : pa_S) => ∀ v11 : Int32, v11 = x5 + 1 → k46 u10 x3 x4 v11)))
set_option maxRecDepth 100000 in
set_option maxHeartbeats 4000000 in
theorem tb_X3_admit_46 {p : Program} {l : Launch} {e : Env} {s : State} {m : MethodId} {args : Array Value} {below : List Frame} {meth : Method} {c : Code} {A : Nat → Prop} {D : va_G} {g : pa_G} {q : Nat → Nat → Nat} {k46 : pa_S → Int32 → Int32 → Int32 → Prop} {u0 : pa_S} {i0 : Nat} {x3 : Int32} {x4 : Int32} {x5 : Int32} {post : Int32 → pa_S → Prop} (hE : pa_Fx p s m args meth c A D g 6 cX3_admit RX3) (hr : meth.sig.returnType = (some .int)) (hi0 : i0 < 6) (hk46 : ∀ (u : pa_S)  (x3 : Int32) (x4 : Int32) (x5 : Int32), k46 u x3 x4 x5 → pa_At p l e (pa_rm 5) s m args below meth c (MQ below (pa_Qc g D q (fun r => some (.int r)) post A) args s 0 0 A) A D g 6 0 0 q u 46 [(0, .ref (q 1 i0)), (3, .int x3), (4, .int x4), (5, .int x5)] []) (hw : wb_X3_admit_46 k46 u0 i0 x3 x4 x5 post) : pa_At p l e (pa_rm 5) s m args below meth c (MQ below (pa_Qc g D q (fun r => some (.int r)) post A) args s 0 0 A) A D g 6 0 0 q u0 46 [(0, .ref (q 1 i0)), (3, .int x3), (4, .int x4), (5, .int x5)] [] := by
  refine pa_iload hE dX3_admit_46 3 rfl ?_
  refine pa_iconst hE dX3_admit_48 (v := 3) (by decide) ?_
  refine pa_icmp_ge hE dX3_admit_49 (tgt := 67) (by decide) (fun h8 => ?_) (fun h8 => ?_)
  · have hw := Eq.mp (if_pos h8) hw
    refine pa_iload hE dX3_admit_67 2 rfl ?_
    exact pa_iret hE hr hw rfl dX3_admit_69
  · have hw := Eq.mp (if_neg h8) hw
    refine pa_aload_n hE dX3_admit_52 rfl 0 rfl ?_
    refine pa_iload hE dX3_admit_53 2 rfl ?_
    refine pa_iload hE dX3_admit_55 3 rfl ?_
    refine pa_iload_n hE dX3_admit_57 rfl 1 rfl ?_
    refine pa_callVv hE (ct_X3_putLength l g D q u0 i0 x4 x5 x3 _ hi0 hw) cv_RX3_64 (pa_in1 hi0) rfl rfl rfl (pa_hR (by omega) (by decide)) rfl (Nat.le_of_ble_eq_true rfl) dX3_admit_58 (fun u10 hw => ?_)
    refine pa_iinc hE dX3_admit_61 (v := 1) 3 rfl (by decide) (by decide) (lvr := [(0, .ref (q 1 i0)), (3, .int x3), (4, .int x4)]) rfl (fun v11 ev11 => ?_)
    have hw := hw v11 ev11
    refine pa_goto hE dX3_admit_64 (tgt := 46) (by decide) ?_
    exact pa_sub [1, 2, 3, 0] rfl (hk46 u10 x3 x4 v11 hw)
def wl_X3_admit_46 (i0 : Nat) (post : Int32 → pa_S → Prop) : Nat → pa_S → Int32 → Int32 → Int32 → Prop
  | 0, _, _, _, _ => False
  | n + 1, u0, x3, x4, x5 => wb_X3_admit_46 (fun u0 x3 x4 x5 => wl_X3_admit_46 i0 post n u0 x3 x4 x5) u0 i0 x3 x4 x5 post
set_option maxRecDepth 100000 in
set_option maxHeartbeats 4000000 in
theorem tl_X3_admit_46 {p : Program} {l : Launch} {e : Env} {s : State} {m : MethodId} {args : Array Value} {below : List Frame} {meth : Method} {c : Code} {A : Nat → Prop} {D : va_G} {g : pa_G} {q : Nat → Nat → Nat} {i0 : Nat} {post : Int32 → pa_S → Prop} (hE : pa_Fx p s m args meth c A D g 6 cX3_admit RX3) (hr : meth.sig.returnType = (some .int)) (hi0 : i0 < 6) : ∀ (n : Nat) (u0 : pa_S) (x3 : Int32) (x4 : Int32) (x5 : Int32), wl_X3_admit_46 i0 post n u0 x3 x4 x5 → pa_At p l e (pa_rm 5) s m args below meth c (MQ below (pa_Qc g D q (fun r => some (.int r)) post A) args s 0 0 A) A D g 6 0 0 q u0 46 [(0, .ref (q 1 i0)), (3, .int x3), (4, .int x4), (5, .int x5)] []
  | 0, _, _, _, _, hw => absurd hw (by simp only [wl_X3_admit_46]; exact fun z => z)
  | n + 1, u0, x3, x4, x5, hw => tb_X3_admit_46 hE hr hi0 (fun u0 x3 x4 x5  hw1 => tl_X3_admit_46 hE hr hi0 n u0 x3 x4 x5  hw1) hw
def wb_X3_admit_0 (u0 : pa_S) (i0 : Nat) (x1 : Int32) (x2 : Int32) (x3 : Int32) (post : Int32 → pa_S → Prop) : Prop :=
  (if (pa_I u0 1 i0 6) < 5 then ∀ v2 : Int32, v2 = (pa_I u0 1 i0 6) → ∀ u3 : pa_S, u3 = pa_sI u0 1 i0 6 ((pa_I u0 1 i0 6) + 1) → (vp_in v2 5) ∧ ∀ u5 : pa_S, u5 = pa_sA u3 2 i0 (upd (pa_A u3 2 i0) v2.toNatClampNeg x1) → (vp_in v2 5) ∧ ∀ u7 : pa_S, u7 = pa_sA u5 3 i0 (upd (pa_A u5 3 i0) v2.toNatClampNeg x2) → wl_X3_admit_46 i0 post 5000 u7 x3 v2 0 else post (-4 : Int32) u0)
set_option maxRecDepth 100000 in
set_option maxHeartbeats 4000000 in
theorem tb_X3_admit_0 {p : Program} {l : Launch} {e : Env} {s : State} {m : MethodId} {args : Array Value} {below : List Frame} {meth : Method} {c : Code} {A : Nat → Prop} {D : va_G} {g : pa_G} {q : Nat → Nat → Nat} {u0 : pa_S} {i0 : Nat} {x1 : Int32} {x2 : Int32} {x3 : Int32} {post : Int32 → pa_S → Prop} (hE : pa_Fx p s m args meth c A D g 6 cX3_admit RX3) (hr : meth.sig.returnType = (some .int)) (hi0 : i0 < 6) (hw : wb_X3_admit_0 u0 i0 x1 x2 x3 post) : pa_At p l e (pa_rm 5) s m args below meth c (MQ below (pa_Qc g D q (fun r => some (.int r)) post A) args s 0 0 A) A D g 6 0 0 q u0 0 [(0, .ref (q 1 i0)), (1, .int x1), (2, .int x2), (3, .int x3)] [] := by
  refine pa_aload_n hE dX3_admit_0 rfl 0 rfl ?_
  refine pg_1_6 (pa_in1 hi0) hE (pa_m1 149 rfl rfl) dX3_admit_1 ?_
  refine pa_iconst hE dX3_admit_4 (v := 5) (by decide) ?_
  refine pa_icmp_lt hE dX3_admit_5 (tgt := 11) (by decide) (fun h1 => ?_) (fun h1 => ?_)
  · have hw := Eq.mp (if_pos h1) hw
    refine pa_aload_n hE dX3_admit_11 rfl 0 rfl ?_
    refine pg_1_6 (pa_in1 hi0) hE (pa_m1 149 rfl rfl) dX3_admit_12 ?_
    refine pa_namei (fun v2 ev2 => ?_)
    have hw := hw v2 ev2
    refine pa_istore hE dX3_admit_15 (by decide) (lvr := [(0, .ref (q 1 i0)), (1, .int x1), (2, .int x2), (3, .int x3)]) rfl ?_
    refine pa_aload_n hE dX3_admit_17 rfl 1 rfl ?_
    refine pa_dup hE dX3_admit_18 rfl ?_
    refine pg_1_6 (pa_in1 hi0) hE (pa_m1 149 rfl rfl) dX3_admit_19 ?_
    refine pa_iconst hE dX3_admit_22 (v := 1) (by decide) ?_
    refine pa_iadd hE dX3_admit_23 ?_
    refine pp_1_6 (pa_in1 hi0) hE (pa_m1 149 rfl rfl) dX3_admit_24 (fun u3 eu3 => ?_)
    have hw := hw u3 eu3
    refine pa_aload_n hE dX3_admit_27 rfl 1 rfl ?_
    refine pg_1_0 (pa_in1 hi0) hE (pa_m1 142 rfl rfl) dX3_admit_28 ?_
    refine pa_iload hE dX3_admit_31 0 rfl ?_
    refine pa_iload_n hE dX3_admit_33 rfl 2 rfl ?_
    obtain ⟨h4, hw⟩ := hw
    refine ps_2 (pa_in2 hi0) hE h4 dX3_admit_34 (fun u5 eu5 => ?_)
    have hw := hw u5 eu5
    refine pa_aload_n hE dX3_admit_35 rfl 1 rfl ?_
    refine pg_1_1 (pa_in1 hi0) hE (pa_m1 143 rfl rfl) dX3_admit_36 ?_
    refine pa_iload hE dX3_admit_39 0 rfl ?_
    refine pa_iload_n hE dX3_admit_41 rfl 3 rfl ?_
    obtain ⟨h6, hw⟩ := hw
    refine ps_3 (pa_in3 hi0) hE h6 dX3_admit_42 (fun u7 eu7 => ?_)
    have hw := hw u7 eu7
    refine pa_iconst hE dX3_admit_43 (v := 0) (by decide) ?_
    refine pa_istore hE dX3_admit_44 (by decide) (lvr := [(4, .int v2), (0, .ref (q 1 i0)), (1, .int x1), (2, .int x2), (3, .int x3)]) rfl ?_
    exact pa_sub [2, 5, 1, 0] rfl (tl_X3_admit_46 hE hr hi0 5000 u7 x3 v2 0 hw)
  · have hw := Eq.mp (if_neg h1) hw
    refine pa_bipush hE dX3_admit_8 (v := (-4 : Int32)) (by decide) ?_
    exact pa_iret hE hr hw rfl dX3_admit_10
def wp_X3_admit (u0 : pa_S) (i0 : Nat) (x1 : Int32) (x2 : Int32) (x3 : Int32) (post : Int32 → pa_S → Prop) : Prop := wb_X3_admit_0 u0 i0 x1 x2 x3 post
theorem ct_X3_admit (l : Launch) (g : pa_G) (D : va_G) (q : Nat → Nat → Nat) (u0 : pa_S) (i0 : Nat) (x1 : Int32) (x2 : Int32) (x3 : Int32) (post : Int32 → pa_S → Prop) (hi0 : i0 < 6) (hw : wp_X3_admit u0 i0 x1 x2 x3 post) : pa_Ct l yX3_admit cX3_admit 6 (some .int) 5 g D q u0 [.ref (q 1 i0), .int x1, .int x2, .int x3] (fun r => some (.int r)) post := pa_met rfl rfl (Nat.le_of_ble_eq_true rfl) rfl (fun p e s m args below meth c A hE hr => tb_X3_admit_0 hE hr hi0 hw)
def wb_X3_kindOf_0 (u0 : pa_S) (i0 : Nat) (x1 : Int32) (post : Int32 → Prop) : Prop :=
  (wp_X3_has u0 i0 x1 (fun (r1 : Int32) => (if r1 = 0 then post 0 else (vp_in x1 5) ∧ post (pa_A u0 2 i0 x1.toNatClampNeg))))
set_option maxRecDepth 100000 in
set_option maxHeartbeats 4000000 in
theorem tb_X3_kindOf_0 {p : Program} {l : Launch} {e : Env} {s : State} {m : MethodId} {args : Array Value} {below : List Frame} {meth : Method} {c : Code} {A : Nat → Prop} {D : va_G} {g : pa_G} {q : Nat → Nat → Nat} {u0 : pa_S} {i0 : Nat} {x1 : Int32} {post : Int32 → Prop} (hE : pa_Fx p s m args meth c A D g 2 cX3_kindOf RX3) (hr : meth.sig.returnType = (some .int)) (hi0 : i0 < 6) (hw : wb_X3_kindOf_0 u0 i0 x1 post) : pa_At p l e (pa_rm 3) s m args below meth c (MQ below (pa_Qc g D q (fun r => some (.int r)) (fun r u => u = u0 ∧ post r) A) args s 0 0 A) A D g 2 0 0 q u0 0 [(0, .ref (q 1 i0)), (1, .int x1)] [] := by
  refine pa_aload_n hE dX3_kindOf_0 rfl 0 rfl ?_
  refine pa_iload_n hE dX3_kindOf_1 rfl 1 rfl ?_
  refine pa_callVri hE (ct_X3_has l g D q u0 i0 x1 _ hi0 hw) cv_RX3_60 (pa_in1 hi0) rfl rfl rfl (pa_hR (by omega) (by decide)) rfl (Nat.le_of_ble_eq_true rfl) dX3_kindOf_2 (fun r1 hw => ?_)
  refine pa_if_eq hE dX3_kindOf_5 (tgt := 17) (by decide) (fun h2 => ?_) (fun h2 => ?_)
  · have hw := Eq.mp (if_pos h2) hw
    refine pa_iconst hE dX3_kindOf_17 (v := 0) (by decide) ?_
    exact pa_iret hE hr ⟨rfl, hw⟩ rfl dX3_kindOf_18
  · have hw := Eq.mp (if_neg h2) hw
    refine pa_aload_n hE dX3_kindOf_8 rfl 0 rfl ?_
    refine pg_1_0 (pa_in1 hi0) hE (pa_m1 142 rfl rfl) dX3_kindOf_9 ?_
    refine pa_iload_n hE dX3_kindOf_12 rfl 1 rfl ?_
    obtain ⟨h3, hw⟩ := hw
    refine pl_2 (pa_in2 hi0) hE h3 dX3_kindOf_13 ?_
    refine pa_goto hE dX3_kindOf_14 (tgt := 18) (by decide) ?_
    exact pa_iret hE hr ⟨rfl, hw⟩ rfl dX3_kindOf_18
def wp_X3_kindOf (u0 : pa_S) (i0 : Nat) (x1 : Int32) (post : Int32 → Prop) : Prop := wb_X3_kindOf_0 u0 i0 x1 post
theorem ct_X3_kindOf (l : Launch) (g : pa_G) (D : va_G) (q : Nat → Nat → Nat) (u0 : pa_S) (i0 : Nat) (x1 : Int32) (post : Int32 → Prop) (hi0 : i0 < 6) (hw : wp_X3_kindOf u0 i0 x1 post) : pa_Ct l yX3_kindOf cX3_kindOf 2 (some .int) 3 g D q u0 [.ref (q 1 i0), .int x1] (fun r => some (.int r)) (fun r u => u = u0 ∧ post r) := pa_met rfl rfl (Nat.le_of_ble_eq_true rfl) rfl (fun p e s m args below meth c A hE hr => tb_X3_kindOf_0 hE hr hi0 hw)
def wb_X3_vOf_0 (u0 : pa_S) (i0 : Nat) (x1 : Int32) (post : Int32 → Prop) : Prop :=
  (wp_X3_has u0 i0 x1 (fun (r1 : Int32) => (if r1 = 0 then post 0 else (vp_in x1 5) ∧ post (pa_A u0 3 i0 x1.toNatClampNeg))))
set_option maxRecDepth 100000 in
set_option maxHeartbeats 4000000 in
theorem tb_X3_vOf_0 {p : Program} {l : Launch} {e : Env} {s : State} {m : MethodId} {args : Array Value} {below : List Frame} {meth : Method} {c : Code} {A : Nat → Prop} {D : va_G} {g : pa_G} {q : Nat → Nat → Nat} {u0 : pa_S} {i0 : Nat} {x1 : Int32} {post : Int32 → Prop} (hE : pa_Fx p s m args meth c A D g 2 cX3_vOf RX3) (hr : meth.sig.returnType = (some .int)) (hi0 : i0 < 6) (hw : wb_X3_vOf_0 u0 i0 x1 post) : pa_At p l e (pa_rm 3) s m args below meth c (MQ below (pa_Qc g D q (fun r => some (.int r)) (fun r u => u = u0 ∧ post r) A) args s 0 0 A) A D g 2 0 0 q u0 0 [(0, .ref (q 1 i0)), (1, .int x1)] [] := by
  refine pa_aload_n hE dX3_vOf_0 rfl 0 rfl ?_
  refine pa_iload_n hE dX3_vOf_1 rfl 1 rfl ?_
  refine pa_callVri hE (ct_X3_has l g D q u0 i0 x1 _ hi0 hw) cv_RX3_60 (pa_in1 hi0) rfl rfl rfl (pa_hR (by omega) (by decide)) rfl (Nat.le_of_ble_eq_true rfl) dX3_vOf_2 (fun r1 hw => ?_)
  refine pa_if_eq hE dX3_vOf_5 (tgt := 17) (by decide) (fun h2 => ?_) (fun h2 => ?_)
  · have hw := Eq.mp (if_pos h2) hw
    refine pa_iconst hE dX3_vOf_17 (v := 0) (by decide) ?_
    exact pa_iret hE hr ⟨rfl, hw⟩ rfl dX3_vOf_18
  · have hw := Eq.mp (if_neg h2) hw
    refine pa_aload_n hE dX3_vOf_8 rfl 0 rfl ?_
    refine pg_1_1 (pa_in1 hi0) hE (pa_m1 143 rfl rfl) dX3_vOf_9 ?_
    refine pa_iload_n hE dX3_vOf_12 rfl 1 rfl ?_
    obtain ⟨h3, hw⟩ := hw
    refine pl_3 (pa_in3 hi0) hE h3 dX3_vOf_13 ?_
    refine pa_goto hE dX3_vOf_14 (tgt := 18) (by decide) ?_
    exact pa_iret hE hr ⟨rfl, hw⟩ rfl dX3_vOf_18
def wp_X3_vOf (u0 : pa_S) (i0 : Nat) (x1 : Int32) (post : Int32 → Prop) : Prop := wb_X3_vOf_0 u0 i0 x1 post
theorem ct_X3_vOf (l : Launch) (g : pa_G) (D : va_G) (q : Nat → Nat → Nat) (u0 : pa_S) (i0 : Nat) (x1 : Int32) (post : Int32 → Prop) (hi0 : i0 < 6) (hw : wp_X3_vOf u0 i0 x1 post) : pa_Ct l yX3_vOf cX3_vOf 2 (some .int) 3 g D q u0 [.ref (q 1 i0), .int x1] (fun r => some (.int r)) (fun r u => u = u0 ∧ post r) := pa_met rfl rfl (Nat.le_of_ble_eq_true rfl) rfl (fun p e s m args below meth c A hE hr => tb_X3_vOf_0 hE hr hi0 hw)
def wb_X3_putV_0 (u0 : pa_S) (i0 : Nat) (x1 : Int32) (x2 : Int32) (post : pa_S → Prop) : Prop :=
  (wp_X3_has u0 i0 x1 (fun (r1 : Int32) => (if r1 = 0 then post u0 else (vp_in x1 5) ∧ ∀ u4 : pa_S, u4 = pa_sA u0 3 i0 (upd (pa_A u0 3 i0) x1.toNatClampNeg x2) → post u4)))
set_option maxRecDepth 100000 in
set_option maxHeartbeats 4000000 in
theorem tb_X3_putV_0 {p : Program} {l : Launch} {e : Env} {s : State} {m : MethodId} {args : Array Value} {below : List Frame} {meth : Method} {c : Code} {A : Nat → Prop} {D : va_G} {g : pa_G} {q : Nat → Nat → Nat} {u0 : pa_S} {i0 : Nat} {x1 : Int32} {x2 : Int32} {post : pa_S → Prop} (hE : pa_Fx p s m args meth c A D g 3 cX3_putV RX3) (hr : meth.sig.returnType = none) (hi0 : i0 < 6) (hw : wb_X3_putV_0 u0 i0 x1 x2 post) : pa_At p l e (pa_rm 3) s m args below meth c (MQ below (pa_Qc g D q (fun (_ : Unit) => none) (fun (_ : Unit) u => post u) A) args s 0 0 A) A D g 3 0 0 q u0 0 [(0, .ref (q 1 i0)), (1, .int x1), (2, .int x2)] [] := by
  refine pa_aload_n hE dX3_putV_0 rfl 0 rfl ?_
  refine pa_iload_n hE dX3_putV_1 rfl 1 rfl ?_
  refine pa_callVri hE (ct_X3_has l g D q u0 i0 x1 _ hi0 hw) cv_RX3_60 (pa_in1 hi0) rfl rfl rfl (pa_hR (by omega) (by decide)) rfl (Nat.le_of_ble_eq_true rfl) dX3_putV_2 (fun r1 hw => ?_)
  refine pa_if_eq hE dX3_putV_5 (tgt := 15) (by decide) (fun h2 => ?_) (fun h2 => ?_)
  · have hw := Eq.mp (if_pos h2) hw
    exact pa_vret (r := ()) hE hr hw rfl dX3_putV_15
  · have hw := Eq.mp (if_neg h2) hw
    refine pa_aload_n hE dX3_putV_8 rfl 0 rfl ?_
    refine pg_1_1 (pa_in1 hi0) hE (pa_m1 143 rfl rfl) dX3_putV_9 ?_
    refine pa_iload_n hE dX3_putV_12 rfl 1 rfl ?_
    refine pa_iload_n hE dX3_putV_13 rfl 2 rfl ?_
    obtain ⟨h3, hw⟩ := hw
    refine ps_3 (pa_in3 hi0) hE h3 dX3_putV_14 (fun u4 eu4 => ?_)
    have hw := hw u4 eu4
    exact pa_vret (r := ()) hE hr hw rfl dX3_putV_15
def wp_X3_putV (u0 : pa_S) (i0 : Nat) (x1 : Int32) (x2 : Int32) (post : pa_S → Prop) : Prop := wb_X3_putV_0 u0 i0 x1 x2 post
theorem ct_X3_putV (l : Launch) (g : pa_G) (D : va_G) (q : Nat → Nat → Nat) (u0 : pa_S) (i0 : Nat) (x1 : Int32) (x2 : Int32) (post : pa_S → Prop) (hi0 : i0 < 6) (hw : wp_X3_putV u0 i0 x1 x2 post) : pa_Ct l yX3_putV cX3_putV 3 none 3 g D q u0 [.ref (q 1 i0), .int x1, .int x2] (fun (_ : Unit) => none) (fun (_ : Unit) u => post u) := pa_met rfl rfl (Nat.le_of_ble_eq_true rfl) rfl (fun p e s m args below meth c A hE hr => tb_X3_putV_0 hE hr hi0 hw)
def wb_X3_shookOf_0 (u0 : pa_S) (i0 : Nat) (x1 : Int32) (post : Int32 → Prop) : Prop :=
  (wp_X3_has u0 i0 x1 (fun (r1 : Int32) => (if r1 = 0 then post 0 else (vp_in x1 5) ∧ post (pa_A u0 4 i0 x1.toNatClampNeg))))
set_option maxRecDepth 100000 in
set_option maxHeartbeats 4000000 in
theorem tb_X3_shookOf_0 {p : Program} {l : Launch} {e : Env} {s : State} {m : MethodId} {args : Array Value} {below : List Frame} {meth : Method} {c : Code} {A : Nat → Prop} {D : va_G} {g : pa_G} {q : Nat → Nat → Nat} {u0 : pa_S} {i0 : Nat} {x1 : Int32} {post : Int32 → Prop} (hE : pa_Fx p s m args meth c A D g 2 cX3_shookOf RX3) (hr : meth.sig.returnType = (some .int)) (hi0 : i0 < 6) (hw : wb_X3_shookOf_0 u0 i0 x1 post) : pa_At p l e (pa_rm 3) s m args below meth c (MQ below (pa_Qc g D q (fun r => some (.int r)) (fun r u => u = u0 ∧ post r) A) args s 0 0 A) A D g 2 0 0 q u0 0 [(0, .ref (q 1 i0)), (1, .int x1)] [] := by
  refine pa_aload_n hE dX3_shookOf_0 rfl 0 rfl ?_
  refine pa_iload_n hE dX3_shookOf_1 rfl 1 rfl ?_
  refine pa_callVri hE (ct_X3_has l g D q u0 i0 x1 _ hi0 hw) cv_RX3_60 (pa_in1 hi0) rfl rfl rfl (pa_hR (by omega) (by decide)) rfl (Nat.le_of_ble_eq_true rfl) dX3_shookOf_2 (fun r1 hw => ?_)
  refine pa_if_eq hE dX3_shookOf_5 (tgt := 17) (by decide) (fun h2 => ?_) (fun h2 => ?_)
  · have hw := Eq.mp (if_pos h2) hw
    refine pa_iconst hE dX3_shookOf_17 (v := 0) (by decide) ?_
    exact pa_iret hE hr ⟨rfl, hw⟩ rfl dX3_shookOf_18
  · have hw := Eq.mp (if_neg h2) hw
    refine pa_aload_n hE dX3_shookOf_8 rfl 0 rfl ?_
    refine pg_1_2 (pa_in1 hi0) hE (pa_m1 144 rfl rfl) dX3_shookOf_9 ?_
    refine pa_iload_n hE dX3_shookOf_12 rfl 1 rfl ?_
    obtain ⟨h3, hw⟩ := hw
    refine pl_4 (pa_in4 hi0) hE h3 dX3_shookOf_13 ?_
    refine pa_goto hE dX3_shookOf_14 (tgt := 18) (by decide) ?_
    exact pa_iret hE hr ⟨rfl, hw⟩ rfl dX3_shookOf_18
def wp_X3_shookOf (u0 : pa_S) (i0 : Nat) (x1 : Int32) (post : Int32 → Prop) : Prop := wb_X3_shookOf_0 u0 i0 x1 post
theorem ct_X3_shookOf (l : Launch) (g : pa_G) (D : va_G) (q : Nat → Nat → Nat) (u0 : pa_S) (i0 : Nat) (x1 : Int32) (post : Int32 → Prop) (hi0 : i0 < 6) (hw : wp_X3_shookOf u0 i0 x1 post) : pa_Ct l yX3_shookOf cX3_shookOf 2 (some .int) 3 g D q u0 [.ref (q 1 i0), .int x1] (fun r => some (.int r)) (fun r u => u = u0 ∧ post r) := pa_met rfl rfl (Nat.le_of_ble_eq_true rfl) rfl (fun p e s m args below meth c A hE hr => tb_X3_shookOf_0 hE hr hi0 hw)
def wb_X3_lengthOf_0 (u0 : pa_S) (i0 : Nat) (x1 : Int32) (x2 : Int32) (post : Int32 → Prop) : Prop :=
  (wp_X3_hasLine u0 i0 x1 x2 (fun (r1 : Int32) => (if r1 = 0 then post 0 else (vp_in ((x1 * 3) + x2) 15) ∧ post (pa_A u0 5 i0 ((x1 * 3) + x2).toNatClampNeg))))
set_option maxRecDepth 100000 in
set_option maxHeartbeats 4000000 in
theorem tb_X3_lengthOf_0 {p : Program} {l : Launch} {e : Env} {s : State} {m : MethodId} {args : Array Value} {below : List Frame} {meth : Method} {c : Code} {A : Nat → Prop} {D : va_G} {g : pa_G} {q : Nat → Nat → Nat} {u0 : pa_S} {i0 : Nat} {x1 : Int32} {x2 : Int32} {post : Int32 → Prop} (hE : pa_Fx p s m args meth c A D g 3 cX3_lengthOf RX3) (hr : meth.sig.returnType = (some .int)) (hi0 : i0 < 6) (hw : wb_X3_lengthOf_0 u0 i0 x1 x2 post) : pa_At p l e (pa_rm 4) s m args below meth c (MQ below (pa_Qc g D q (fun r => some (.int r)) (fun r u => u = u0 ∧ post r) A) args s 0 0 A) A D g 3 0 0 q u0 0 [(0, .ref (q 1 i0)), (1, .int x1), (2, .int x2)] [] := by
  refine pa_aload_n hE dX3_lengthOf_0 rfl 0 rfl ?_
  refine pa_iload_n hE dX3_lengthOf_1 rfl 1 rfl ?_
  refine pa_iload_n hE dX3_lengthOf_2 rfl 2 rfl ?_
  refine pa_callVri hE (ct_X3_hasLine l g D q u0 i0 x1 x2 _ hi0 hw) cv_RX3_68 (pa_in1 hi0) rfl rfl rfl (pa_hR (by omega) (by decide)) rfl (Nat.le_of_ble_eq_true rfl) dX3_lengthOf_3 (fun r1 hw => ?_)
  refine pa_if_eq hE dX3_lengthOf_6 (tgt := 22) (by decide) (fun h2 => ?_) (fun h2 => ?_)
  · have hw := Eq.mp (if_pos h2) hw
    refine pa_iconst hE dX3_lengthOf_22 (v := 0) (by decide) ?_
    exact pa_iret hE hr ⟨rfl, hw⟩ rfl dX3_lengthOf_23
  · have hw := Eq.mp (if_neg h2) hw
    refine pa_aload_n hE dX3_lengthOf_9 rfl 0 rfl ?_
    refine pg_1_3 (pa_in1 hi0) hE (pa_m1 145 rfl rfl) dX3_lengthOf_10 ?_
    refine pa_iload_n hE dX3_lengthOf_13 rfl 1 rfl ?_
    refine pa_iconst hE dX3_lengthOf_14 (v := 3) (by decide) ?_
    refine pa_imul hE dX3_lengthOf_15 ?_
    refine pa_iload_n hE dX3_lengthOf_16 rfl 2 rfl ?_
    refine pa_iadd hE dX3_lengthOf_17 ?_
    obtain ⟨h3, hw⟩ := hw
    refine pl_5 (pa_in5 hi0) hE h3 dX3_lengthOf_18 ?_
    refine pa_goto hE dX3_lengthOf_19 (tgt := 23) (by decide) ?_
    exact pa_iret hE hr ⟨rfl, hw⟩ rfl dX3_lengthOf_23
def wp_X3_lengthOf (u0 : pa_S) (i0 : Nat) (x1 : Int32) (x2 : Int32) (post : Int32 → Prop) : Prop := wb_X3_lengthOf_0 u0 i0 x1 x2 post
theorem ct_X3_lengthOf (l : Launch) (g : pa_G) (D : va_G) (q : Nat → Nat → Nat) (u0 : pa_S) (i0 : Nat) (x1 : Int32) (x2 : Int32) (post : Int32 → Prop) (hi0 : i0 < 6) (hw : wp_X3_lengthOf u0 i0 x1 x2 post) : pa_Ct l yX3_lengthOf cX3_lengthOf 3 (some .int) 4 g D q u0 [.ref (q 1 i0), .int x1, .int x2] (fun r => some (.int r)) (fun r u => u = u0 ∧ post r) := pa_met rfl rfl (Nat.le_of_ble_eq_true rfl) rfl (fun p e s m args below meth c A hE hr => tb_X3_lengthOf_0 hE hr hi0 hw)
def wb_X3_hasPart_0 (u0 : pa_S) (i0 : Nat) (x1 : Int32) (x2 : Int32) (post : Int32 → Prop) : Prop :=
  (wp_X3_has u0 i0 x1 (fun (r1 : Int32) => (if r1 = 0 then post 0 else (if x2 < 0 then post 0 else (if 4 ≤ x2 then post 0 else post 1)))))
set_option maxRecDepth 100000 in
set_option maxHeartbeats 4000000 in
theorem tb_X3_hasPart_0 {p : Program} {l : Launch} {e : Env} {s : State} {m : MethodId} {args : Array Value} {below : List Frame} {meth : Method} {c : Code} {A : Nat → Prop} {D : va_G} {g : pa_G} {q : Nat → Nat → Nat} {u0 : pa_S} {i0 : Nat} {x1 : Int32} {x2 : Int32} {post : Int32 → Prop} (hE : pa_Fx p s m args meth c A D g 3 cX3_hasPart RX3) (hr : meth.sig.returnType = (some .boolean)) (hi0 : i0 < 6) (hw : wb_X3_hasPart_0 u0 i0 x1 x2 post) : pa_At p l e (pa_rm 3) s m args below meth c (MQ below (pa_Qc g D q (fun r => some (.int r)) (fun r u => u = u0 ∧ post r) A) args s 0 0 A) A D g 3 0 0 q u0 0 [(0, .ref (q 1 i0)), (1, .int x1), (2, .int x2)] [] := by
  refine pa_aload_n hE dX3_hasPart_0 rfl 0 rfl ?_
  refine pa_iload_n hE dX3_hasPart_1 rfl 1 rfl ?_
  refine pa_callVri hE (ct_X3_has l g D q u0 i0 x1 _ hi0 hw) cv_RX3_60 (pa_in1 hi0) rfl rfl rfl (pa_hR (by omega) (by decide)) rfl (Nat.le_of_ble_eq_true rfl) dX3_hasPart_2 (fun r1 hw => ?_)
  refine pa_if_eq hE dX3_hasPart_5 (tgt := 21) (by decide) (fun h2 => ?_) (fun h2 => ?_)
  · have hw := Eq.mp (if_pos h2) hw
    refine pa_iconst hE dX3_hasPart_21 (v := 0) (by decide) ?_
    exact pa_zret hE hr (by decide) ⟨rfl, hw⟩ rfl dX3_hasPart_22
  · have hw := Eq.mp (if_neg h2) hw
    refine pa_iload_n hE dX3_hasPart_8 rfl 2 rfl ?_
    refine pa_if_lt hE dX3_hasPart_9 (tgt := 21) (by decide) (fun h3 => ?_) (fun h3 => ?_)
    · have hw := Eq.mp (if_pos h3) hw
      refine pa_iconst hE dX3_hasPart_21 (v := 0) (by decide) ?_
      exact pa_zret hE hr (by decide) ⟨rfl, hw⟩ rfl dX3_hasPart_22
    · have hw := Eq.mp (if_neg h3) hw
      refine pa_iload_n hE dX3_hasPart_12 rfl 2 rfl ?_
      refine pa_iconst hE dX3_hasPart_13 (v := 4) (by decide) ?_
      refine pa_icmp_ge hE dX3_hasPart_14 (tgt := 21) (by decide) (fun h4 => ?_) (fun h4 => ?_)
      · have hw := Eq.mp (if_pos h4) hw
        refine pa_iconst hE dX3_hasPart_21 (v := 0) (by decide) ?_
        exact pa_zret hE hr (by decide) ⟨rfl, hw⟩ rfl dX3_hasPart_22
      · have hw := Eq.mp (if_neg h4) hw
        refine pa_iconst hE dX3_hasPart_17 (v := 1) (by decide) ?_
        refine pa_goto hE dX3_hasPart_18 (tgt := 22) (by decide) ?_
        exact pa_zret hE hr (by decide) ⟨rfl, hw⟩ rfl dX3_hasPart_22
def wp_X3_hasPart (u0 : pa_S) (i0 : Nat) (x1 : Int32) (x2 : Int32) (post : Int32 → Prop) : Prop := wb_X3_hasPart_0 u0 i0 x1 x2 post
theorem ct_X3_hasPart (l : Launch) (g : pa_G) (D : va_G) (q : Nat → Nat → Nat) (u0 : pa_S) (i0 : Nat) (x1 : Int32) (x2 : Int32) (post : Int32 → Prop) (hi0 : i0 < 6) (hw : wp_X3_hasPart u0 i0 x1 x2 post) : pa_Ct l yX3_hasPart cX3_hasPart 3 (some .boolean) 3 g D q u0 [.ref (q 1 i0), .int x1, .int x2] (fun r => some (.int r)) (fun r u => u = u0 ∧ post r) := pa_met rfl rfl (Nat.le_of_ble_eq_true rfl) rfl (fun p e s m args below meth c A hE hr => tb_X3_hasPart_0 hE hr hi0 hw)
def wb_X3_partOf_0 (u0 : pa_S) (i0 : Nat) (x1 : Int32) (x2 : Int32) (post : Int32 → Prop) : Prop :=
  (wp_X3_hasPart u0 i0 x1 x2 (fun (r1 : Int32) => (if r1 = 0 then post 0 else (vp_in ((x1 * 4) + x2) 20) ∧ post (pa_A u0 6 i0 ((x1 * 4) + x2).toNatClampNeg))))
set_option maxRecDepth 100000 in
set_option maxHeartbeats 4000000 in
theorem tb_X3_partOf_0 {p : Program} {l : Launch} {e : Env} {s : State} {m : MethodId} {args : Array Value} {below : List Frame} {meth : Method} {c : Code} {A : Nat → Prop} {D : va_G} {g : pa_G} {q : Nat → Nat → Nat} {u0 : pa_S} {i0 : Nat} {x1 : Int32} {x2 : Int32} {post : Int32 → Prop} (hE : pa_Fx p s m args meth c A D g 3 cX3_partOf RX3) (hr : meth.sig.returnType = (some .int)) (hi0 : i0 < 6) (hw : wb_X3_partOf_0 u0 i0 x1 x2 post) : pa_At p l e (pa_rm 4) s m args below meth c (MQ below (pa_Qc g D q (fun r => some (.int r)) (fun r u => u = u0 ∧ post r) A) args s 0 0 A) A D g 3 0 0 q u0 0 [(0, .ref (q 1 i0)), (1, .int x1), (2, .int x2)] [] := by
  refine pa_aload_n hE dX3_partOf_0 rfl 0 rfl ?_
  refine pa_iload_n hE dX3_partOf_1 rfl 1 rfl ?_
  refine pa_iload_n hE dX3_partOf_2 rfl 2 rfl ?_
  refine pa_callVri hE (ct_X3_hasPart l g D q u0 i0 x1 x2 _ hi0 hw) cv_RX3_72 (pa_in1 hi0) rfl rfl rfl (pa_hR (by omega) (by decide)) rfl (Nat.le_of_ble_eq_true rfl) dX3_partOf_3 (fun r1 hw => ?_)
  refine pa_if_eq hE dX3_partOf_6 (tgt := 22) (by decide) (fun h2 => ?_) (fun h2 => ?_)
  · have hw := Eq.mp (if_pos h2) hw
    refine pa_iconst hE dX3_partOf_22 (v := 0) (by decide) ?_
    exact pa_iret hE hr ⟨rfl, hw⟩ rfl dX3_partOf_23
  · have hw := Eq.mp (if_neg h2) hw
    refine pa_aload_n hE dX3_partOf_9 rfl 0 rfl ?_
    refine pg_1_4 (pa_in1 hi0) hE (pa_m1 146 rfl rfl) dX3_partOf_10 ?_
    refine pa_iload_n hE dX3_partOf_13 rfl 1 rfl ?_
    refine pa_iconst hE dX3_partOf_14 (v := 4) (by decide) ?_
    refine pa_imul hE dX3_partOf_15 ?_
    refine pa_iload_n hE dX3_partOf_16 rfl 2 rfl ?_
    refine pa_iadd hE dX3_partOf_17 ?_
    obtain ⟨h3, hw⟩ := hw
    refine pl_6 (pa_in6 hi0) hE h3 dX3_partOf_18 ?_
    refine pa_goto hE dX3_partOf_19 (tgt := 23) (by decide) ?_
    exact pa_iret hE hr ⟨rfl, hw⟩ rfl dX3_partOf_23
def wp_X3_partOf (u0 : pa_S) (i0 : Nat) (x1 : Int32) (x2 : Int32) (post : Int32 → Prop) : Prop := wb_X3_partOf_0 u0 i0 x1 x2 post
theorem ct_X3_partOf (l : Launch) (g : pa_G) (D : va_G) (q : Nat → Nat → Nat) (u0 : pa_S) (i0 : Nat) (x1 : Int32) (x2 : Int32) (post : Int32 → Prop) (hi0 : i0 < 6) (hw : wp_X3_partOf u0 i0 x1 x2 post) : pa_Ct l yX3_partOf cX3_partOf 3 (some .int) 4 g D q u0 [.ref (q 1 i0), .int x1, .int x2] (fun r => some (.int r)) (fun r u => u = u0 ∧ post r) := pa_met rfl rfl (Nat.le_of_ble_eq_true rfl) rfl (fun p e s m args below meth c A hE hr => tb_X3_partOf_0 hE hr hi0 hw)
def wb_X3_putPart_0 (u0 : pa_S) (i0 : Nat) (x1 : Int32) (x2 : Int32) (x3 : Int32) (post : pa_S → Prop) : Prop :=
  (wp_X3_hasPart u0 i0 x1 x2 (fun (r1 : Int32) => (if r1 = 0 then post u0 else (vp_in ((x1 * 4) + x2) 20) ∧ ∀ u4 : pa_S, u4 = pa_sA u0 6 i0 (upd (pa_A u0 6 i0) ((x1 * 4) + x2).toNatClampNeg x3) → post u4)))
set_option maxRecDepth 100000 in
set_option maxHeartbeats 4000000 in
theorem tb_X3_putPart_0 {p : Program} {l : Launch} {e : Env} {s : State} {m : MethodId} {args : Array Value} {below : List Frame} {meth : Method} {c : Code} {A : Nat → Prop} {D : va_G} {g : pa_G} {q : Nat → Nat → Nat} {u0 : pa_S} {i0 : Nat} {x1 : Int32} {x2 : Int32} {x3 : Int32} {post : pa_S → Prop} (hE : pa_Fx p s m args meth c A D g 4 cX3_putPart RX3) (hr : meth.sig.returnType = none) (hi0 : i0 < 6) (hw : wb_X3_putPart_0 u0 i0 x1 x2 x3 post) : pa_At p l e (pa_rm 4) s m args below meth c (MQ below (pa_Qc g D q (fun (_ : Unit) => none) (fun (_ : Unit) u => post u) A) args s 0 0 A) A D g 4 0 0 q u0 0 [(0, .ref (q 1 i0)), (1, .int x1), (2, .int x2), (3, .int x3)] [] := by
  refine pa_aload_n hE dX3_putPart_0 rfl 0 rfl ?_
  refine pa_iload_n hE dX3_putPart_1 rfl 1 rfl ?_
  refine pa_iload_n hE dX3_putPart_2 rfl 2 rfl ?_
  refine pa_callVri hE (ct_X3_hasPart l g D q u0 i0 x1 x2 _ hi0 hw) cv_RX3_72 (pa_in1 hi0) rfl rfl rfl (pa_hR (by omega) (by decide)) rfl (Nat.le_of_ble_eq_true rfl) dX3_putPart_3 (fun r1 hw => ?_)
  refine pa_if_eq hE dX3_putPart_6 (tgt := 20) (by decide) (fun h2 => ?_) (fun h2 => ?_)
  · have hw := Eq.mp (if_pos h2) hw
    exact pa_vret (r := ()) hE hr hw rfl dX3_putPart_20
  · have hw := Eq.mp (if_neg h2) hw
    refine pa_aload_n hE dX3_putPart_9 rfl 0 rfl ?_
    refine pg_1_4 (pa_in1 hi0) hE (pa_m1 146 rfl rfl) dX3_putPart_10 ?_
    refine pa_iload_n hE dX3_putPart_13 rfl 1 rfl ?_
    refine pa_iconst hE dX3_putPart_14 (v := 4) (by decide) ?_
    refine pa_imul hE dX3_putPart_15 ?_
    refine pa_iload_n hE dX3_putPart_16 rfl 2 rfl ?_
    refine pa_iadd hE dX3_putPart_17 ?_
    refine pa_iload_n hE dX3_putPart_18 rfl 3 rfl ?_
    obtain ⟨h3, hw⟩ := hw
    refine ps_6 (pa_in6 hi0) hE h3 dX3_putPart_19 (fun u4 eu4 => ?_)
    have hw := hw u4 eu4
    exact pa_vret (r := ()) hE hr hw rfl dX3_putPart_20
def wp_X3_putPart (u0 : pa_S) (i0 : Nat) (x1 : Int32) (x2 : Int32) (x3 : Int32) (post : pa_S → Prop) : Prop := wb_X3_putPart_0 u0 i0 x1 x2 x3 post
theorem ct_X3_putPart (l : Launch) (g : pa_G) (D : va_G) (q : Nat → Nat → Nat) (u0 : pa_S) (i0 : Nat) (x1 : Int32) (x2 : Int32) (x3 : Int32) (post : pa_S → Prop) (hi0 : i0 < 6) (hw : wp_X3_putPart u0 i0 x1 x2 x3 post) : pa_Ct l yX3_putPart cX3_putPart 4 none 4 g D q u0 [.ref (q 1 i0), .int x1, .int x2, .int x3] (fun (_ : Unit) => none) (fun (_ : Unit) u => post u) := pa_met rfl rfl (Nat.le_of_ble_eq_true rfl) rfl (fun p e s m args below meth c A hE hr => tb_X3_putPart_0 hE hr hi0 hw)
def wb_X3_graceOf_0 (u0 : pa_S) (i0 : Nat) (x1 : Int32) (x2 : Int32) (post : Int32 → pa_S → Prop) : Prop :=
  ∀ u1 : pa_S, u1 = pa_sA u0 7 i0 (upd (pa_A u0 7 i0) 0 x1) → ∀ u2 : pa_S, u2 = pa_sA u1 7 i0 (upd (pa_A u1 7 i0) 1 x2) → (wp_X3_kindOf u2 i0 x1 (fun (r3 : Int32) => ∀ u4 : pa_S, u4 = pa_sA u2 7 i0 (upd (pa_A u2 7 i0) 2 r3) → (wp_X3_vOf u4 i0 x1 (fun (r5 : Int32) => ∀ u6 : pa_S, u6 = pa_sA u4 7 i0 (upd (pa_A u4 7 i0) 3 r5) → (wp_X3_lengthOf u6 i0 x1 x2 (fun (r7 : Int32) => ∀ u8 : pa_S, u8 = pa_sA u6 7 i0 (upd (pa_A u6 7 i0) 4 r7) → ∀ u9 : pa_S, u9 = pa_sA u8 7 i0 (upd (pa_A u8 7 i0) 5 (pa_rem (pa_I u8 1 i0 8) 10)) → (pa_N u9 1 i0 < pa_N u9 70 0) ∧ (wp_X1_grace u9 (pa_N u9 1 i0) i0 (fun (r11 : Int32) => post r11 u9))))))))
set_option maxRecDepth 100000 in
set_option maxHeartbeats 4000000 in
theorem tb_X3_graceOf_0 {p : Program} {l : Launch} {e : Env} {s : State} {m : MethodId} {args : Array Value} {below : List Frame} {meth : Method} {c : Code} {A : Nat → Prop} {D : va_G} {g : pa_G} {q : Nat → Nat → Nat} {u0 : pa_S} {i0 : Nat} {x1 : Int32} {x2 : Int32} {post : Int32 → pa_S → Prop} (hE : pa_Fx p s m args meth c A D g 3 cX3_graceOf RX3) (hr : meth.sig.returnType = (some .int)) (hi0 : i0 < 6) (hw : wb_X3_graceOf_0 u0 i0 x1 x2 post) : pa_At p l e (pa_rm 5) s m args below meth c (MQ below (pa_Qc g D q (fun r => some (.int r)) post A) args s 0 0 A) A D g 3 0 0 q u0 0 [(0, .ref (q 1 i0)), (1, .int x1), (2, .int x2)] [] := by
  refine pa_aload_n hE dX3_graceOf_0 rfl 0 rfl ?_
  refine pg_1_5 (pa_in1 hi0) hE (pa_m1 147 rfl rfl) dX3_graceOf_1 ?_
  refine pa_iconst hE dX3_graceOf_4 (v := 0) (by decide) ?_
  refine pa_iload_n hE dX3_graceOf_5 rfl 1 rfl ?_
  refine ps_7 (pa_in7 hi0) hE (by unfold vp_in; decide) dX3_graceOf_6 (fun u1 eu1 => ?_)
  have hw := hw u1 eu1
  refine pa_aload_n hE dX3_graceOf_7 rfl 0 rfl ?_
  refine pg_1_5 (pa_in1 hi0) hE (pa_m1 147 rfl rfl) dX3_graceOf_8 ?_
  refine pa_iconst hE dX3_graceOf_11 (v := 1) (by decide) ?_
  refine pa_iload_n hE dX3_graceOf_12 rfl 2 rfl ?_
  refine ps_7 (pa_in7 hi0) hE (by unfold vp_in; decide) dX3_graceOf_13 (fun u2 eu2 => ?_)
  have hw := hw u2 eu2
  refine pa_aload_n hE dX3_graceOf_14 rfl 0 rfl ?_
  refine pg_1_5 (pa_in1 hi0) hE (pa_m1 147 rfl rfl) dX3_graceOf_15 ?_
  refine pa_iconst hE dX3_graceOf_18 (v := 2) (by decide) ?_
  refine pa_aload_n hE dX3_graceOf_19 rfl 0 rfl ?_
  refine pa_iload_n hE dX3_graceOf_20 rfl 1 rfl ?_
  refine pa_callVri hE (ct_X3_kindOf l g D q u2 i0 x1 _ hi0 hw) cv_RX3_75 (pa_in1 hi0) rfl rfl rfl (pa_hR (by omega) (by decide)) rfl (Nat.le_of_ble_eq_true rfl) dX3_graceOf_21 (fun r3 hw => ?_)
  refine ps_7 (pa_in7 hi0) hE (by unfold vp_in; decide) dX3_graceOf_24 (fun u4 eu4 => ?_)
  have hw := hw u4 eu4
  refine pa_aload_n hE dX3_graceOf_25 rfl 0 rfl ?_
  refine pg_1_5 (pa_in1 hi0) hE (pa_m1 147 rfl rfl) dX3_graceOf_26 ?_
  refine pa_iconst hE dX3_graceOf_29 (v := 3) (by decide) ?_
  refine pa_aload_n hE dX3_graceOf_30 rfl 0 rfl ?_
  refine pa_iload_n hE dX3_graceOf_31 rfl 1 rfl ?_
  refine pa_callVri hE (ct_X3_vOf l g D q u4 i0 x1 _ hi0 hw) cv_RX3_79 (pa_in1 hi0) rfl rfl rfl (pa_hR (by omega) (by decide)) rfl (Nat.le_of_ble_eq_true rfl) dX3_graceOf_32 (fun r5 hw => ?_)
  refine ps_7 (pa_in7 hi0) hE (by unfold vp_in; decide) dX3_graceOf_35 (fun u6 eu6 => ?_)
  have hw := hw u6 eu6
  refine pa_aload_n hE dX3_graceOf_36 rfl 0 rfl ?_
  refine pg_1_5 (pa_in1 hi0) hE (pa_m1 147 rfl rfl) dX3_graceOf_37 ?_
  refine pa_iconst hE dX3_graceOf_40 (v := 4) (by decide) ?_
  refine pa_aload_n hE dX3_graceOf_41 rfl 0 rfl ?_
  refine pa_iload_n hE dX3_graceOf_42 rfl 1 rfl ?_
  refine pa_iload_n hE dX3_graceOf_43 rfl 2 rfl ?_
  refine pa_callVri hE (ct_X3_lengthOf l g D q u6 i0 x1 x2 _ hi0 hw) cv_RX3_82 (pa_in1 hi0) rfl rfl rfl (pa_hR (by omega) (by decide)) rfl (Nat.le_of_ble_eq_true rfl) dX3_graceOf_44 (fun r7 hw => ?_)
  refine ps_7 (pa_in7 hi0) hE (by unfold vp_in; decide) dX3_graceOf_47 (fun u8 eu8 => ?_)
  have hw := hw u8 eu8
  refine pa_aload_n hE dX3_graceOf_48 rfl 0 rfl ?_
  refine pg_1_5 (pa_in1 hi0) hE (pa_m1 147 rfl rfl) dX3_graceOf_49 ?_
  refine pa_iconst hE dX3_graceOf_52 (v := 5) (by decide) ?_
  refine pa_aload_n hE dX3_graceOf_53 rfl 0 rfl ?_
  refine pg_1_8 (pa_in1 hi0) hE (pa_m1 152 rfl rfl) dX3_graceOf_54 ?_
  refine pa_bipush hE dX3_graceOf_57 (v := 10) (by decide) ?_
  refine pa_irem hE dX3_graceOf_59 (by decide) ?_
  refine ps_7 (pa_in7 hi0) hE (by unfold vp_in; decide) dX3_graceOf_60 (fun u9 eu9 => ?_)
  have hw := hw u9 eu9
  refine pa_aload_n hE dX3_graceOf_61 rfl 0 rfl ?_
  obtain ⟨h10, hw⟩ := hw
  refine pg_1_9 (pa_in1 hi0) hE (pa_m1 154 rfl rfl) dX3_graceOf_62 ?_
  refine pa_aload_n hE dX3_graceOf_65 rfl 0 rfl ?_
  refine pg_1_5 (pa_in1 hi0) hE (pa_m1 147 rfl rfl) dX3_graceOf_66 ?_
  refine pa_callVri hE (ct_X1_grace l g D q u9 (pa_N u9 1 i0) i0 _ h10 hi0 hw) cv_RX3_86 (pa_in14 h10) rfl rfl rfl (pa_hR (by omega) (by decide)) rfl (Nat.le_of_ble_eq_true rfl) dX3_graceOf_69 (fun r11 hw => ?_)
  exact pa_iret hE hr hw rfl dX3_graceOf_72
def wp_X3_graceOf (u0 : pa_S) (i0 : Nat) (x1 : Int32) (x2 : Int32) (post : Int32 → pa_S → Prop) : Prop := wb_X3_graceOf_0 u0 i0 x1 x2 post
theorem ct_X3_graceOf (l : Launch) (g : pa_G) (D : va_G) (q : Nat → Nat → Nat) (u0 : pa_S) (i0 : Nat) (x1 : Int32) (x2 : Int32) (post : Int32 → pa_S → Prop) (hi0 : i0 < 6) (hw : wp_X3_graceOf u0 i0 x1 x2 post) : pa_Ct l yX3_graceOf cX3_graceOf 3 (some .int) 5 g D q u0 [.ref (q 1 i0), .int x1, .int x2] (fun r => some (.int r)) post := pa_met rfl rfl (Nat.le_of_ble_eq_true rfl) rfl (fun p e s m args below meth c A hE hr => tb_X3_graceOf_0 hE hr hi0 hw)
def wb_X3_worthOf_0 (u0 : pa_S) (i0 : Nat) (x1 : Int32) (x2 : Int32) (post : Int32 → pa_S → Prop) : Prop :=
  (wp_X3_lengthOf u0 i0 x1 x2 (fun (r1 : Int32) => (if r1 = 0 then post 0 u0 else (wp_X3_graceOf u0 i0 x1 x2 (fun (r3 : Int32) (u4 : pa_S) => post (pa_max 0 (r1 + r3)) u4)))))
set_option maxRecDepth 100000 in
set_option maxHeartbeats 4000000 in
theorem tb_X3_worthOf_0 {p : Program} {l : Launch} {e : Env} {s : State} {m : MethodId} {args : Array Value} {below : List Frame} {meth : Method} {c : Code} {A : Nat → Prop} {D : va_G} {g : pa_G} {q : Nat → Nat → Nat} {u0 : pa_S} {i0 : Nat} {x1 : Int32} {x2 : Int32} {post : Int32 → pa_S → Prop} (hE : pa_Fx p s m args meth c A D g 4 cX3_worthOf RX3) (hr : meth.sig.returnType = (some .int)) (hi0 : i0 < 6) (hw : wb_X3_worthOf_0 u0 i0 x1 x2 post) : pa_At p l e (pa_rm 6) s m args below meth c (MQ below (pa_Qc g D q (fun r => some (.int r)) post A) args s 0 0 A) A D g 4 0 0 q u0 0 [(0, .ref (q 1 i0)), (1, .int x1), (2, .int x2)] [] := by
  refine pa_aload_n hE dX3_worthOf_0 rfl 0 rfl ?_
  refine pa_iload_n hE dX3_worthOf_1 rfl 1 rfl ?_
  refine pa_iload_n hE dX3_worthOf_2 rfl 2 rfl ?_
  refine pa_callVri hE (ct_X3_lengthOf l g D q u0 i0 x1 x2 _ hi0 hw) cv_RX3_82 (pa_in1 hi0) rfl rfl rfl (pa_hR (by omega) (by decide)) rfl (Nat.le_of_ble_eq_true rfl) dX3_worthOf_3 (fun r1 hw => ?_)
  refine pa_istore_n hE dX3_worthOf_6 rfl (by decide) (lvr := [(0, .ref (q 1 i0)), (1, .int x1), (2, .int x2)]) rfl ?_
  refine pa_iload_n hE dX3_worthOf_7 rfl 0 rfl ?_
  refine pa_if_ne hE dX3_worthOf_8 (tgt := 15) (by decide) (fun h2 => ?_) (fun h2 => ?_)
  · have hw := Eq.mp (if_neg h2) hw
    refine pa_iconst hE dX3_worthOf_15 (v := 0) (by decide) ?_
    refine pa_iload_n hE dX3_worthOf_16 rfl 0 rfl ?_
    refine pa_aload_n hE dX3_worthOf_17 rfl 1 rfl ?_
    refine pa_iload_n hE dX3_worthOf_18 rfl 2 rfl ?_
    refine pa_iload_n hE dX3_worthOf_19 rfl 3 rfl ?_
    refine pa_callVi hE (ct_X3_graceOf l g D q u0 i0 x1 x2 _ hi0 hw) cv_RX3_90 (pa_in1 hi0) rfl rfl rfl (pa_hR (by omega) (by decide)) rfl (Nat.le_of_ble_eq_true rfl) dX3_worthOf_20 (fun r3 u4 hw => ?_)
    refine pa_iadd hE dX3_worthOf_23 ?_
    refine pa_mmax hE dX3_worthOf_24 cm_RX3_93 (pa_hRm (by omega)) (Nat.le_of_ble_eq_true rfl) ?_
    exact pa_iret hE hr hw rfl dX3_worthOf_27
  · have hw := Eq.mp (if_pos h2) hw
    refine pa_iconst hE dX3_worthOf_11 (v := 0) (by decide) ?_
    refine pa_goto hE dX3_worthOf_12 (tgt := 27) (by decide) ?_
    exact pa_iret hE hr hw rfl dX3_worthOf_27
def wp_X3_worthOf (u0 : pa_S) (i0 : Nat) (x1 : Int32) (x2 : Int32) (post : Int32 → pa_S → Prop) : Prop := wb_X3_worthOf_0 u0 i0 x1 x2 post
theorem ct_X3_worthOf (l : Launch) (g : pa_G) (D : va_G) (q : Nat → Nat → Nat) (u0 : pa_S) (i0 : Nat) (x1 : Int32) (x2 : Int32) (post : Int32 → pa_S → Prop) (hi0 : i0 < 6) (hw : wp_X3_worthOf u0 i0 x1 x2 post) : pa_Ct l yX3_worthOf cX3_worthOf 4 (some .int) 6 g D q u0 [.ref (q 1 i0), .int x1, .int x2] (fun r => some (.int r)) post := pa_met rfl rfl (Nat.le_of_ble_eq_true rfl) rfl (fun p e s m args below meth c A hE hr => tb_X3_worthOf_0 hE hr hi0 hw)
def wb_X3_fortuneOf_31 (k31 : pa_S → Int32 → Int32 → Int32 → Prop) (u0 : pa_S) (i0 : Nat) (x1 : Int32) (x3 : Int32) (x4 : Int32) (post : Int32 → pa_S → Prop) : Prop :=
  (if 3 ≤ x4 then post x3 u0 else (wp_X3_worthOf u0 i0 x1 x4 (fun (r5 : Int32) (u6 : pa_S) => ∀ v7 : Int32, v7 = (x3 + r5) → ∀ v8 : Int32, v8 = x4 + 1 → k31 u6 x1 v7 v8)))
set_option maxRecDepth 100000 in
set_option maxHeartbeats 4000000 in
theorem tb_X3_fortuneOf_31 {p : Program} {l : Launch} {e : Env} {s : State} {m : MethodId} {args : Array Value} {below : List Frame} {meth : Method} {c : Code} {A : Nat → Prop} {D : va_G} {g : pa_G} {q : Nat → Nat → Nat} {k31 : pa_S → Int32 → Int32 → Int32 → Prop} {u0 : pa_S} {i0 : Nat} {x1 : Int32} {x3 : Int32} {x4 : Int32} {post : Int32 → pa_S → Prop} (hE : pa_Fx p s m args meth c A D g 5 cX3_fortuneOf RX3) (hr : meth.sig.returnType = (some .int)) (hi0 : i0 < 6) (hk31 : ∀ (u : pa_S)  (x1 : Int32) (x3 : Int32) (x4 : Int32), k31 u x1 x3 x4 → pa_At p l e (pa_rm 7) s m args below meth c (MQ below (pa_Qc g D q (fun r => some (.int r)) post A) args s 0 0 A) A D g 5 0 0 q u 31 [(0, .ref (q 1 i0)), (1, .int x1), (3, .int x3), (4, .int x4)] []) (hw : wb_X3_fortuneOf_31 k31 u0 i0 x1 x3 x4 post) : pa_At p l e (pa_rm 7) s m args below meth c (MQ below (pa_Qc g D q (fun r => some (.int r)) post A) args s 0 0 A) A D g 5 0 0 q u0 31 [(0, .ref (q 1 i0)), (1, .int x1), (3, .int x3), (4, .int x4)] [] := by
  refine pa_iload hE dX3_fortuneOf_31 3 rfl ?_
  refine pa_iconst hE dX3_fortuneOf_33 (v := 3) (by decide) ?_
  refine pa_icmp_ge hE dX3_fortuneOf_34 (tgt := 53) (by decide) (fun h4 => ?_) (fun h4 => ?_)
  · have hw := Eq.mp (if_pos h4) hw
    refine pa_iload_n hE dX3_fortuneOf_53 rfl 2 rfl ?_
    exact pa_iret hE hr hw rfl dX3_fortuneOf_54
  · have hw := Eq.mp (if_neg h4) hw
    refine pa_iload_n hE dX3_fortuneOf_37 rfl 2 rfl ?_
    refine pa_aload_n hE dX3_fortuneOf_38 rfl 0 rfl ?_
    refine pa_iload_n hE dX3_fortuneOf_39 rfl 1 rfl ?_
    refine pa_iload hE dX3_fortuneOf_40 3 rfl ?_
    refine pa_callVi hE (ct_X3_worthOf l g D q u0 i0 x1 x4 _ hi0 hw) cv_RX3_98 (pa_in1 hi0) rfl rfl rfl (pa_hR (by omega) (by decide)) rfl (Nat.le_of_ble_eq_true rfl) dX3_fortuneOf_42 (fun r5 u6 hw => ?_)
    refine pa_iadd hE dX3_fortuneOf_45 ?_
    refine pa_namei (fun v7 ev7 => ?_)
    have hw := hw v7 ev7
    refine pa_istore_n hE dX3_fortuneOf_46 rfl (by decide) (lvr := [(0, .ref (q 1 i0)), (1, .int x1), (4, .int x4)]) rfl ?_
    refine pa_iinc hE dX3_fortuneOf_47 (v := 1) 3 rfl (by decide) (by decide) (lvr := [(3, .int v7), (0, .ref (q 1 i0)), (1, .int x1)]) rfl (fun v8 ev8 => ?_)
    have hw := hw v8 ev8
    refine pa_goto hE dX3_fortuneOf_50 (tgt := 31) (by decide) ?_
    exact pa_sub [2, 3, 1, 0] rfl (hk31 u6 x1 v7 v8 hw)
def wl_X3_fortuneOf_31 (i0 : Nat) (post : Int32 → pa_S → Prop) : Nat → pa_S → Int32 → Int32 → Int32 → Prop
  | 0, _, _, _, _ => False
  | n + 1, u0, x1, x3, x4 => wb_X3_fortuneOf_31 (fun u0 x1 x3 x4 => wl_X3_fortuneOf_31 i0 post n u0 x1 x3 x4) u0 i0 x1 x3 x4 post
set_option maxRecDepth 100000 in
set_option maxHeartbeats 4000000 in
theorem tl_X3_fortuneOf_31 {p : Program} {l : Launch} {e : Env} {s : State} {m : MethodId} {args : Array Value} {below : List Frame} {meth : Method} {c : Code} {A : Nat → Prop} {D : va_G} {g : pa_G} {q : Nat → Nat → Nat} {i0 : Nat} {post : Int32 → pa_S → Prop} (hE : pa_Fx p s m args meth c A D g 5 cX3_fortuneOf RX3) (hr : meth.sig.returnType = (some .int)) (hi0 : i0 < 6) : ∀ (n : Nat) (u0 : pa_S) (x1 : Int32) (x3 : Int32) (x4 : Int32), wl_X3_fortuneOf_31 i0 post n u0 x1 x3 x4 → pa_At p l e (pa_rm 7) s m args below meth c (MQ below (pa_Qc g D q (fun r => some (.int r)) post A) args s 0 0 A) A D g 5 0 0 q u0 31 [(0, .ref (q 1 i0)), (1, .int x1), (3, .int x3), (4, .int x4)] []
  | 0, _, _, _, _, hw => absurd hw (by simp only [wl_X3_fortuneOf_31]; exact fun z => z)
  | n + 1, u0, x1, x3, x4, hw => tb_X3_fortuneOf_31 hE hr hi0 (fun u0 x1 x3 x4  hw1 => tl_X3_fortuneOf_31 hE hr hi0 n u0 x1 x3 x4  hw1) hw
def wb_X3_fortuneOf_27 (u0 : pa_S) (i0 : Nat) (x1 : Int32) (y0 : Int32) (post : Int32 → pa_S → Prop) : Prop :=
  wl_X3_fortuneOf_31 i0 post 5000 u0 x1 y0 0
set_option maxRecDepth 100000 in
set_option maxHeartbeats 4000000 in
theorem tb_X3_fortuneOf_27 {p : Program} {l : Launch} {e : Env} {s : State} {m : MethodId} {args : Array Value} {below : List Frame} {meth : Method} {c : Code} {A : Nat → Prop} {D : va_G} {g : pa_G} {q : Nat → Nat → Nat} {u0 : pa_S} {i0 : Nat} {x1 : Int32} {y0 : Int32} {post : Int32 → pa_S → Prop} (hE : pa_Fx p s m args meth c A D g 5 cX3_fortuneOf RX3) (hr : meth.sig.returnType = (some .int)) (hi0 : i0 < 6) (hw : wb_X3_fortuneOf_27 u0 i0 x1 y0 post) : pa_At p l e (pa_rm 7) s m args below meth c (MQ below (pa_Qc g D q (fun r => some (.int r)) post A) args s 0 0 A) A D g 5 0 0 q u0 27 [(0, .ref (q 1 i0)), (1, .int x1)] [.int y0] := by
  refine pa_istore_n hE dX3_fortuneOf_27 rfl (by decide) (lvr := [(0, .ref (q 1 i0)), (1, .int x1)]) rfl ?_
  refine pa_iconst hE dX3_fortuneOf_28 (v := 0) (by decide) ?_
  refine pa_istore hE dX3_fortuneOf_29 (by decide) (lvr := [(3, .int y0), (0, .ref (q 1 i0)), (1, .int x1)]) rfl ?_
  exact pa_sub [2, 3, 1, 0] rfl (tl_X3_fortuneOf_31 hE hr hi0 5000 u0 x1 y0 0 hw)
def wb_X3_fortuneOf_0 (u0 : pa_S) (i0 : Nat) (x1 : Int32) (post : Int32 → pa_S → Prop) : Prop :=
  (wp_X3_kindOf u0 i0 x1 (fun (r1 : Int32) => (if r1 = 4 then post 0 u0 else (if r1 = 1 then (wp_X3_vOf u0 i0 x1 (fun (r9 : Int32) => wb_X3_fortuneOf_27 u0 i0 x1 r9 post)) else wb_X3_fortuneOf_27 u0 i0 x1 0 post))))
set_option maxRecDepth 100000 in
set_option maxHeartbeats 4000000 in
theorem tb_X3_fortuneOf_0 {p : Program} {l : Launch} {e : Env} {s : State} {m : MethodId} {args : Array Value} {below : List Frame} {meth : Method} {c : Code} {A : Nat → Prop} {D : va_G} {g : pa_G} {q : Nat → Nat → Nat} {u0 : pa_S} {i0 : Nat} {x1 : Int32} {post : Int32 → pa_S → Prop} (hE : pa_Fx p s m args meth c A D g 5 cX3_fortuneOf RX3) (hr : meth.sig.returnType = (some .int)) (hi0 : i0 < 6) (hw : wb_X3_fortuneOf_0 u0 i0 x1 post) : pa_At p l e (pa_rm 7) s m args below meth c (MQ below (pa_Qc g D q (fun r => some (.int r)) post A) args s 0 0 A) A D g 5 0 0 q u0 0 [(0, .ref (q 1 i0)), (1, .int x1)] [] := by
  refine pa_aload_n hE dX3_fortuneOf_0 rfl 0 rfl ?_
  refine pa_iload_n hE dX3_fortuneOf_1 rfl 1 rfl ?_
  refine pa_callVri hE (ct_X3_kindOf l g D q u0 i0 x1 _ hi0 hw) cv_RX3_75 (pa_in1 hi0) rfl rfl rfl (pa_hR (by omega) (by decide)) rfl (Nat.le_of_ble_eq_true rfl) dX3_fortuneOf_2 (fun r1 hw => ?_)
  refine pa_istore_n hE dX3_fortuneOf_5 rfl (by decide) (lvr := [(0, .ref (q 1 i0)), (1, .int x1)]) rfl ?_
  refine pa_iload_n hE dX3_fortuneOf_6 rfl 0 rfl ?_
  refine pa_iconst hE dX3_fortuneOf_7 (v := 4) (by decide) ?_
  refine pa_icmp_ne hE dX3_fortuneOf_8 (tgt := 13) (by decide) (fun h2 => ?_) (fun h2 => ?_)
  · have hw := Eq.mp (if_neg h2) hw
    refine pa_iload_n hE dX3_fortuneOf_13 rfl 0 rfl ?_
    refine pa_iconst hE dX3_fortuneOf_14 (v := 1) (by decide) ?_
    refine pa_icmp_ne hE dX3_fortuneOf_15 (tgt := 26) (by decide) (fun h3 => ?_) (fun h3 => ?_)
    · have hw := Eq.mp (if_neg h3) hw
      refine pa_iconst hE dX3_fortuneOf_26 (v := 0) (by decide) ?_
      exact pa_sub [1, 2] rfl (tb_X3_fortuneOf_27 hE hr hi0 hw)
    · have hw := Eq.mp (if_pos h3) hw
      refine pa_aload_n hE dX3_fortuneOf_18 rfl 1 rfl ?_
      refine pa_iload_n hE dX3_fortuneOf_19 rfl 2 rfl ?_
      refine pa_callVri hE (ct_X3_vOf l g D q u0 i0 x1 _ hi0 hw) cv_RX3_79 (pa_in1 hi0) rfl rfl rfl (pa_hR (by omega) (by decide)) rfl (Nat.le_of_ble_eq_true rfl) dX3_fortuneOf_20 (fun r9 hw => ?_)
      refine pa_goto hE dX3_fortuneOf_23 (tgt := 27) (by decide) ?_
      exact pa_sub [1, 2] rfl (tb_X3_fortuneOf_27 hE hr hi0 hw)
  · have hw := Eq.mp (if_pos h2) hw
    refine pa_iconst hE dX3_fortuneOf_11 (v := 0) (by decide) ?_
    exact pa_iret hE hr hw rfl dX3_fortuneOf_12
def wp_X3_fortuneOf (u0 : pa_S) (i0 : Nat) (x1 : Int32) (post : Int32 → pa_S → Prop) : Prop := wb_X3_fortuneOf_0 u0 i0 x1 post
theorem ct_X3_fortuneOf (l : Launch) (g : pa_G) (D : va_G) (q : Nat → Nat → Nat) (u0 : pa_S) (i0 : Nat) (x1 : Int32) (post : Int32 → pa_S → Prop) (hi0 : i0 < 6) (hw : wp_X3_fortuneOf u0 i0 x1 post) : pa_Ct l yX3_fortuneOf cX3_fortuneOf 5 (some .int) 7 g D q u0 [.ref (q 1 i0), .int x1] (fun r => some (.int r)) post := pa_met rfl rfl (Nat.le_of_ble_eq_true rfl) rfl (fun p e s m args below meth c A hE hr => tb_X3_fortuneOf_0 hE hr hi0 hw)
def wb_X3_fortuneOfAll_4 (k4 : pa_S → Int32 → Int32 → Prop) (u0 : pa_S) (i0 : Nat) (x1 : Int32) (x2 : Int32) (post : Int32 → pa_S → Prop) : Prop :=
  (if (pa_I u0 1 i0 6) ≤ x2 then post x1 u0 else (wp_X3_fortuneOf u0 i0 x2 (fun (r2 : Int32) (u3 : pa_S) => ∀ v4 : Int32, v4 = (x1 + r2) → ∀ v5 : Int32, v5 = x2 + 1 → k4 u3 v4 v5)))
set_option maxRecDepth 100000 in
set_option maxHeartbeats 4000000 in
theorem tb_X3_fortuneOfAll_4 {p : Program} {l : Launch} {e : Env} {s : State} {m : MethodId} {args : Array Value} {below : List Frame} {meth : Method} {c : Code} {A : Nat → Prop} {D : va_G} {g : pa_G} {q : Nat → Nat → Nat} {k4 : pa_S → Int32 → Int32 → Prop} {u0 : pa_S} {i0 : Nat} {x1 : Int32} {x2 : Int32} {post : Int32 → pa_S → Prop} (hE : pa_Fx p s m args meth c A D g 3 cX3_fortuneOfAll RX3) (hr : meth.sig.returnType = (some .int)) (hi0 : i0 < 6) (hk4 : ∀ (u : pa_S)  (x1 : Int32) (x2 : Int32), k4 u x1 x2 → pa_At p l e (pa_rm 8) s m args below meth c (MQ below (pa_Qc g D q (fun r => some (.int r)) post A) args s 0 0 A) A D g 3 0 0 q u 4 [(0, .ref (q 1 i0)), (1, .int x1), (2, .int x2)] []) (hw : wb_X3_fortuneOfAll_4 k4 u0 i0 x1 x2 post) : pa_At p l e (pa_rm 8) s m args below meth c (MQ below (pa_Qc g D q (fun r => some (.int r)) post A) args s 0 0 A) A D g 3 0 0 q u0 4 [(0, .ref (q 1 i0)), (1, .int x1), (2, .int x2)] [] := by
  refine pa_iload_n hE dX3_fortuneOfAll_4 rfl 2 rfl ?_
  refine pa_aload_n hE dX3_fortuneOfAll_5 rfl 0 rfl ?_
  refine pg_1_6 (pa_in1 hi0) hE (pa_m1 149 rfl rfl) dX3_fortuneOfAll_6 ?_
  refine pa_icmp_ge hE dX3_fortuneOfAll_9 (tgt := 26) (by decide) (fun h1 => ?_) (fun h1 => ?_)
  · have hw := Eq.mp (if_pos h1) hw
    refine pa_iload_n hE dX3_fortuneOfAll_26 rfl 1 rfl ?_
    exact pa_iret hE hr hw rfl dX3_fortuneOfAll_27
  · have hw := Eq.mp (if_neg h1) hw
    refine pa_iload_n hE dX3_fortuneOfAll_12 rfl 1 rfl ?_
    refine pa_aload_n hE dX3_fortuneOfAll_13 rfl 0 rfl ?_
    refine pa_iload_n hE dX3_fortuneOfAll_14 rfl 2 rfl ?_
    refine pa_callVi hE (ct_X3_fortuneOf l g D q u0 i0 x2 _ hi0 hw) cv_RX3_101 (pa_in1 hi0) rfl rfl rfl (pa_hR (by omega) (by decide)) rfl (Nat.le_of_ble_eq_true rfl) dX3_fortuneOfAll_15 (fun r2 u3 hw => ?_)
    refine pa_iadd hE dX3_fortuneOfAll_18 ?_
    refine pa_namei (fun v4 ev4 => ?_)
    have hw := hw v4 ev4
    refine pa_istore_n hE dX3_fortuneOfAll_19 rfl (by decide) (lvr := [(0, .ref (q 1 i0)), (2, .int x2)]) rfl ?_
    refine pa_iinc hE dX3_fortuneOfAll_20 (v := 1) 2 rfl (by decide) (by decide) (lvr := [(1, .int v4), (0, .ref (q 1 i0))]) rfl (fun v5 ev5 => ?_)
    have hw := hw v5 ev5
    refine pa_goto hE dX3_fortuneOfAll_23 (tgt := 4) (by decide) ?_
    exact pa_sub [2, 1, 0] rfl (hk4 u3 v4 v5 hw)
def wl_X3_fortuneOfAll_4 (i0 : Nat) (post : Int32 → pa_S → Prop) : Nat → pa_S → Int32 → Int32 → Prop
  | 0, _, _, _ => False
  | n + 1, u0, x1, x2 => wb_X3_fortuneOfAll_4 (fun u0 x1 x2 => wl_X3_fortuneOfAll_4 i0 post n u0 x1 x2) u0 i0 x1 x2 post
set_option maxRecDepth 100000 in
set_option maxHeartbeats 4000000 in
theorem tl_X3_fortuneOfAll_4 {p : Program} {l : Launch} {e : Env} {s : State} {m : MethodId} {args : Array Value} {below : List Frame} {meth : Method} {c : Code} {A : Nat → Prop} {D : va_G} {g : pa_G} {q : Nat → Nat → Nat} {i0 : Nat} {post : Int32 → pa_S → Prop} (hE : pa_Fx p s m args meth c A D g 3 cX3_fortuneOfAll RX3) (hr : meth.sig.returnType = (some .int)) (hi0 : i0 < 6) : ∀ (n : Nat) (u0 : pa_S) (x1 : Int32) (x2 : Int32), wl_X3_fortuneOfAll_4 i0 post n u0 x1 x2 → pa_At p l e (pa_rm 8) s m args below meth c (MQ below (pa_Qc g D q (fun r => some (.int r)) post A) args s 0 0 A) A D g 3 0 0 q u0 4 [(0, .ref (q 1 i0)), (1, .int x1), (2, .int x2)] []
  | 0, _, _, _, hw => absurd hw (by simp only [wl_X3_fortuneOfAll_4]; exact fun z => z)
  | n + 1, u0, x1, x2, hw => tb_X3_fortuneOfAll_4 hE hr hi0 (fun u0 x1 x2  hw1 => tl_X3_fortuneOfAll_4 hE hr hi0 n u0 x1 x2  hw1) hw
def wb_X3_fortuneOfAll_0 (u0 : pa_S) (i0 : Nat) (post : Int32 → pa_S → Prop) : Prop :=
  wl_X3_fortuneOfAll_4 i0 post 5000 u0 0 0
set_option maxRecDepth 100000 in
set_option maxHeartbeats 4000000 in
theorem tb_X3_fortuneOfAll_0 {p : Program} {l : Launch} {e : Env} {s : State} {m : MethodId} {args : Array Value} {below : List Frame} {meth : Method} {c : Code} {A : Nat → Prop} {D : va_G} {g : pa_G} {q : Nat → Nat → Nat} {u0 : pa_S} {i0 : Nat} {post : Int32 → pa_S → Prop} (hE : pa_Fx p s m args meth c A D g 3 cX3_fortuneOfAll RX3) (hr : meth.sig.returnType = (some .int)) (hi0 : i0 < 6) (hw : wb_X3_fortuneOfAll_0 u0 i0 post) : pa_At p l e (pa_rm 8) s m args below meth c (MQ below (pa_Qc g D q (fun r => some (.int r)) post A) args s 0 0 A) A D g 3 0 0 q u0 0 [(0, .ref (q 1 i0))] [] := by
  refine pa_iconst hE dX3_fortuneOfAll_0 (v := 0) (by decide) ?_
  refine pa_istore_n hE dX3_fortuneOfAll_1 rfl (by decide) (lvr := [(0, .ref (q 1 i0))]) rfl ?_
  refine pa_iconst hE dX3_fortuneOfAll_2 (v := 0) (by decide) ?_
  refine pa_istore_n hE dX3_fortuneOfAll_3 rfl (by decide) (lvr := [(1, .int 0), (0, .ref (q 1 i0))]) rfl ?_
  exact pa_sub [2, 1, 0] rfl (tl_X3_fortuneOfAll_4 hE hr hi0 5000 u0 0 0 hw)
def wp_X3_fortuneOfAll (u0 : pa_S) (i0 : Nat) (post : Int32 → pa_S → Prop) : Prop := wb_X3_fortuneOfAll_0 u0 i0 post
theorem ct_X3_fortuneOfAll (l : Launch) (g : pa_G) (D : va_G) (q : Nat → Nat → Nat) (u0 : pa_S) (i0 : Nat) (post : Int32 → pa_S → Prop) (hi0 : i0 < 6) (hw : wp_X3_fortuneOfAll u0 i0 post) : pa_Ct l yX3_fortuneOfAll cX3_fortuneOfAll 3 (some .int) 8 g D q u0 [.ref (q 1 i0)] (fun r => some (.int r)) post := pa_met rfl rfl (Nat.le_of_ble_eq_true rfl) rfl (fun p e s m args below meth c A hE hr => tb_X3_fortuneOfAll_0 hE hr hi0 hw)
def wb_X3_lengthOfAll_14 (k4 : Int32 → Int32 → Prop) (k14 : Int32 → Int32 → Int32 → Prop) (u0 : pa_S) (i0 : Nat) (x1 : Int32) (x2 : Int32) (x3 : Int32) (post : Int32 → Prop) : Prop :=
  (if 3 ≤ x3 then ∀ v3 : Int32, v3 = x2 + 1 → k4 x1 v3 else (wp_X3_lengthOf u0 i0 x2 x3 (fun (r4 : Int32) => ∀ v5 : Int32, v5 = (x1 + r4) → ∀ v6 : Int32, v6 = x3 + 1 → k14 v5 x2 v6)))
set_option maxRecDepth 100000 in
set_option maxHeartbeats 4000000 in
theorem tb_X3_lengthOfAll_14 {p : Program} {l : Launch} {e : Env} {s : State} {m : MethodId} {args : Array Value} {below : List Frame} {meth : Method} {c : Code} {A : Nat → Prop} {D : va_G} {g : pa_G} {q : Nat → Nat → Nat} {k4 : Int32 → Int32 → Prop} {k14 : Int32 → Int32 → Int32 → Prop} {u0 : pa_S} {i0 : Nat} {x1 : Int32} {x2 : Int32} {x3 : Int32} {post : Int32 → Prop} (hE : pa_Fx p s m args meth c A D g 4 cX3_lengthOfAll RX3) (hr : meth.sig.returnType = (some .int)) (hi0 : i0 < 6) (hk4 : ∀ (x1 : Int32) (x2 : Int32), k4 x1 x2 → pa_At p l e (pa_rm 5) s m args below meth c (MQ below (pa_Qc g D q (fun r => some (.int r)) (fun r u => u = u0 ∧ post r) A) args s 0 0 A) A D g 4 0 0 q u0 4 [(0, .ref (q 1 i0)), (1, .int x1), (2, .int x2)] []) (hk14 : ∀ (x1 : Int32) (x2 : Int32) (x3 : Int32), k14 x1 x2 x3 → pa_At p l e (pa_rm 5) s m args below meth c (MQ below (pa_Qc g D q (fun r => some (.int r)) (fun r u => u = u0 ∧ post r) A) args s 0 0 A) A D g 4 0 0 q u0 14 [(0, .ref (q 1 i0)), (1, .int x1), (2, .int x2), (3, .int x3)] []) (hw : wb_X3_lengthOfAll_14 k4 k14 u0 i0 x1 x2 x3 post) : pa_At p l e (pa_rm 5) s m args below meth c (MQ below (pa_Qc g D q (fun r => some (.int r)) (fun r u => u = u0 ∧ post r) A) args s 0 0 A) A D g 4 0 0 q u0 14 [(0, .ref (q 1 i0)), (1, .int x1), (2, .int x2), (3, .int x3)] [] := by
  refine pa_iload_n hE dX3_lengthOfAll_14 rfl 3 rfl ?_
  refine pa_iconst hE dX3_lengthOfAll_15 (v := 3) (by decide) ?_
  refine pa_icmp_ge hE dX3_lengthOfAll_16 (tgt := 34) (by decide) (fun h2 => ?_) (fun h2 => ?_)
  · have hw := Eq.mp (if_pos h2) hw
    refine pa_iinc hE dX3_lengthOfAll_34 (v := 1) 2 rfl (by decide) (by decide) (lvr := [(0, .ref (q 1 i0)), (1, .int x1), (3, .int x3)]) rfl (fun v3 ev3 => ?_)
    have hw := hw v3 ev3
    refine pa_goto hE dX3_lengthOfAll_37 (tgt := 4) (by decide) ?_
    exact pa_sub [1, 2, 0] rfl (hk4 x1 v3 hw)
  · have hw := Eq.mp (if_neg h2) hw
    refine pa_iload_n hE dX3_lengthOfAll_19 rfl 1 rfl ?_
    refine pa_aload_n hE dX3_lengthOfAll_20 rfl 0 rfl ?_
    refine pa_iload_n hE dX3_lengthOfAll_21 rfl 2 rfl ?_
    refine pa_iload_n hE dX3_lengthOfAll_22 rfl 3 rfl ?_
    refine pa_callVri hE (ct_X3_lengthOf l g D q u0 i0 x2 x3 _ hi0 hw) cv_RX3_82 (pa_in1 hi0) rfl rfl rfl (pa_hR (by omega) (by decide)) rfl (Nat.le_of_ble_eq_true rfl) dX3_lengthOfAll_23 (fun r4 hw => ?_)
    refine pa_iadd hE dX3_lengthOfAll_26 ?_
    refine pa_namei (fun v5 ev5 => ?_)
    have hw := hw v5 ev5
    refine pa_istore_n hE dX3_lengthOfAll_27 rfl (by decide) (lvr := [(0, .ref (q 1 i0)), (2, .int x2), (3, .int x3)]) rfl ?_
    refine pa_iinc hE dX3_lengthOfAll_28 (v := 1) 3 rfl (by decide) (by decide) (lvr := [(1, .int v5), (0, .ref (q 1 i0)), (2, .int x2)]) rfl (fun v6 ev6 => ?_)
    have hw := hw v6 ev6
    refine pa_goto hE dX3_lengthOfAll_31 (tgt := 14) (by decide) ?_
    exact pa_sub [2, 1, 3, 0] rfl (hk14 v5 x2 v6 hw)
def wl_X3_lengthOfAll_14 (k4 : Int32 → Int32 → Prop) (i0 : Nat) (post : Int32 → Prop) (u0 : pa_S) : Nat → Int32 → Int32 → Int32 → Prop
  | 0, _, _, _ => False
  | n + 1, x1, x2, x3 => wb_X3_lengthOfAll_14 k4 (fun x1 x2 x3 => wl_X3_lengthOfAll_14 k4 i0 post u0 n x1 x2 x3) u0 i0 x1 x2 x3 post
set_option maxRecDepth 100000 in
set_option maxHeartbeats 4000000 in
theorem tl_X3_lengthOfAll_14 {p : Program} {l : Launch} {e : Env} {s : State} {m : MethodId} {args : Array Value} {below : List Frame} {meth : Method} {c : Code} {A : Nat → Prop} {D : va_G} {g : pa_G} {q : Nat → Nat → Nat} {k4 : Int32 → Int32 → Prop} {u0 : pa_S} {i0 : Nat} {post : Int32 → Prop} (hE : pa_Fx p s m args meth c A D g 4 cX3_lengthOfAll RX3) (hr : meth.sig.returnType = (some .int)) (hi0 : i0 < 6) (hk4 : ∀ (x1 : Int32) (x2 : Int32), k4 x1 x2 → pa_At p l e (pa_rm 5) s m args below meth c (MQ below (pa_Qc g D q (fun r => some (.int r)) (fun r u => u = u0 ∧ post r) A) args s 0 0 A) A D g 4 0 0 q u0 4 [(0, .ref (q 1 i0)), (1, .int x1), (2, .int x2)] []) : ∀ (n : Nat) (x1 : Int32) (x2 : Int32) (x3 : Int32), wl_X3_lengthOfAll_14 k4 i0 post u0 n x1 x2 x3 → pa_At p l e (pa_rm 5) s m args below meth c (MQ below (pa_Qc g D q (fun r => some (.int r)) (fun r u => u = u0 ∧ post r) A) args s 0 0 A) A D g 4 0 0 q u0 14 [(0, .ref (q 1 i0)), (1, .int x1), (2, .int x2), (3, .int x3)] []
  | 0, _, _, _, hw => absurd hw (by simp only [wl_X3_lengthOfAll_14]; exact fun z => z)
  | n + 1, x1, x2, x3, hw => tb_X3_lengthOfAll_14 hE hr hi0 hk4 (fun x1 x2 x3  hw1 => tl_X3_lengthOfAll_14 hE hr hi0 hk4 n x1 x2 x3  hw1) hw
def wb_X3_lengthOfAll_4 (k4 : Int32 → Int32 → Prop) (u0 : pa_S) (i0 : Nat) (x1 : Int32) (x2 : Int32) (post : Int32 → Prop) : Prop :=
  (if (pa_I u0 1 i0 6) ≤ x2 then post x1 else wl_X3_lengthOfAll_14 k4 i0 post u0 5000 x1 x2 0)
set_option maxRecDepth 100000 in
set_option maxHeartbeats 4000000 in
theorem tb_X3_lengthOfAll_4 {p : Program} {l : Launch} {e : Env} {s : State} {m : MethodId} {args : Array Value} {below : List Frame} {meth : Method} {c : Code} {A : Nat → Prop} {D : va_G} {g : pa_G} {q : Nat → Nat → Nat} {k4 : Int32 → Int32 → Prop} {u0 : pa_S} {i0 : Nat} {x1 : Int32} {x2 : Int32} {post : Int32 → Prop} (hE : pa_Fx p s m args meth c A D g 4 cX3_lengthOfAll RX3) (hr : meth.sig.returnType = (some .int)) (hi0 : i0 < 6) (hk4 : ∀ (x1 : Int32) (x2 : Int32), k4 x1 x2 → pa_At p l e (pa_rm 5) s m args below meth c (MQ below (pa_Qc g D q (fun r => some (.int r)) (fun r u => u = u0 ∧ post r) A) args s 0 0 A) A D g 4 0 0 q u0 4 [(0, .ref (q 1 i0)), (1, .int x1), (2, .int x2)] []) (hw : wb_X3_lengthOfAll_4 k4 u0 i0 x1 x2 post) : pa_At p l e (pa_rm 5) s m args below meth c (MQ below (pa_Qc g D q (fun r => some (.int r)) (fun r u => u = u0 ∧ post r) A) args s 0 0 A) A D g 4 0 0 q u0 4 [(0, .ref (q 1 i0)), (1, .int x1), (2, .int x2)] [] := by
  refine pa_iload_n hE dX3_lengthOfAll_4 rfl 2 rfl ?_
  refine pa_aload_n hE dX3_lengthOfAll_5 rfl 0 rfl ?_
  refine pg_1_6 (pa_in1 hi0) hE (pa_m1 149 rfl rfl) dX3_lengthOfAll_6 ?_
  refine pa_icmp_ge hE dX3_lengthOfAll_9 (tgt := 40) (by decide) (fun h1 => ?_) (fun h1 => ?_)
  · have hw := Eq.mp (if_pos h1) hw
    refine pa_iload_n hE dX3_lengthOfAll_40 rfl 1 rfl ?_
    exact pa_iret hE hr ⟨rfl, hw⟩ rfl dX3_lengthOfAll_41
  · have hw := Eq.mp (if_neg h1) hw
    refine pa_iconst hE dX3_lengthOfAll_12 (v := 0) (by decide) ?_
    refine pa_istore_n hE dX3_lengthOfAll_13 rfl (by decide) (lvr := [(0, .ref (q 1 i0)), (1, .int x1), (2, .int x2)]) rfl ?_
    exact pa_sub [1, 2, 3, 0] rfl (tl_X3_lengthOfAll_14 hE hr hi0 hk4 5000 x1 x2 0 hw)
def wl_X3_lengthOfAll_4 (i0 : Nat) (post : Int32 → Prop) (u0 : pa_S) : Nat → Int32 → Int32 → Prop
  | 0, _, _ => False
  | n + 1, x1, x2 => wb_X3_lengthOfAll_4 (fun x1 x2 => wl_X3_lengthOfAll_4 i0 post u0 n x1 x2) u0 i0 x1 x2 post
set_option maxRecDepth 100000 in
set_option maxHeartbeats 4000000 in
theorem tl_X3_lengthOfAll_4 {p : Program} {l : Launch} {e : Env} {s : State} {m : MethodId} {args : Array Value} {below : List Frame} {meth : Method} {c : Code} {A : Nat → Prop} {D : va_G} {g : pa_G} {q : Nat → Nat → Nat} {u0 : pa_S} {i0 : Nat} {post : Int32 → Prop} (hE : pa_Fx p s m args meth c A D g 4 cX3_lengthOfAll RX3) (hr : meth.sig.returnType = (some .int)) (hi0 : i0 < 6) : ∀ (n : Nat) (x1 : Int32) (x2 : Int32), wl_X3_lengthOfAll_4 i0 post u0 n x1 x2 → pa_At p l e (pa_rm 5) s m args below meth c (MQ below (pa_Qc g D q (fun r => some (.int r)) (fun r u => u = u0 ∧ post r) A) args s 0 0 A) A D g 4 0 0 q u0 4 [(0, .ref (q 1 i0)), (1, .int x1), (2, .int x2)] []
  | 0, _, _, hw => absurd hw (by simp only [wl_X3_lengthOfAll_4]; exact fun z => z)
  | n + 1, x1, x2, hw => tb_X3_lengthOfAll_4 hE hr hi0 (fun x1 x2  hw1 => tl_X3_lengthOfAll_4 hE hr hi0 n x1 x2  hw1) hw
def wb_X3_lengthOfAll_0 (u0 : pa_S) (i0 : Nat) (post : Int32 → Prop) : Prop :=
  wl_X3_lengthOfAll_4 i0 post u0 5000 0 0
set_option maxRecDepth 100000 in
set_option maxHeartbeats 4000000 in
theorem tb_X3_lengthOfAll_0 {p : Program} {l : Launch} {e : Env} {s : State} {m : MethodId} {args : Array Value} {below : List Frame} {meth : Method} {c : Code} {A : Nat → Prop} {D : va_G} {g : pa_G} {q : Nat → Nat → Nat} {u0 : pa_S} {i0 : Nat} {post : Int32 → Prop} (hE : pa_Fx p s m args meth c A D g 4 cX3_lengthOfAll RX3) (hr : meth.sig.returnType = (some .int)) (hi0 : i0 < 6) (hw : wb_X3_lengthOfAll_0 u0 i0 post) : pa_At p l e (pa_rm 5) s m args below meth c (MQ below (pa_Qc g D q (fun r => some (.int r)) (fun r u => u = u0 ∧ post r) A) args s 0 0 A) A D g 4 0 0 q u0 0 [(0, .ref (q 1 i0))] [] := by
  refine pa_iconst hE dX3_lengthOfAll_0 (v := 0) (by decide) ?_
  refine pa_istore_n hE dX3_lengthOfAll_1 rfl (by decide) (lvr := [(0, .ref (q 1 i0))]) rfl ?_
  refine pa_iconst hE dX3_lengthOfAll_2 (v := 0) (by decide) ?_
  refine pa_istore_n hE dX3_lengthOfAll_3 rfl (by decide) (lvr := [(1, .int 0), (0, .ref (q 1 i0))]) rfl ?_
  exact pa_sub [2, 1, 0] rfl (tl_X3_lengthOfAll_4 hE hr hi0 5000 0 0 hw)
def wp_X3_lengthOfAll (u0 : pa_S) (i0 : Nat) (post : Int32 → Prop) : Prop := wb_X3_lengthOfAll_0 u0 i0 post
theorem ct_X3_lengthOfAll (l : Launch) (g : pa_G) (D : va_G) (q : Nat → Nat → Nat) (u0 : pa_S) (i0 : Nat) (post : Int32 → Prop) (hi0 : i0 < 6) (hw : wp_X3_lengthOfAll u0 i0 post) : pa_Ct l yX3_lengthOfAll cX3_lengthOfAll 4 (some .int) 5 g D q u0 [.ref (q 1 i0)] (fun r => some (.int r)) (fun r u => u = u0 ∧ post r) := pa_met rfl rfl (Nat.le_of_ble_eq_true rfl) rfl (fun p e s m args below meth c A hE hr => tb_X3_lengthOfAll_0 hE hr hi0 hw)
def wb_X3_fadesOn_0 (u0 : pa_S) (i0 : Nat) (x1 : Int32) (x2 : Int32) (post : Int32 → Prop) : Prop :=
  (wp_X3_kindOf u0 i0 x1 (fun (r1 : Int32) => (if r1 = 1 then post 2 else (if r1 = 2 then (wp_X3_vOf u0 i0 x1 (fun (r8 : Int32) => post (pa_rem r8 2))) else (if r1 = 3 then post (pa_rem x2 2) else (if r1 = 4 then post 1 else (if r1 = 5 then (wp_X3_vOf u0 i0 x1 (fun (r9 : Int32) => post ((pa_rem r9 2) + 1))) else (if r1 = 6 then (wp_X3_partOf u0 i0 x1 (pa_rem x2 4) (fun (r10 : Int32) => post ((pa_rem x2 2) + r10))) else post 1))))))))
set_option maxRecDepth 100000 in
set_option maxHeartbeats 4000000 in
theorem tb_X3_fadesOn_0 {p : Program} {l : Launch} {e : Env} {s : State} {m : MethodId} {args : Array Value} {below : List Frame} {meth : Method} {c : Code} {A : Nat → Prop} {D : va_G} {g : pa_G} {q : Nat → Nat → Nat} {u0 : pa_S} {i0 : Nat} {x1 : Int32} {x2 : Int32} {post : Int32 → Prop} (hE : pa_Fx p s m args meth c A D g 3 cX3_fadesOn RX3) (hr : meth.sig.returnType = (some .int)) (hi0 : i0 < 6) (hw : wb_X3_fadesOn_0 u0 i0 x1 x2 post) : pa_At p l e (pa_rm 5) s m args below meth c (MQ below (pa_Qc g D q (fun r => some (.int r)) (fun r u => u = u0 ∧ post r) A) args s 0 0 A) A D g 3 0 0 q u0 0 [(0, .ref (q 1 i0)), (1, .int x1), (2, .int x2)] [] := by
  refine pa_aload_n hE dX3_fadesOn_0 rfl 0 rfl ?_
  refine pa_iload_n hE dX3_fadesOn_1 rfl 1 rfl ?_
  refine pa_callVri hE (ct_X3_kindOf l g D q u0 i0 x1 _ hi0 hw) cv_RX3_75 (pa_in1 hi0) rfl rfl rfl (pa_hR (by omega) (by decide)) rfl (Nat.le_of_ble_eq_true rfl) dX3_fadesOn_2 (fun r1 hw => ?_)
  by_cases h2 : r1 = 1
  · have hw := Eq.mp (if_pos h2) hw
    refine pa_tswIn hE dX3_fadesOn_5 (z := 1) h2 (by decide) (by decide) rfl (tgt := 44) (by decide) ?_
    refine pa_iconst hE dX3_fadesOn_44 (v := 2) (by decide) ?_
    exact pa_iret hE hr ⟨rfl, hw⟩ rfl dX3_fadesOn_45
  · have hw := Eq.mp (if_neg h2) hw
    by_cases h3 : r1 = 2
    · have hw := Eq.mp (if_pos h3) hw
      refine pa_tswIn hE dX3_fadesOn_5 (z := 2) h3 (by decide) (by decide) rfl (tgt := 46) (by decide) ?_
      refine pa_aload_n hE dX3_fadesOn_46 rfl 0 rfl ?_
      refine pa_iload_n hE dX3_fadesOn_47 rfl 1 rfl ?_
      refine pa_callVri hE (ct_X3_vOf l g D q u0 i0 x1 _ hi0 hw) cv_RX3_79 (pa_in1 hi0) rfl rfl rfl (pa_hR (by omega) (by decide)) rfl (Nat.le_of_ble_eq_true rfl) dX3_fadesOn_48 (fun r8 hw => ?_)
      refine pa_iconst hE dX3_fadesOn_51 (v := 2) (by decide) ?_
      refine pa_irem hE dX3_fadesOn_52 (by decide) ?_
      exact pa_iret hE hr ⟨rfl, hw⟩ rfl dX3_fadesOn_53
    · have hw := Eq.mp (if_neg h3) hw
      by_cases h4 : r1 = 3
      · have hw := Eq.mp (if_pos h4) hw
        refine pa_tswIn hE dX3_fadesOn_5 (z := 3) h4 (by decide) (by decide) rfl (tgt := 54) (by decide) ?_
        refine pa_iload_n hE dX3_fadesOn_54 rfl 2 rfl ?_
        refine pa_iconst hE dX3_fadesOn_55 (v := 2) (by decide) ?_
        refine pa_irem hE dX3_fadesOn_56 (by decide) ?_
        exact pa_iret hE hr ⟨rfl, hw⟩ rfl dX3_fadesOn_57
      · have hw := Eq.mp (if_neg h4) hw
        by_cases h5 : r1 = 4
        · have hw := Eq.mp (if_pos h5) hw
          refine pa_tswIn hE dX3_fadesOn_5 (z := 4) h5 (by decide) (by decide) rfl (tgt := 58) (by decide) ?_
          refine pa_iconst hE dX3_fadesOn_58 (v := 1) (by decide) ?_
          exact pa_iret hE hr ⟨rfl, hw⟩ rfl dX3_fadesOn_59
        · have hw := Eq.mp (if_neg h5) hw
          by_cases h6 : r1 = 5
          · have hw := Eq.mp (if_pos h6) hw
            refine pa_tswIn hE dX3_fadesOn_5 (z := 5) h6 (by decide) (by decide) rfl (tgt := 60) (by decide) ?_
            refine pa_aload_n hE dX3_fadesOn_60 rfl 0 rfl ?_
            refine pa_iload_n hE dX3_fadesOn_61 rfl 1 rfl ?_
            refine pa_callVri hE (ct_X3_vOf l g D q u0 i0 x1 _ hi0 hw) cv_RX3_79 (pa_in1 hi0) rfl rfl rfl (pa_hR (by omega) (by decide)) rfl (Nat.le_of_ble_eq_true rfl) dX3_fadesOn_62 (fun r9 hw => ?_)
            refine pa_iconst hE dX3_fadesOn_65 (v := 2) (by decide) ?_
            refine pa_irem hE dX3_fadesOn_66 (by decide) ?_
            refine pa_iconst hE dX3_fadesOn_67 (v := 1) (by decide) ?_
            refine pa_iadd hE dX3_fadesOn_68 ?_
            exact pa_iret hE hr ⟨rfl, hw⟩ rfl dX3_fadesOn_69
          · have hw := Eq.mp (if_neg h6) hw
            by_cases h7 : r1 = 6
            · have hw := Eq.mp (if_pos h7) hw
              refine pa_tswIn hE dX3_fadesOn_5 (z := 6) h7 (by decide) (by decide) rfl (tgt := 70) (by decide) ?_
              refine pa_iload_n hE dX3_fadesOn_70 rfl 2 rfl ?_
              refine pa_iconst hE dX3_fadesOn_71 (v := 2) (by decide) ?_
              refine pa_irem hE dX3_fadesOn_72 (by decide) ?_
              refine pa_aload_n hE dX3_fadesOn_73 rfl 0 rfl ?_
              refine pa_iload_n hE dX3_fadesOn_74 rfl 1 rfl ?_
              refine pa_iload_n hE dX3_fadesOn_75 rfl 2 rfl ?_
              refine pa_iconst hE dX3_fadesOn_76 (v := 4) (by decide) ?_
              refine pa_irem hE dX3_fadesOn_77 (by decide) ?_
              refine pa_callVri hE (ct_X3_partOf l g D q u0 i0 x1 (pa_rem x2 4) _ hi0 hw) cv_RX3_104 (pa_in1 hi0) rfl rfl rfl (pa_hR (by omega) (by decide)) rfl (Nat.le_of_ble_eq_true rfl) dX3_fadesOn_78 (fun r10 hw => ?_)
              refine pa_iadd hE dX3_fadesOn_81 ?_
              exact pa_iret hE hr ⟨rfl, hw⟩ rfl dX3_fadesOn_82
            · have hw := Eq.mp (if_neg h7) hw
              refine pa_tswOut hE dX3_fadesOn_5 (by have eh2 := pa_neL h2 (by decide : (1 : Int32).toInt = 1); have eh3 := pa_neL h3 (by decide : (2 : Int32).toInt = 2); have eh4 := pa_neL h4 (by decide : (3 : Int32).toInt = 3); have eh5 := pa_neL h5 (by decide : (4 : Int32).toInt = 4); have eh6 := pa_neL h6 (by decide : (5 : Int32).toInt = 5); have eh7 := pa_neL h7 (by decide : (6 : Int32).toInt = 6); omega) (tgt := 83) (by decide) ?_
              refine pa_iconst hE dX3_fadesOn_83 (v := 1) (by decide) ?_
              exact pa_iret hE hr ⟨rfl, hw⟩ rfl dX3_fadesOn_84
def wp_X3_fadesOn (u0 : pa_S) (i0 : Nat) (x1 : Int32) (x2 : Int32) (post : Int32 → Prop) : Prop := wb_X3_fadesOn_0 u0 i0 x1 x2 post
theorem ct_X3_fadesOn (l : Launch) (g : pa_G) (D : va_G) (q : Nat → Nat → Nat) (u0 : pa_S) (i0 : Nat) (x1 : Int32) (x2 : Int32) (post : Int32 → Prop) (hi0 : i0 < 6) (hw : wp_X3_fadesOn u0 i0 x1 x2 post) : pa_Ct l yX3_fadesOn cX3_fadesOn 3 (some .int) 5 g D q u0 [.ref (q 1 i0), .int x1, .int x2] (fun r => some (.int r)) (fun r u => u = u0 ∧ post r) := pa_met rfl rfl (Nat.le_of_ble_eq_true rfl) rfl (fun p e s m args below meth c A hE hr => tb_X3_fadesOn_0 hE hr hi0 hw)
def wb_X3_fadesOver_5 (k5 : Int32 → Int32 → Int32 → Int32 → Prop) (u0 : pa_S) (i0 : Nat) (x1 : Int32) (x2 : Int32) (x3 : Int32) (x4 : Int32) (post : Int32 → Prop) : Prop :=
  (if x2 ≤ x4 then post x3 else (wp_X3_fadesOn u0 i0 x1 ((pa_I u0 1 i0 8) + x4) (fun (r2 : Int32) => ∀ v3 : Int32, v3 = (x3 + r2) → ∀ v4 : Int32, v4 = x4 + 1 → k5 x1 x2 v3 v4)))
set_option maxRecDepth 100000 in
set_option maxHeartbeats 4000000 in
theorem tb_X3_fadesOver_5 {p : Program} {l : Launch} {e : Env} {s : State} {m : MethodId} {args : Array Value} {below : List Frame} {meth : Method} {c : Code} {A : Nat → Prop} {D : va_G} {g : pa_G} {q : Nat → Nat → Nat} {k5 : Int32 → Int32 → Int32 → Int32 → Prop} {u0 : pa_S} {i0 : Nat} {x1 : Int32} {x2 : Int32} {x3 : Int32} {x4 : Int32} {post : Int32 → Prop} (hE : pa_Fx p s m args meth c A D g 5 cX3_fadesOver RX3) (hr : meth.sig.returnType = (some .int)) (hi0 : i0 < 6) (hk5 : ∀ (x1 : Int32) (x2 : Int32) (x3 : Int32) (x4 : Int32), k5 x1 x2 x3 x4 → pa_At p l e (pa_rm 6) s m args below meth c (MQ below (pa_Qc g D q (fun r => some (.int r)) (fun r u => u = u0 ∧ post r) A) args s 0 0 A) A D g 5 0 0 q u0 5 [(0, .ref (q 1 i0)), (1, .int x1), (2, .int x2), (3, .int x3), (4, .int x4)] []) (hw : wb_X3_fadesOver_5 k5 u0 i0 x1 x2 x3 x4 post) : pa_At p l e (pa_rm 6) s m args below meth c (MQ below (pa_Qc g D q (fun r => some (.int r)) (fun r u => u = u0 ∧ post r) A) args s 0 0 A) A D g 5 0 0 q u0 5 [(0, .ref (q 1 i0)), (1, .int x1), (2, .int x2), (3, .int x3), (4, .int x4)] [] := by
  refine pa_iload hE dX3_fadesOver_5 4 rfl ?_
  refine pa_iload_n hE dX3_fadesOver_7 rfl 2 rfl ?_
  refine pa_icmp_ge hE dX3_fadesOver_8 (tgt := 32) (by decide) (fun h1 => ?_) (fun h1 => ?_)
  · have hw := Eq.mp (if_pos h1) hw
    refine pa_iload_n hE dX3_fadesOver_32 rfl 3 rfl ?_
    exact pa_iret hE hr ⟨rfl, hw⟩ rfl dX3_fadesOver_33
  · have hw := Eq.mp (if_neg h1) hw
    refine pa_iload_n hE dX3_fadesOver_11 rfl 3 rfl ?_
    refine pa_aload_n hE dX3_fadesOver_12 rfl 0 rfl ?_
    refine pa_iload_n hE dX3_fadesOver_13 rfl 1 rfl ?_
    refine pa_aload_n hE dX3_fadesOver_14 rfl 0 rfl ?_
    refine pg_1_8 (pa_in1 hi0) hE (pa_m1 152 rfl rfl) dX3_fadesOver_15 ?_
    refine pa_iload hE dX3_fadesOver_18 4 rfl ?_
    refine pa_iadd hE dX3_fadesOver_20 ?_
    refine pa_callVri hE (ct_X3_fadesOn l g D q u0 i0 x1 ((pa_I u0 1 i0 8) + x4) _ hi0 hw) cv_RX3_107 (pa_in1 hi0) rfl rfl rfl (pa_hR (by omega) (by decide)) rfl (Nat.le_of_ble_eq_true rfl) dX3_fadesOver_21 (fun r2 hw => ?_)
    refine pa_iadd hE dX3_fadesOver_24 ?_
    refine pa_namei (fun v3 ev3 => ?_)
    have hw := hw v3 ev3
    refine pa_istore_n hE dX3_fadesOver_25 rfl (by decide) (lvr := [(0, .ref (q 1 i0)), (1, .int x1), (2, .int x2), (4, .int x4)]) rfl ?_
    refine pa_iinc hE dX3_fadesOver_26 (v := 1) 4 rfl (by decide) (by decide) (lvr := [(3, .int v3), (0, .ref (q 1 i0)), (1, .int x1), (2, .int x2)]) rfl (fun v4 ev4 => ?_)
    have hw := hw v4 ev4
    refine pa_goto hE dX3_fadesOver_29 (tgt := 5) (by decide) ?_
    exact pa_sub [2, 3, 4, 1, 0] rfl (hk5 x1 x2 v3 v4 hw)
def wl_X3_fadesOver_5 (i0 : Nat) (post : Int32 → Prop) (u0 : pa_S) : Nat → Int32 → Int32 → Int32 → Int32 → Prop
  | 0, _, _, _, _ => False
  | n + 1, x1, x2, x3, x4 => wb_X3_fadesOver_5 (fun x1 x2 x3 x4 => wl_X3_fadesOver_5 i0 post u0 n x1 x2 x3 x4) u0 i0 x1 x2 x3 x4 post
set_option maxRecDepth 100000 in
set_option maxHeartbeats 4000000 in
theorem tl_X3_fadesOver_5 {p : Program} {l : Launch} {e : Env} {s : State} {m : MethodId} {args : Array Value} {below : List Frame} {meth : Method} {c : Code} {A : Nat → Prop} {D : va_G} {g : pa_G} {q : Nat → Nat → Nat} {u0 : pa_S} {i0 : Nat} {post : Int32 → Prop} (hE : pa_Fx p s m args meth c A D g 5 cX3_fadesOver RX3) (hr : meth.sig.returnType = (some .int)) (hi0 : i0 < 6) : ∀ (n : Nat) (x1 : Int32) (x2 : Int32) (x3 : Int32) (x4 : Int32), wl_X3_fadesOver_5 i0 post u0 n x1 x2 x3 x4 → pa_At p l e (pa_rm 6) s m args below meth c (MQ below (pa_Qc g D q (fun r => some (.int r)) (fun r u => u = u0 ∧ post r) A) args s 0 0 A) A D g 5 0 0 q u0 5 [(0, .ref (q 1 i0)), (1, .int x1), (2, .int x2), (3, .int x3), (4, .int x4)] []
  | 0, _, _, _, _, hw => absurd hw (by simp only [wl_X3_fadesOver_5]; exact fun z => z)
  | n + 1, x1, x2, x3, x4, hw => tb_X3_fadesOver_5 hE hr hi0 (fun x1 x2 x3 x4  hw1 => tl_X3_fadesOver_5 hE hr hi0 n x1 x2 x3 x4  hw1) hw
def wb_X3_fadesOver_0 (u0 : pa_S) (i0 : Nat) (x1 : Int32) (x2 : Int32) (post : Int32 → Prop) : Prop :=
  wl_X3_fadesOver_5 i0 post u0 5000 x1 x2 0 0
set_option maxRecDepth 100000 in
set_option maxHeartbeats 4000000 in
theorem tb_X3_fadesOver_0 {p : Program} {l : Launch} {e : Env} {s : State} {m : MethodId} {args : Array Value} {below : List Frame} {meth : Method} {c : Code} {A : Nat → Prop} {D : va_G} {g : pa_G} {q : Nat → Nat → Nat} {u0 : pa_S} {i0 : Nat} {x1 : Int32} {x2 : Int32} {post : Int32 → Prop} (hE : pa_Fx p s m args meth c A D g 5 cX3_fadesOver RX3) (hr : meth.sig.returnType = (some .int)) (hi0 : i0 < 6) (hw : wb_X3_fadesOver_0 u0 i0 x1 x2 post) : pa_At p l e (pa_rm 6) s m args below meth c (MQ below (pa_Qc g D q (fun r => some (.int r)) (fun r u => u = u0 ∧ post r) A) args s 0 0 A) A D g 5 0 0 q u0 0 [(0, .ref (q 1 i0)), (1, .int x1), (2, .int x2)] [] := by
  refine pa_iconst hE dX3_fadesOver_0 (v := 0) (by decide) ?_
  refine pa_istore_n hE dX3_fadesOver_1 rfl (by decide) (lvr := [(0, .ref (q 1 i0)), (1, .int x1), (2, .int x2)]) rfl ?_
  refine pa_iconst hE dX3_fadesOver_2 (v := 0) (by decide) ?_
  refine pa_istore hE dX3_fadesOver_3 (by decide) (lvr := [(3, .int 0), (0, .ref (q 1 i0)), (1, .int x1), (2, .int x2)]) rfl ?_
  exact pa_sub [2, 3, 4, 1, 0] rfl (tl_X3_fadesOver_5 hE hr hi0 5000 x1 x2 0 0 hw)
def wp_X3_fadesOver (u0 : pa_S) (i0 : Nat) (x1 : Int32) (x2 : Int32) (post : Int32 → Prop) : Prop := wb_X3_fadesOver_0 u0 i0 x1 x2 post
theorem ct_X3_fadesOver (l : Launch) (g : pa_G) (D : va_G) (q : Nat → Nat → Nat) (u0 : pa_S) (i0 : Nat) (x1 : Int32) (x2 : Int32) (post : Int32 → Prop) (hi0 : i0 < 6) (hw : wp_X3_fadesOver u0 i0 x1 x2 post) : pa_Ct l yX3_fadesOver cX3_fadesOver 5 (some .int) 6 g D q u0 [.ref (q 1 i0), .int x1, .int x2] (fun r => some (.int r)) (fun r u => u = u0 ∧ post r) := pa_met rfl rfl (Nat.le_of_ble_eq_true rfl) rfl (fun p e s m args below meth c A hE hr => tb_X3_fadesOver_0 hE hr hi0 hw)
def wb_X3_lengthBehind_0 (u0 : pa_S) (i0 : Nat) (x1 : Int32) (x2 : Int32) (x3 : Int32) (post : Int32 → Prop) : Prop :=
  (wp_X3_lengthOf u0 i0 x1 x2 (fun (r1 : Int32) => (wp_X3_fadesOver u0 i0 x1 x3 (fun (r2 : Int32) => post (pa_max 0 (r1 - r2))))))
set_option maxRecDepth 100000 in
set_option maxHeartbeats 4000000 in
theorem tb_X3_lengthBehind_0 {p : Program} {l : Launch} {e : Env} {s : State} {m : MethodId} {args : Array Value} {below : List Frame} {meth : Method} {c : Code} {A : Nat → Prop} {D : va_G} {g : pa_G} {q : Nat → Nat → Nat} {u0 : pa_S} {i0 : Nat} {x1 : Int32} {x2 : Int32} {x3 : Int32} {post : Int32 → Prop} (hE : pa_Fx p s m args meth c A D g 4 cX3_lengthBehind RX3) (hr : meth.sig.returnType = (some .int)) (hi0 : i0 < 6) (hw : wb_X3_lengthBehind_0 u0 i0 x1 x2 x3 post) : pa_At p l e (pa_rm 7) s m args below meth c (MQ below (pa_Qc g D q (fun r => some (.int r)) (fun r u => u = u0 ∧ post r) A) args s 0 0 A) A D g 4 0 0 q u0 0 [(0, .ref (q 1 i0)), (1, .int x1), (2, .int x2), (3, .int x3)] [] := by
  refine pa_iconst hE dX3_lengthBehind_0 (v := 0) (by decide) ?_
  refine pa_aload_n hE dX3_lengthBehind_1 rfl 0 rfl ?_
  refine pa_iload_n hE dX3_lengthBehind_2 rfl 1 rfl ?_
  refine pa_iload_n hE dX3_lengthBehind_3 rfl 2 rfl ?_
  refine pa_callVri hE (ct_X3_lengthOf l g D q u0 i0 x1 x2 _ hi0 hw) cv_RX3_82 (pa_in1 hi0) rfl rfl rfl (pa_hR (by omega) (by decide)) rfl (Nat.le_of_ble_eq_true rfl) dX3_lengthBehind_4 (fun r1 hw => ?_)
  refine pa_aload_n hE dX3_lengthBehind_7 rfl 0 rfl ?_
  refine pa_iload_n hE dX3_lengthBehind_8 rfl 1 rfl ?_
  refine pa_iload_n hE dX3_lengthBehind_9 rfl 3 rfl ?_
  refine pa_callVri hE (ct_X3_fadesOver l g D q u0 i0 x1 x3 _ hi0 hw) cv_RX3_110 (pa_in1 hi0) rfl rfl rfl (pa_hR (by omega) (by decide)) rfl (Nat.le_of_ble_eq_true rfl) dX3_lengthBehind_10 (fun r2 hw => ?_)
  refine pa_isub hE dX3_lengthBehind_13 ?_
  refine pa_mmax hE dX3_lengthBehind_14 cm_RX3_93 (pa_hRm (by omega)) (Nat.le_of_ble_eq_true rfl) ?_
  exact pa_iret hE hr ⟨rfl, hw⟩ rfl dX3_lengthBehind_17
def wp_X3_lengthBehind (u0 : pa_S) (i0 : Nat) (x1 : Int32) (x2 : Int32) (x3 : Int32) (post : Int32 → Prop) : Prop := wb_X3_lengthBehind_0 u0 i0 x1 x2 x3 post
theorem ct_X3_lengthBehind (l : Launch) (g : pa_G) (D : va_G) (q : Nat → Nat → Nat) (u0 : pa_S) (i0 : Nat) (x1 : Int32) (x2 : Int32) (x3 : Int32) (post : Int32 → Prop) (hi0 : i0 < 6) (hw : wp_X3_lengthBehind u0 i0 x1 x2 x3 post) : pa_Ct l yX3_lengthBehind cX3_lengthBehind 4 (some .int) 7 g D q u0 [.ref (q 1 i0), .int x1, .int x2, .int x3] (fun r => some (.int r)) (fun r u => u = u0 ∧ post r) := pa_met rfl rfl (Nat.le_of_ble_eq_true rfl) rfl (fun p e s m args below meth c A hE hr => tb_X3_lengthBehind_0 hE hr hi0 hw)
def wb_X3_goDays_20 (k2 : pa_S → Int32 → Int32 → Prop) (k20 : pa_S → Int32 → Int32 → Int32 → Int32 → Prop) (u0 : pa_S) (i0 : Nat) (x1 : Int32) (x2 : Int32) (x3 : Int32) (x4 : Int32) (post : pa_S → Prop) : Prop :=
  (if 3 ≤ x4 then ∀ v5 : Int32, v5 = x2 + 1 → k2 u0 x1 v5 else (wp_X3_lengthOf u0 i0 x2 x4 (fun (r6 : Int32) => (wp_X3_putLength u0 i0 x2 x4 (pa_max 0 (r6 - x3)) (fun (u8 : pa_S) => ∀ v9 : Int32, v9 = x4 + 1 → k20 u8 x1 x2 x3 v9)))))
set_option maxRecDepth 100000 in
set_option maxHeartbeats 4000000 in
theorem tb_X3_goDays_20 {p : Program} {l : Launch} {e : Env} {s : State} {m : MethodId} {args : Array Value} {below : List Frame} {meth : Method} {c : Code} {A : Nat → Prop} {D : va_G} {g : pa_G} {q : Nat → Nat → Nat} {k2 : pa_S → Int32 → Int32 → Prop} {k20 : pa_S → Int32 → Int32 → Int32 → Int32 → Prop} {u0 : pa_S} {i0 : Nat} {x1 : Int32} {x2 : Int32} {x3 : Int32} {x4 : Int32} {post : pa_S → Prop} (hE : pa_Fx p s m args meth c A D g 5 cX3_goDays RX3) (hr : meth.sig.returnType = none) (hi0 : i0 < 6) (hk2 : ∀ (u : pa_S)  (x1 : Int32) (x2 : Int32), k2 u x1 x2 → pa_At p l e (pa_rm 7) s m args below meth c (MQ below (pa_Qc g D q (fun (_ : Unit) => none) (fun (_ : Unit) u => post u) A) args s 0 0 A) A D g 5 0 0 q u 2 [(0, .ref (q 1 i0)), (1, .int x1), (2, .int x2)] []) (hk20 : ∀ (u : pa_S)  (x1 : Int32) (x2 : Int32) (x3 : Int32) (x4 : Int32), k20 u x1 x2 x3 x4 → pa_At p l e (pa_rm 7) s m args below meth c (MQ below (pa_Qc g D q (fun (_ : Unit) => none) (fun (_ : Unit) u => post u) A) args s 0 0 A) A D g 5 0 0 q u 20 [(0, .ref (q 1 i0)), (1, .int x1), (2, .int x2), (3, .int x3), (4, .int x4)] []) (hw : wb_X3_goDays_20 k2 k20 u0 i0 x1 x2 x3 x4 post) : pa_At p l e (pa_rm 7) s m args below meth c (MQ below (pa_Qc g D q (fun (_ : Unit) => none) (fun (_ : Unit) u => post u) A) args s 0 0 A) A D g 5 0 0 q u0 20 [(0, .ref (q 1 i0)), (1, .int x1), (2, .int x2), (3, .int x3), (4, .int x4)] [] := by
  refine pa_iload hE dX3_goDays_20 4 rfl ?_
  refine pa_iconst hE dX3_goDays_22 (v := 3) (by decide) ?_
  refine pa_icmp_ge hE dX3_goDays_23 (tgt := 52) (by decide) (fun h4 => ?_) (fun h4 => ?_)
  · have hw := Eq.mp (if_pos h4) hw
    refine pa_iinc hE dX3_goDays_52 (v := 1) 2 rfl (by decide) (by decide) (lvr := [(0, .ref (q 1 i0)), (1, .int x1), (3, .int x3), (4, .int x4)]) rfl (fun v5 ev5 => ?_)
    have hw := hw v5 ev5
    refine pa_goto hE dX3_goDays_55 (tgt := 2) (by decide) ?_
    exact pa_sub [1, 2, 0] rfl (hk2 u0 x1 v5 hw)
  · have hw := Eq.mp (if_neg h4) hw
    refine pa_aload_n hE dX3_goDays_26 rfl 0 rfl ?_
    refine pa_iload_n hE dX3_goDays_27 rfl 2 rfl ?_
    refine pa_iload hE dX3_goDays_28 4 rfl ?_
    refine pa_iconst hE dX3_goDays_30 (v := 0) (by decide) ?_
    refine pa_aload_n hE dX3_goDays_31 rfl 0 rfl ?_
    refine pa_iload_n hE dX3_goDays_32 rfl 2 rfl ?_
    refine pa_iload hE dX3_goDays_33 4 rfl ?_
    refine pa_callVri hE (ct_X3_lengthOf l g D q u0 i0 x2 x4 _ hi0 hw) cv_RX3_82 (pa_in1 hi0) rfl rfl rfl (pa_hR (by omega) (by decide)) rfl (Nat.le_of_ble_eq_true rfl) dX3_goDays_35 (fun r6 hw => ?_)
    refine pa_iload_n hE dX3_goDays_38 rfl 3 rfl ?_
    refine pa_isub hE dX3_goDays_39 ?_
    refine pa_mmax hE dX3_goDays_40 cm_RX3_93 (pa_hRm (by omega)) (Nat.le_of_ble_eq_true rfl) ?_
    refine pa_callVv hE (ct_X3_putLength l g D q u0 i0 x2 x4 (pa_max 0 (r6 - x3)) _ hi0 hw) cv_RX3_64 (pa_in1 hi0) rfl rfl rfl (pa_hR (by omega) (by decide)) rfl (Nat.le_of_ble_eq_true rfl) dX3_goDays_43 (fun u8 hw => ?_)
    refine pa_iinc hE dX3_goDays_46 (v := 1) 4 rfl (by decide) (by decide) (lvr := [(0, .ref (q 1 i0)), (1, .int x1), (2, .int x2), (3, .int x3)]) rfl (fun v9 ev9 => ?_)
    have hw := hw v9 ev9
    refine pa_goto hE dX3_goDays_49 (tgt := 20) (by decide) ?_
    exact pa_sub [1, 2, 3, 4, 0] rfl (hk20 u8 x1 x2 x3 v9 hw)
def wl_X3_goDays_20 (k2 : pa_S → Int32 → Int32 → Prop) (i0 : Nat) (post : pa_S → Prop) : Nat → pa_S → Int32 → Int32 → Int32 → Int32 → Prop
  | 0, _, _, _, _, _ => False
  | n + 1, u0, x1, x2, x3, x4 => wb_X3_goDays_20 k2 (fun u0 x1 x2 x3 x4 => wl_X3_goDays_20 k2 i0 post n u0 x1 x2 x3 x4) u0 i0 x1 x2 x3 x4 post
set_option maxRecDepth 100000 in
set_option maxHeartbeats 4000000 in
theorem tl_X3_goDays_20 {p : Program} {l : Launch} {e : Env} {s : State} {m : MethodId} {args : Array Value} {below : List Frame} {meth : Method} {c : Code} {A : Nat → Prop} {D : va_G} {g : pa_G} {q : Nat → Nat → Nat} {k2 : pa_S → Int32 → Int32 → Prop} {i0 : Nat} {post : pa_S → Prop} (hE : pa_Fx p s m args meth c A D g 5 cX3_goDays RX3) (hr : meth.sig.returnType = none) (hi0 : i0 < 6) (hk2 : ∀ (u : pa_S)  (x1 : Int32) (x2 : Int32), k2 u x1 x2 → pa_At p l e (pa_rm 7) s m args below meth c (MQ below (pa_Qc g D q (fun (_ : Unit) => none) (fun (_ : Unit) u => post u) A) args s 0 0 A) A D g 5 0 0 q u 2 [(0, .ref (q 1 i0)), (1, .int x1), (2, .int x2)] []) : ∀ (n : Nat) (u0 : pa_S) (x1 : Int32) (x2 : Int32) (x3 : Int32) (x4 : Int32), wl_X3_goDays_20 k2 i0 post n u0 x1 x2 x3 x4 → pa_At p l e (pa_rm 7) s m args below meth c (MQ below (pa_Qc g D q (fun (_ : Unit) => none) (fun (_ : Unit) u => post u) A) args s 0 0 A) A D g 5 0 0 q u0 20 [(0, .ref (q 1 i0)), (1, .int x1), (2, .int x2), (3, .int x3), (4, .int x4)] []
  | 0, _, _, _, _, _, hw => absurd hw (by simp only [wl_X3_goDays_20]; exact fun z => z)
  | n + 1, u0, x1, x2, x3, x4, hw => tb_X3_goDays_20 hE hr hi0 hk2 (fun u0 x1 x2 x3 x4  hw1 => tl_X3_goDays_20 hE hr hi0 hk2 n u0 x1 x2 x3 x4  hw1) hw
def wb_X3_goDays_2 (k2 : pa_S → Int32 → Int32 → Prop) (u0 : pa_S) (i0 : Nat) (x1 : Int32) (x2 : Int32) (post : pa_S → Prop) : Prop :=
  (if (pa_I u0 1 i0 6) ≤ x2 then ∀ u2 : pa_S, u2 = pa_sI u0 1 i0 8 ((pa_I u0 1 i0 8) + x1) → post u2 else (wp_X3_fadesOver u0 i0 x2 x1 (fun (r3 : Int32) => wl_X3_goDays_20 k2 i0 post 5000 u0 x1 x2 r3 0)))
set_option maxRecDepth 100000 in
set_option maxHeartbeats 4000000 in
theorem tb_X3_goDays_2 {p : Program} {l : Launch} {e : Env} {s : State} {m : MethodId} {args : Array Value} {below : List Frame} {meth : Method} {c : Code} {A : Nat → Prop} {D : va_G} {g : pa_G} {q : Nat → Nat → Nat} {k2 : pa_S → Int32 → Int32 → Prop} {u0 : pa_S} {i0 : Nat} {x1 : Int32} {x2 : Int32} {post : pa_S → Prop} (hE : pa_Fx p s m args meth c A D g 5 cX3_goDays RX3) (hr : meth.sig.returnType = none) (hi0 : i0 < 6) (hk2 : ∀ (u : pa_S)  (x1 : Int32) (x2 : Int32), k2 u x1 x2 → pa_At p l e (pa_rm 7) s m args below meth c (MQ below (pa_Qc g D q (fun (_ : Unit) => none) (fun (_ : Unit) u => post u) A) args s 0 0 A) A D g 5 0 0 q u 2 [(0, .ref (q 1 i0)), (1, .int x1), (2, .int x2)] []) (hw : wb_X3_goDays_2 k2 u0 i0 x1 x2 post) : pa_At p l e (pa_rm 7) s m args below meth c (MQ below (pa_Qc g D q (fun (_ : Unit) => none) (fun (_ : Unit) u => post u) A) args s 0 0 A) A D g 5 0 0 q u0 2 [(0, .ref (q 1 i0)), (1, .int x1), (2, .int x2)] [] := by
  refine pa_iload_n hE dX3_goDays_2 rfl 2 rfl ?_
  refine pa_aload_n hE dX3_goDays_3 rfl 0 rfl ?_
  refine pg_1_6 (pa_in1 hi0) hE (pa_m1 149 rfl rfl) dX3_goDays_4 ?_
  refine pa_icmp_ge hE dX3_goDays_7 (tgt := 58) (by decide) (fun h1 => ?_) (fun h1 => ?_)
  · have hw := Eq.mp (if_pos h1) hw
    refine pa_aload_n hE dX3_goDays_58 rfl 0 rfl ?_
    refine pa_dup hE dX3_goDays_59 rfl ?_
    refine pg_1_8 (pa_in1 hi0) hE (pa_m1 152 rfl rfl) dX3_goDays_60 ?_
    refine pa_iload_n hE dX3_goDays_63 rfl 1 rfl ?_
    refine pa_iadd hE dX3_goDays_64 ?_
    refine pp_1_8 (pa_in1 hi0) hE (pa_m1 152 rfl rfl) dX3_goDays_65 (fun u2 eu2 => ?_)
    have hw := hw u2 eu2
    exact pa_vret (r := ()) hE hr hw rfl dX3_goDays_68
  · have hw := Eq.mp (if_neg h1) hw
    refine pa_aload_n hE dX3_goDays_10 rfl 0 rfl ?_
    refine pa_iload_n hE dX3_goDays_11 rfl 2 rfl ?_
    refine pa_iload_n hE dX3_goDays_12 rfl 1 rfl ?_
    refine pa_callVri hE (ct_X3_fadesOver l g D q u0 i0 x2 x1 _ hi0 hw) cv_RX3_110 (pa_in1 hi0) rfl rfl rfl (pa_hR (by omega) (by decide)) rfl (Nat.le_of_ble_eq_true rfl) dX3_goDays_13 (fun r3 hw => ?_)
    refine pa_istore_n hE dX3_goDays_16 rfl (by decide) (lvr := [(0, .ref (q 1 i0)), (1, .int x1), (2, .int x2)]) rfl ?_
    refine pa_iconst hE dX3_goDays_17 (v := 0) (by decide) ?_
    refine pa_istore hE dX3_goDays_18 (by decide) (lvr := [(3, .int r3), (0, .ref (q 1 i0)), (1, .int x1), (2, .int x2)]) rfl ?_
    exact pa_sub [2, 3, 4, 1, 0] rfl (tl_X3_goDays_20 hE hr hi0 hk2 5000 u0 x1 x2 r3 0 hw)
def wl_X3_goDays_2 (i0 : Nat) (post : pa_S → Prop) : Nat → pa_S → Int32 → Int32 → Prop
  | 0, _, _, _ => False
  | n + 1, u0, x1, x2 => wb_X3_goDays_2 (fun u0 x1 x2 => wl_X3_goDays_2 i0 post n u0 x1 x2) u0 i0 x1 x2 post
set_option maxRecDepth 100000 in
set_option maxHeartbeats 4000000 in
theorem tl_X3_goDays_2 {p : Program} {l : Launch} {e : Env} {s : State} {m : MethodId} {args : Array Value} {below : List Frame} {meth : Method} {c : Code} {A : Nat → Prop} {D : va_G} {g : pa_G} {q : Nat → Nat → Nat} {i0 : Nat} {post : pa_S → Prop} (hE : pa_Fx p s m args meth c A D g 5 cX3_goDays RX3) (hr : meth.sig.returnType = none) (hi0 : i0 < 6) : ∀ (n : Nat) (u0 : pa_S) (x1 : Int32) (x2 : Int32), wl_X3_goDays_2 i0 post n u0 x1 x2 → pa_At p l e (pa_rm 7) s m args below meth c (MQ below (pa_Qc g D q (fun (_ : Unit) => none) (fun (_ : Unit) u => post u) A) args s 0 0 A) A D g 5 0 0 q u0 2 [(0, .ref (q 1 i0)), (1, .int x1), (2, .int x2)] []
  | 0, _, _, _, hw => absurd hw (by simp only [wl_X3_goDays_2]; exact fun z => z)
  | n + 1, u0, x1, x2, hw => tb_X3_goDays_2 hE hr hi0 (fun u0 x1 x2  hw1 => tl_X3_goDays_2 hE hr hi0 n u0 x1 x2  hw1) hw
def wb_X3_goDays_0 (u0 : pa_S) (i0 : Nat) (x1 : Int32) (post : pa_S → Prop) : Prop :=
  wl_X3_goDays_2 i0 post 5000 u0 x1 0
set_option maxRecDepth 100000 in
set_option maxHeartbeats 4000000 in
theorem tb_X3_goDays_0 {p : Program} {l : Launch} {e : Env} {s : State} {m : MethodId} {args : Array Value} {below : List Frame} {meth : Method} {c : Code} {A : Nat → Prop} {D : va_G} {g : pa_G} {q : Nat → Nat → Nat} {u0 : pa_S} {i0 : Nat} {x1 : Int32} {post : pa_S → Prop} (hE : pa_Fx p s m args meth c A D g 5 cX3_goDays RX3) (hr : meth.sig.returnType = none) (hi0 : i0 < 6) (hw : wb_X3_goDays_0 u0 i0 x1 post) : pa_At p l e (pa_rm 7) s m args below meth c (MQ below (pa_Qc g D q (fun (_ : Unit) => none) (fun (_ : Unit) u => post u) A) args s 0 0 A) A D g 5 0 0 q u0 0 [(0, .ref (q 1 i0)), (1, .int x1)] [] := by
  refine pa_iconst hE dX3_goDays_0 (v := 0) (by decide) ?_
  refine pa_istore_n hE dX3_goDays_1 rfl (by decide) (lvr := [(0, .ref (q 1 i0)), (1, .int x1)]) rfl ?_
  exact pa_sub [1, 2, 0] rfl (tl_X3_goDays_2 hE hr hi0 5000 u0 x1 0 hw)
def wp_X3_goDays (u0 : pa_S) (i0 : Nat) (x1 : Int32) (post : pa_S → Prop) : Prop := wb_X3_goDays_0 u0 i0 x1 post
theorem ct_X3_goDays (l : Launch) (g : pa_G) (D : va_G) (q : Nat → Nat → Nat) (u0 : pa_S) (i0 : Nat) (x1 : Int32) (post : pa_S → Prop) (hi0 : i0 < 6) (hw : wp_X3_goDays u0 i0 x1 post) : pa_Ct l yX3_goDays cX3_goDays 5 none 7 g D q u0 [.ref (q 1 i0), .int x1] (fun (_ : Unit) => none) (fun (_ : Unit) u => post u) := pa_met rfl rfl (Nat.le_of_ble_eq_true rfl) rfl (fun p e s m args below meth c A hE hr => tb_X3_goDays_0 hE hr hi0 hw)
def wb_X3_drawOn_0 (u0 : pa_S) (i0 : Nat) (x1 : Int32) (x2 : Int32) (x3 : Int32) (post : Int32 → pa_S → Prop) : Prop :=
  (wp_X3_lengthOf u0 i0 x1 x2 (fun (r1 : Int32) => (pa_N u0 1 i0 < pa_N u0 70 0) ∧ ∀ v3 : Int32, v3 = (pa_min (pa_min x3 (pa_I u0 1 i0 7)) (pa_max 0 ((pa_I u0 14 (pa_N u0 1 i0) 2) - r1))) → (wp_X3_putLength u0 i0 x1 x2 (r1 + v3) (fun (u5 : pa_S) => ∀ u6 : pa_S, u6 = pa_sI u5 1 i0 7 ((pa_I u5 1 i0 7) - v3) → post v3 u6))))
set_option maxRecDepth 100000 in
set_option maxHeartbeats 4000000 in
theorem tb_X3_drawOn_0 {p : Program} {l : Launch} {e : Env} {s : State} {m : MethodId} {args : Array Value} {below : List Frame} {meth : Method} {c : Code} {A : Nat → Prop} {D : va_G} {g : pa_G} {q : Nat → Nat → Nat} {u0 : pa_S} {i0 : Nat} {x1 : Int32} {x2 : Int32} {x3 : Int32} {post : Int32 → pa_S → Prop} (hE : pa_Fx p s m args meth c A D g 6 cX3_drawOn RX3) (hr : meth.sig.returnType = (some .int)) (hi0 : i0 < 6) (hw : wb_X3_drawOn_0 u0 i0 x1 x2 x3 post) : pa_At p l e (pa_rm 5) s m args below meth c (MQ below (pa_Qc g D q (fun r => some (.int r)) post A) args s 0 0 A) A D g 6 0 0 q u0 0 [(0, .ref (q 1 i0)), (1, .int x1), (2, .int x2), (3, .int x3)] [] := by
  refine pa_aload_n hE dX3_drawOn_0 rfl 0 rfl ?_
  refine pa_iload_n hE dX3_drawOn_1 rfl 1 rfl ?_
  refine pa_iload_n hE dX3_drawOn_2 rfl 2 rfl ?_
  refine pa_callVri hE (ct_X3_lengthOf l g D q u0 i0 x1 x2 _ hi0 hw) cv_RX3_82 (pa_in1 hi0) rfl rfl rfl (pa_hR (by omega) (by decide)) rfl (Nat.le_of_ble_eq_true rfl) dX3_drawOn_3 (fun r1 hw => ?_)
  refine pa_istore hE dX3_drawOn_6 (by decide) (lvr := [(0, .ref (q 1 i0)), (1, .int x1), (2, .int x2), (3, .int x3)]) rfl ?_
  refine pa_iload_n hE dX3_drawOn_8 rfl 4 rfl ?_
  refine pa_aload_n hE dX3_drawOn_9 rfl 1 rfl ?_
  refine pg_1_7 (pa_in1 hi0) hE (pa_m1 150 rfl rfl) dX3_drawOn_10 ?_
  refine pa_mmin hE dX3_drawOn_13 cm_RX3_113 (pa_hRm (by omega)) (Nat.le_of_ble_eq_true rfl) ?_
  refine pa_iconst hE dX3_drawOn_16 (v := 0) (by decide) ?_
  refine pa_aload_n hE dX3_drawOn_17 rfl 1 rfl ?_
  obtain ⟨h2, hw⟩ := hw
  refine pg_1_9 (pa_in1 hi0) hE (pa_m1 154 rfl rfl) dX3_drawOn_18 ?_
  refine pg_14_2 (pa_in14 h2) hE (pa_m1 112 rfl rfl) dX3_drawOn_21 ?_
  refine pa_iload hE dX3_drawOn_24 0 rfl ?_
  refine pa_isub hE dX3_drawOn_26 ?_
  refine pa_mmax hE dX3_drawOn_27 cm_RX3_93 (pa_hRm (by omega)) (Nat.le_of_ble_eq_true rfl) ?_
  refine pa_mmin hE dX3_drawOn_30 cm_RX3_113 (pa_hRm (by omega)) (Nat.le_of_ble_eq_true rfl) ?_
  refine pa_namei (fun v3 ev3 => ?_)
  have hw := hw v3 ev3
  refine pa_istore hE dX3_drawOn_33 (by decide) (lvr := [(4, .int r1), (0, .ref (q 1 i0)), (1, .int x1), (2, .int x2), (3, .int x3)]) rfl ?_
  refine pa_aload_n hE dX3_drawOn_35 rfl 2 rfl ?_
  refine pa_iload_n hE dX3_drawOn_36 rfl 3 rfl ?_
  refine pa_iload_n hE dX3_drawOn_37 rfl 4 rfl ?_
  refine pa_iload hE dX3_drawOn_38 1 rfl ?_
  refine pa_iload hE dX3_drawOn_40 0 rfl ?_
  refine pa_iadd hE dX3_drawOn_42 ?_
  refine pa_callVv hE (ct_X3_putLength l g D q u0 i0 x1 x2 (r1 + v3) _ hi0 hw) cv_RX3_64 (pa_in1 hi0) rfl rfl rfl (pa_hR (by omega) (by decide)) rfl (Nat.le_of_ble_eq_true rfl) dX3_drawOn_43 (fun u5 hw => ?_)
  refine pa_aload_n hE dX3_drawOn_46 rfl 2 rfl ?_
  refine pa_dup hE dX3_drawOn_47 rfl ?_
  refine pg_1_7 (pa_in1 hi0) hE (pa_m1 150 rfl rfl) dX3_drawOn_48 ?_
  refine pa_iload hE dX3_drawOn_51 0 rfl ?_
  refine pa_isub hE dX3_drawOn_53 ?_
  refine pp_1_7 (pa_in1 hi0) hE (pa_m1 150 rfl rfl) dX3_drawOn_54 (fun u6 eu6 => ?_)
  have hw := hw u6 eu6
  refine pa_iload hE dX3_drawOn_57 0 rfl ?_
  exact pa_iret hE hr hw rfl dX3_drawOn_59
def wp_X3_drawOn (u0 : pa_S) (i0 : Nat) (x1 : Int32) (x2 : Int32) (x3 : Int32) (post : Int32 → pa_S → Prop) : Prop := wb_X3_drawOn_0 u0 i0 x1 x2 x3 post
theorem ct_X3_drawOn (l : Launch) (g : pa_G) (D : va_G) (q : Nat → Nat → Nat) (u0 : pa_S) (i0 : Nat) (x1 : Int32) (x2 : Int32) (x3 : Int32) (post : Int32 → pa_S → Prop) (hi0 : i0 < 6) (hw : wp_X3_drawOn u0 i0 x1 x2 x3 post) : pa_Ct l yX3_drawOn cX3_drawOn 6 (some .int) 5 g D q u0 [.ref (q 1 i0), .int x1, .int x2, .int x3] (fun r => some (.int r)) post := pa_met rfl rfl (Nat.le_of_ble_eq_true rfl) rfl (fun p e s m args below meth c A hE hr => tb_X3_drawOn_0 hE hr hi0 hw)
def wb_X3_printLine_53 (u0 : pa_S) (i0 : Nat) (x3 : Int32) (x5 : Int32) (y0 : Int32) (post : Int32 → pa_S → Prop) : Prop :=
  (wp_X3_lengthOf u0 i0 x5 x3 (fun (r8 : Int32) => (wp_X3_putLength u0 i0 x5 x3 (r8 + y0) (fun (u10 : pa_S) => post y0 u10))))
set_option maxRecDepth 100000 in
set_option maxHeartbeats 4000000 in
theorem tb_X3_printLine_53 {p : Program} {l : Launch} {e : Env} {s : State} {m : MethodId} {args : Array Value} {below : List Frame} {meth : Method} {c : Code} {A : Nat → Prop} {D : va_G} {g : pa_G} {q : Nat → Nat → Nat} {u0 : pa_S} {i0 : Nat} {x3 : Int32} {x5 : Int32} {y0 : Int32} {post : Int32 → pa_S → Prop} (hE : pa_Fx p s m args meth c A D g 8 cX3_printLine RX3) (hr : meth.sig.returnType = (some .int)) (hi0 : i0 < 6) (hw : wb_X3_printLine_53 u0 i0 x3 x5 y0 post) : pa_At p l e (pa_rm 5) s m args below meth c (MQ below (pa_Qc g D q (fun r => some (.int r)) post A) args s 0 0 A) A D g 8 0 0 q u0 53 [(0, .ref (q 1 i0)), (3, .int x3), (5, .int x5)] [.int y0] := by
  refine pa_istore hE dX3_printLine_53 (by decide) (lvr := [(0, .ref (q 1 i0)), (3, .int x3), (5, .int x5)]) rfl ?_
  refine pa_aload_n hE dX3_printLine_55 rfl 1 rfl ?_
  refine pa_iload hE dX3_printLine_56 3 rfl ?_
  refine pa_iload_n hE dX3_printLine_58 rfl 2 rfl ?_
  refine pa_aload_n hE dX3_printLine_59 rfl 1 rfl ?_
  refine pa_iload hE dX3_printLine_60 3 rfl ?_
  refine pa_iload_n hE dX3_printLine_62 rfl 2 rfl ?_
  refine pa_callVri hE (ct_X3_lengthOf l g D q u0 i0 x5 x3 _ hi0 hw) cv_RX3_82 (pa_in1 hi0) rfl rfl rfl (pa_hR (by omega) (by decide)) rfl (Nat.le_of_ble_eq_true rfl) dX3_printLine_63 (fun r8 hw => ?_)
  refine pa_iload hE dX3_printLine_66 0 rfl ?_
  refine pa_iadd hE dX3_printLine_68 ?_
  refine pa_callVv hE (ct_X3_putLength l g D q u0 i0 x5 x3 (r8 + y0) _ hi0 hw) cv_RX3_64 (pa_in1 hi0) rfl rfl rfl (pa_hR (by omega) (by decide)) rfl (Nat.le_of_ble_eq_true rfl) dX3_printLine_69 (fun u10 hw => ?_)
  refine pa_iload hE dX3_printLine_72 0 rfl ?_
  exact pa_iret hE hr hw rfl dX3_printLine_74
def wb_X3_printLine_25 (u0 : pa_S) (i0 : Nat) (x3 : Int32) (x4 : Int32) (y0 : Int32) (post : Int32 → pa_S → Prop) : Prop :=
  (pa_N u0 1 i0 < pa_N u0 70 0) ∧ ∀ v6 : Int32, v6 = (pa_I u0 14 (pa_N u0 1 i0) 3) → (if v6 ≤ 0 then wb_X3_printLine_53 u0 i0 x3 y0 0 post else (¬ v6 = 0) ∧ wb_X3_printLine_53 u0 i0 x3 y0 ((pa_abs x4) / v6) post)
set_option maxRecDepth 100000 in
set_option maxHeartbeats 4000000 in
theorem tb_X3_printLine_25 {p : Program} {l : Launch} {e : Env} {s : State} {m : MethodId} {args : Array Value} {below : List Frame} {meth : Method} {c : Code} {A : Nat → Prop} {D : va_G} {g : pa_G} {q : Nat → Nat → Nat} {u0 : pa_S} {i0 : Nat} {x3 : Int32} {x4 : Int32} {y0 : Int32} {post : Int32 → pa_S → Prop} (hE : pa_Fx p s m args meth c A D g 8 cX3_printLine RX3) (hr : meth.sig.returnType = (some .int)) (hi0 : i0 < 6) (hw : wb_X3_printLine_25 u0 i0 x3 x4 y0 post) : pa_At p l e (pa_rm 5) s m args below meth c (MQ below (pa_Qc g D q (fun r => some (.int r)) post A) args s 0 0 A) A D g 8 0 0 q u0 25 [(0, .ref (q 1 i0)), (3, .int x3), (4, .int x4)] [.int y0] := by
  refine pa_istore hE dX3_printLine_25 (by decide) (lvr := [(0, .ref (q 1 i0)), (3, .int x3), (4, .int x4)]) rfl ?_
  refine pa_aload_n hE dX3_printLine_27 rfl 1 rfl ?_
  obtain ⟨h5, hw⟩ := hw
  refine pg_1_9 (pa_in1 hi0) hE (pa_m1 154 rfl rfl) dX3_printLine_28 ?_
  refine pg_14_3 (pa_in14 h5) hE (pa_m1 115 rfl rfl) dX3_printLine_31 ?_
  refine pa_namei (fun v6 ev6 => ?_)
  have hw := hw v6 ev6
  refine pa_istore hE dX3_printLine_34 (by decide) (lvr := [(5, .int y0), (0, .ref (q 1 i0)), (3, .int x3), (4, .int x4)]) rfl ?_
  refine pa_iload hE dX3_printLine_36 0 rfl ?_
  refine pa_if_le hE dX3_printLine_38 (tgt := 52) (by decide) (fun h7 => ?_) (fun h7 => ?_)
  · have hw := Eq.mp (if_pos h7) hw
    refine pa_iconst hE dX3_printLine_52 (v := 0) (by decide) ?_
    exact pa_sub [2, 3, 1] rfl (tb_X3_printLine_53 hE hr hi0 hw)
  · have hw := Eq.mp (if_neg h7) hw
    refine pa_iload hE dX3_printLine_41 4 rfl ?_
    refine pa_mabs hE dX3_printLine_43 cm_RX3_129 (pa_hRm (by omega)) (Nat.le_of_ble_eq_true rfl) ?_
    refine pa_iload hE dX3_printLine_46 0 rfl ?_
    obtain ⟨h11, hw⟩ := hw
    refine pa_idiv hE dX3_printLine_48 h11 ?_
    refine pa_goto hE dX3_printLine_49 (tgt := 53) (by decide) ?_
    exact pa_sub [2, 3, 1] rfl (tb_X3_printLine_53 hE hr hi0 hw)
def wb_X3_printLine_0 (u0 : pa_S) (i0 : Nat) (x1 : Int32) (x2 : Int32) (x3 : Int32) (post : Int32 → pa_S → Prop) : Prop :=
  (wp_X3_lengthOf u0 i0 x1 x3 (fun (r1 : Int32) => (wp_X3_lengthOf u0 i0 x2 x3 (fun (r2 : Int32) => ∀ v3 : Int32, v3 = (r1 - r2) → (if 0 ≤ v3 then wb_X3_printLine_25 u0 i0 x3 v3 x2 post else wb_X3_printLine_25 u0 i0 x3 v3 x1 post)))))
set_option maxRecDepth 100000 in
set_option maxHeartbeats 4000000 in
theorem tb_X3_printLine_0 {p : Program} {l : Launch} {e : Env} {s : State} {m : MethodId} {args : Array Value} {below : List Frame} {meth : Method} {c : Code} {A : Nat → Prop} {D : va_G} {g : pa_G} {q : Nat → Nat → Nat} {u0 : pa_S} {i0 : Nat} {x1 : Int32} {x2 : Int32} {x3 : Int32} {post : Int32 → pa_S → Prop} (hE : pa_Fx p s m args meth c A D g 8 cX3_printLine RX3) (hr : meth.sig.returnType = (some .int)) (hi0 : i0 < 6) (hw : wb_X3_printLine_0 u0 i0 x1 x2 x3 post) : pa_At p l e (pa_rm 5) s m args below meth c (MQ below (pa_Qc g D q (fun r => some (.int r)) post A) args s 0 0 A) A D g 8 0 0 q u0 0 [(0, .ref (q 1 i0)), (1, .int x1), (2, .int x2), (3, .int x3)] [] := by
  refine pa_aload_n hE dX3_printLine_0 rfl 0 rfl ?_
  refine pa_iload_n hE dX3_printLine_1 rfl 1 rfl ?_
  refine pa_iload_n hE dX3_printLine_2 rfl 3 rfl ?_
  refine pa_callVri hE (ct_X3_lengthOf l g D q u0 i0 x1 x3 _ hi0 hw) cv_RX3_82 (pa_in1 hi0) rfl rfl rfl (pa_hR (by omega) (by decide)) rfl (Nat.le_of_ble_eq_true rfl) dX3_printLine_3 (fun r1 hw => ?_)
  refine pa_aload_n hE dX3_printLine_6 rfl 0 rfl ?_
  refine pa_iload_n hE dX3_printLine_7 rfl 2 rfl ?_
  refine pa_iload_n hE dX3_printLine_8 rfl 3 rfl ?_
  refine pa_callVri hE (ct_X3_lengthOf l g D q u0 i0 x2 x3 _ hi0 hw) cv_RX3_82 (pa_in1 hi0) rfl rfl rfl (pa_hR (by omega) (by decide)) rfl (Nat.le_of_ble_eq_true rfl) dX3_printLine_9 (fun r2 hw => ?_)
  refine pa_isub hE dX3_printLine_12 ?_
  refine pa_namei (fun v3 ev3 => ?_)
  have hw := hw v3 ev3
  refine pa_istore hE dX3_printLine_13 (by decide) (lvr := [(0, .ref (q 1 i0)), (1, .int x1), (2, .int x2), (3, .int x3)]) rfl ?_
  refine pa_iload hE dX3_printLine_15 0 rfl ?_
  refine pa_if_ge hE dX3_printLine_17 (tgt := 24) (by decide) (fun h4 => ?_) (fun h4 => ?_)
  · have hw := Eq.mp (if_pos h4) hw
    refine pa_iload_n hE dX3_printLine_24 rfl 3 rfl ?_
    exact pa_sub [1, 4, 0] rfl (tb_X3_printLine_25 hE hr hi0 hw)
  · have hw := Eq.mp (if_neg h4) hw
    refine pa_iload_n hE dX3_printLine_20 rfl 2 rfl ?_
    refine pa_goto hE dX3_printLine_21 (tgt := 25) (by decide) ?_
    exact pa_sub [1, 4, 0] rfl (tb_X3_printLine_25 hE hr hi0 hw)
def wp_X3_printLine (u0 : pa_S) (i0 : Nat) (x1 : Int32) (x2 : Int32) (x3 : Int32) (post : Int32 → pa_S → Prop) : Prop := wb_X3_printLine_0 u0 i0 x1 x2 x3 post
theorem ct_X3_printLine (l : Launch) (g : pa_G) (D : va_G) (q : Nat → Nat → Nat) (u0 : pa_S) (i0 : Nat) (x1 : Int32) (x2 : Int32) (x3 : Int32) (post : Int32 → pa_S → Prop) (hi0 : i0 < 6) (hw : wp_X3_printLine u0 i0 x1 x2 x3 post) : pa_Ct l yX3_printLine cX3_printLine 8 (some .int) 5 g D q u0 [.ref (q 1 i0), .int x1, .int x2, .int x3] (fun r => some (.int r)) post := pa_met rfl rfl (Nat.le_of_ble_eq_true rfl) rfl (fun p e s m args below meth c A hE hr => tb_X3_printLine_0 hE hr hi0 hw)
def wb_X3_wearsGloves_0 (u0 : pa_S) (i0 : Nat) (x1 : Int32) (post : Int32 → Prop) : Prop :=
  (wp_X3_kindOf u0 i0 x1 (fun (r1 : Int32) => (if r1 = 3 then post 1 else (if r1 = 6 then post 1 else post 0))))
set_option maxRecDepth 100000 in
set_option maxHeartbeats 4000000 in
theorem tb_X3_wearsGloves_0 {p : Program} {l : Launch} {e : Env} {s : State} {m : MethodId} {args : Array Value} {below : List Frame} {meth : Method} {c : Code} {A : Nat → Prop} {D : va_G} {g : pa_G} {q : Nat → Nat → Nat} {u0 : pa_S} {i0 : Nat} {x1 : Int32} {post : Int32 → Prop} (hE : pa_Fx p s m args meth c A D g 3 cX3_wearsGloves RX3) (hr : meth.sig.returnType = (some .boolean)) (hi0 : i0 < 6) (hw : wb_X3_wearsGloves_0 u0 i0 x1 post) : pa_At p l e (pa_rm 4) s m args below meth c (MQ below (pa_Qc g D q (fun r => some (.int r)) (fun r u => u = u0 ∧ post r) A) args s 0 0 A) A D g 3 0 0 q u0 0 [(0, .ref (q 1 i0)), (1, .int x1)] [] := by
  refine pa_aload_n hE dX3_wearsGloves_0 rfl 0 rfl ?_
  refine pa_iload_n hE dX3_wearsGloves_1 rfl 1 rfl ?_
  refine pa_callVri hE (ct_X3_kindOf l g D q u0 i0 x1 _ hi0 hw) cv_RX3_75 (pa_in1 hi0) rfl rfl rfl (pa_hR (by omega) (by decide)) rfl (Nat.le_of_ble_eq_true rfl) dX3_wearsGloves_2 (fun r1 hw => ?_)
  refine pa_istore_n hE dX3_wearsGloves_5 rfl (by decide) (lvr := [(0, .ref (q 1 i0)), (1, .int x1)]) rfl ?_
  refine pa_iload_n hE dX3_wearsGloves_6 rfl 0 rfl ?_
  refine pa_iconst hE dX3_wearsGloves_7 (v := 3) (by decide) ?_
  refine pa_icmp_eq hE dX3_wearsGloves_8 (tgt := 17) (by decide) (fun h2 => ?_) (fun h2 => ?_)
  · have hw := Eq.mp (if_pos h2) hw
    refine pa_iconst hE dX3_wearsGloves_17 (v := 1) (by decide) ?_
    refine pa_goto hE dX3_wearsGloves_18 (tgt := 22) (by decide) ?_
    exact pa_zret hE hr (by decide) ⟨rfl, hw⟩ rfl dX3_wearsGloves_22
  · have hw := Eq.mp (if_neg h2) hw
    refine pa_iload_n hE dX3_wearsGloves_11 rfl 0 rfl ?_
    refine pa_bipush hE dX3_wearsGloves_12 (v := 6) (by decide) ?_
    refine pa_icmp_ne hE dX3_wearsGloves_14 (tgt := 21) (by decide) (fun h3 => ?_) (fun h3 => ?_)
    · have hw := Eq.mp (if_neg h3) hw
      refine pa_iconst hE dX3_wearsGloves_21 (v := 0) (by decide) ?_
      exact pa_zret hE hr (by decide) ⟨rfl, hw⟩ rfl dX3_wearsGloves_22
    · have hw := Eq.mp (if_pos h3) hw
      refine pa_iconst hE dX3_wearsGloves_17 (v := 1) (by decide) ?_
      refine pa_goto hE dX3_wearsGloves_18 (tgt := 22) (by decide) ?_
      exact pa_zret hE hr (by decide) ⟨rfl, hw⟩ rfl dX3_wearsGloves_22
def wp_X3_wearsGloves (u0 : pa_S) (i0 : Nat) (x1 : Int32) (post : Int32 → Prop) : Prop := wb_X3_wearsGloves_0 u0 i0 x1 post
theorem ct_X3_wearsGloves (l : Launch) (g : pa_G) (D : va_G) (q : Nat → Nat → Nat) (u0 : pa_S) (i0 : Nat) (x1 : Int32) (post : Int32 → Prop) (hi0 : i0 < 6) (hw : wp_X3_wearsGloves u0 i0 x1 post) : pa_Ct l yX3_wearsGloves cX3_wearsGloves 3 (some .boolean) 4 g D q u0 [.ref (q 1 i0), .int x1] (fun r => some (.int r)) (fun r u => u = u0 ∧ post r) := pa_met rfl rfl (Nat.le_of_ble_eq_true rfl) rfl (fun p e s m args below meth c A hE hr => tb_X3_wearsGloves_0 hE hr hi0 hw)
def wb_X3_shakeHands_81 (k81 : pa_S → Int32 → Int32 → Int32 → Int32 → Prop) (u0 : pa_S) (i0 : Nat) (x1 : Int32) (x2 : Int32) (x3 : Int32) (x4 : Int32) (post : Int32 → pa_S → Prop) : Prop :=
  (if 3 ≤ x4 then post x3 u0 else (wp_X3_printLine u0 i0 x1 x2 x4 (fun (r16 : Int32) (u17 : pa_S) => ∀ v18 : Int32, v18 = (x3 + r16) → ∀ v19 : Int32, v19 = x4 + 1 → k81 u17 x1 x2 v18 v19)))
set_option maxRecDepth 100000 in
set_option maxHeartbeats 4000000 in
theorem tb_X3_shakeHands_81 {p : Program} {l : Launch} {e : Env} {s : State} {m : MethodId} {args : Array Value} {below : List Frame} {meth : Method} {c : Code} {A : Nat → Prop} {D : va_G} {g : pa_G} {q : Nat → Nat → Nat} {k81 : pa_S → Int32 → Int32 → Int32 → Int32 → Prop} {u0 : pa_S} {i0 : Nat} {x1 : Int32} {x2 : Int32} {x3 : Int32} {x4 : Int32} {post : Int32 → pa_S → Prop} (hE : pa_Fx p s m args meth c A D g 5 cX3_shakeHands RX3) (hr : meth.sig.returnType = (some .int)) (hi0 : i0 < 6) (hk81 : ∀ (u : pa_S)  (x1 : Int32) (x2 : Int32) (x3 : Int32) (x4 : Int32), k81 u x1 x2 x3 x4 → pa_At p l e (pa_rm 6) s m args below meth c (MQ below (pa_Qc g D q (fun r => some (.int r)) post A) args s 0 0 A) A D g 5 0 0 q u 81 [(0, .ref (q 1 i0)), (1, .int x1), (2, .int x2), (3, .int x3), (4, .int x4)] []) (hw : wb_X3_shakeHands_81 k81 u0 i0 x1 x2 x3 x4 post) : pa_At p l e (pa_rm 6) s m args below meth c (MQ below (pa_Qc g D q (fun r => some (.int r)) post A) args s 0 0 A) A D g 5 0 0 q u0 81 [(0, .ref (q 1 i0)), (1, .int x1), (2, .int x2), (3, .int x3), (4, .int x4)] [] := by
  refine pa_iload hE dX3_shakeHands_81 4 rfl ?_
  refine pa_iconst hE dX3_shakeHands_83 (v := 3) (by decide) ?_
  refine pa_icmp_ge hE dX3_shakeHands_84 (tgt := 104) (by decide) (fun h15 => ?_) (fun h15 => ?_)
  · have hw := Eq.mp (if_pos h15) hw
    refine pa_iload_n hE dX3_shakeHands_104 rfl 3 rfl ?_
    exact pa_iret hE hr hw rfl dX3_shakeHands_105
  · have hw := Eq.mp (if_neg h15) hw
    refine pa_iload_n hE dX3_shakeHands_87 rfl 3 rfl ?_
    refine pa_aload_n hE dX3_shakeHands_88 rfl 0 rfl ?_
    refine pa_iload_n hE dX3_shakeHands_89 rfl 1 rfl ?_
    refine pa_iload_n hE dX3_shakeHands_90 rfl 2 rfl ?_
    refine pa_iload hE dX3_shakeHands_91 4 rfl ?_
    refine pa_callVi hE (ct_X3_printLine l g D q u0 i0 x1 x2 x4 _ hi0 hw) cv_RX3_122 (pa_in1 hi0) rfl rfl rfl (pa_hR (by omega) (by decide)) rfl (Nat.le_of_ble_eq_true rfl) dX3_shakeHands_93 (fun r16 u17 hw => ?_)
    refine pa_iadd hE dX3_shakeHands_96 ?_
    refine pa_namei (fun v18 ev18 => ?_)
    have hw := hw v18 ev18
    refine pa_istore_n hE dX3_shakeHands_97 rfl (by decide) (lvr := [(0, .ref (q 1 i0)), (1, .int x1), (2, .int x2), (4, .int x4)]) rfl ?_
    refine pa_iinc hE dX3_shakeHands_98 (v := 1) 4 rfl (by decide) (by decide) (lvr := [(3, .int v18), (0, .ref (q 1 i0)), (1, .int x1), (2, .int x2)]) rfl (fun v19 ev19 => ?_)
    have hw := hw v19 ev19
    refine pa_goto hE dX3_shakeHands_101 (tgt := 81) (by decide) ?_
    exact pa_sub [2, 3, 4, 1, 0] rfl (hk81 u17 x1 x2 v18 v19 hw)
def wl_X3_shakeHands_81 (i0 : Nat) (post : Int32 → pa_S → Prop) : Nat → pa_S → Int32 → Int32 → Int32 → Int32 → Prop
  | 0, _, _, _, _, _ => False
  | n + 1, u0, x1, x2, x3, x4 => wb_X3_shakeHands_81 (fun u0 x1 x2 x3 x4 => wl_X3_shakeHands_81 i0 post n u0 x1 x2 x3 x4) u0 i0 x1 x2 x3 x4 post
set_option maxRecDepth 100000 in
set_option maxHeartbeats 4000000 in
theorem tl_X3_shakeHands_81 {p : Program} {l : Launch} {e : Env} {s : State} {m : MethodId} {args : Array Value} {below : List Frame} {meth : Method} {c : Code} {A : Nat → Prop} {D : va_G} {g : pa_G} {q : Nat → Nat → Nat} {i0 : Nat} {post : Int32 → pa_S → Prop} (hE : pa_Fx p s m args meth c A D g 5 cX3_shakeHands RX3) (hr : meth.sig.returnType = (some .int)) (hi0 : i0 < 6) : ∀ (n : Nat) (u0 : pa_S) (x1 : Int32) (x2 : Int32) (x3 : Int32) (x4 : Int32), wl_X3_shakeHands_81 i0 post n u0 x1 x2 x3 x4 → pa_At p l e (pa_rm 6) s m args below meth c (MQ below (pa_Qc g D q (fun r => some (.int r)) post A) args s 0 0 A) A D g 5 0 0 q u0 81 [(0, .ref (q 1 i0)), (1, .int x1), (2, .int x2), (3, .int x3), (4, .int x4)] []
  | 0, _, _, _, _, _, hw => absurd hw (by simp only [wl_X3_shakeHands_81]; exact fun z => z)
  | n + 1, u0, x1, x2, x3, x4, hw => tb_X3_shakeHands_81 hE hr hi0 (fun u0 x1 x2 x3 x4  hw1 => tl_X3_shakeHands_81 hE hr hi0 n u0 x1 x2 x3 x4  hw1) hw
def wb_X3_shakeHands_0 (u0 : pa_S) (i0 : Nat) (x1 : Int32) (x2 : Int32) (post : Int32 → pa_S → Prop) : Prop :=
  (wp_X3_has u0 i0 x1 (fun (r1 : Int32) => (if r1 = 0 then post 0 u0 else (wp_X3_has u0 i0 x2 (fun (r3 : Int32) => (if r3 = 0 then post 0 u0 else (vp_in x1 5) ∧ (vp_in x1 5) ∧ ∀ u7 : pa_S, u7 = pa_sA u0 4 i0 (upd (pa_A u0 4 i0) x1.toNatClampNeg (pa_min 9999 ((pa_A u0 4 i0 x1.toNatClampNeg) + 1))) → (vp_in x2 5) ∧ (vp_in x2 5) ∧ ∀ u10 : pa_S, u10 = pa_sA u7 4 i0 (upd (pa_A u7 4 i0) x2.toNatClampNeg (pa_min 9999 ((pa_A u7 4 i0 x2.toNatClampNeg) + 1))) → (wp_X3_wearsGloves u10 i0 x1 (fun (r11 : Int32) => (if r11 = 0 then (wp_X3_wearsGloves u10 i0 x2 (fun (r13 : Int32) => (if r13 = 0 then wl_X3_shakeHands_81 i0 post 5000 u10 x1 x2 0 0 else post 0 u10))) else post 0 u10)))))))))
set_option maxRecDepth 100000 in
set_option maxHeartbeats 4000000 in
theorem tb_X3_shakeHands_0 {p : Program} {l : Launch} {e : Env} {s : State} {m : MethodId} {args : Array Value} {below : List Frame} {meth : Method} {c : Code} {A : Nat → Prop} {D : va_G} {g : pa_G} {q : Nat → Nat → Nat} {u0 : pa_S} {i0 : Nat} {x1 : Int32} {x2 : Int32} {post : Int32 → pa_S → Prop} (hE : pa_Fx p s m args meth c A D g 5 cX3_shakeHands RX3) (hr : meth.sig.returnType = (some .int)) (hi0 : i0 < 6) (hw : wb_X3_shakeHands_0 u0 i0 x1 x2 post) : pa_At p l e (pa_rm 6) s m args below meth c (MQ below (pa_Qc g D q (fun r => some (.int r)) post A) args s 0 0 A) A D g 5 0 0 q u0 0 [(0, .ref (q 1 i0)), (1, .int x1), (2, .int x2)] [] := by
  refine pa_aload_n hE dX3_shakeHands_0 rfl 0 rfl ?_
  refine pa_iload_n hE dX3_shakeHands_1 rfl 1 rfl ?_
  refine pa_callVri hE (ct_X3_has l g D q u0 i0 x1 _ hi0 hw) cv_RX3_60 (pa_in1 hi0) rfl rfl rfl (pa_hR (by omega) (by decide)) rfl (Nat.le_of_ble_eq_true rfl) dX3_shakeHands_2 (fun r1 hw => ?_)
  refine pa_if_eq hE dX3_shakeHands_5 (tgt := 16) (by decide) (fun h2 => ?_) (fun h2 => ?_)
  · have hw := Eq.mp (if_pos h2) hw
    refine pa_iconst hE dX3_shakeHands_16 (v := 0) (by decide) ?_
    exact pa_iret hE hr hw rfl dX3_shakeHands_17
  · have hw := Eq.mp (if_neg h2) hw
    refine pa_aload_n hE dX3_shakeHands_8 rfl 0 rfl ?_
    refine pa_iload_n hE dX3_shakeHands_9 rfl 2 rfl ?_
    refine pa_callVri hE (ct_X3_has l g D q u0 i0 x2 _ hi0 hw) cv_RX3_60 (pa_in1 hi0) rfl rfl rfl (pa_hR (by omega) (by decide)) rfl (Nat.le_of_ble_eq_true rfl) dX3_shakeHands_10 (fun r3 hw => ?_)
    refine pa_if_ne hE dX3_shakeHands_13 (tgt := 18) (by decide) (fun h4 => ?_) (fun h4 => ?_)
    · have hw := Eq.mp (if_neg h4) hw
      refine pa_aload_n hE dX3_shakeHands_18 rfl 0 rfl ?_
      refine pg_1_2 (pa_in1 hi0) hE (pa_m1 144 rfl rfl) dX3_shakeHands_19 ?_
      refine pa_iload_n hE dX3_shakeHands_22 rfl 1 rfl ?_
      refine pa_sipush hE dX3_shakeHands_23 (v := 9999) (by decide) ?_
      refine pa_aload_n hE dX3_shakeHands_26 rfl 0 rfl ?_
      refine pg_1_2 (pa_in1 hi0) hE (pa_m1 144 rfl rfl) dX3_shakeHands_27 ?_
      refine pa_iload_n hE dX3_shakeHands_30 rfl 1 rfl ?_
      obtain ⟨h5, hw⟩ := hw
      refine pl_4 (pa_in4 hi0) hE h5 dX3_shakeHands_31 ?_
      refine pa_iconst hE dX3_shakeHands_32 (v := 1) (by decide) ?_
      refine pa_iadd hE dX3_shakeHands_33 ?_
      refine pa_mmin hE dX3_shakeHands_34 cm_RX3_113 (pa_hRm (by omega)) (Nat.le_of_ble_eq_true rfl) ?_
      obtain ⟨h6, hw⟩ := hw
      refine ps_4 (pa_in4 hi0) hE h6 dX3_shakeHands_37 (fun u7 eu7 => ?_)
      have hw := hw u7 eu7
      refine pa_aload_n hE dX3_shakeHands_38 rfl 0 rfl ?_
      refine pg_1_2 (pa_in1 hi0) hE (pa_m1 144 rfl rfl) dX3_shakeHands_39 ?_
      refine pa_iload_n hE dX3_shakeHands_42 rfl 2 rfl ?_
      refine pa_sipush hE dX3_shakeHands_43 (v := 9999) (by decide) ?_
      refine pa_aload_n hE dX3_shakeHands_46 rfl 0 rfl ?_
      refine pg_1_2 (pa_in1 hi0) hE (pa_m1 144 rfl rfl) dX3_shakeHands_47 ?_
      refine pa_iload_n hE dX3_shakeHands_50 rfl 2 rfl ?_
      obtain ⟨h8, hw⟩ := hw
      refine pl_4 (pa_in4 hi0) hE h8 dX3_shakeHands_51 ?_
      refine pa_iconst hE dX3_shakeHands_52 (v := 1) (by decide) ?_
      refine pa_iadd hE dX3_shakeHands_53 ?_
      refine pa_mmin hE dX3_shakeHands_54 cm_RX3_113 (pa_hRm (by omega)) (Nat.le_of_ble_eq_true rfl) ?_
      obtain ⟨h9, hw⟩ := hw
      refine ps_4 (pa_in4 hi0) hE h9 dX3_shakeHands_57 (fun u10 eu10 => ?_)
      have hw := hw u10 eu10
      refine pa_aload_n hE dX3_shakeHands_58 rfl 0 rfl ?_
      refine pa_iload_n hE dX3_shakeHands_59 rfl 1 rfl ?_
      refine pa_callVri hE (ct_X3_wearsGloves l g D q u10 i0 x1 _ hi0 hw) cv_RX3_119 (pa_in1 hi0) rfl rfl rfl (pa_hR (by omega) (by decide)) rfl (Nat.le_of_ble_eq_true rfl) dX3_shakeHands_60 (fun r11 hw => ?_)
      refine pa_if_ne hE dX3_shakeHands_63 (tgt := 74) (by decide) (fun h12 => ?_) (fun h12 => ?_)
      · have hw := Eq.mp (if_neg h12) hw
        refine pa_iconst hE dX3_shakeHands_74 (v := 0) (by decide) ?_
        exact pa_iret hE hr hw rfl dX3_shakeHands_75
      · have hw := Eq.mp (if_pos h12) hw
        refine pa_aload_n hE dX3_shakeHands_66 rfl 0 rfl ?_
        refine pa_iload_n hE dX3_shakeHands_67 rfl 2 rfl ?_
        refine pa_callVri hE (ct_X3_wearsGloves l g D q u10 i0 x2 _ hi0 hw) cv_RX3_119 (pa_in1 hi0) rfl rfl rfl (pa_hR (by omega) (by decide)) rfl (Nat.le_of_ble_eq_true rfl) dX3_shakeHands_68 (fun r13 hw => ?_)
        refine pa_if_eq hE dX3_shakeHands_71 (tgt := 76) (by decide) (fun h14 => ?_) (fun h14 => ?_)
        · have hw := Eq.mp (if_pos h14) hw
          refine pa_iconst hE dX3_shakeHands_76 (v := 0) (by decide) ?_
          refine pa_istore_n hE dX3_shakeHands_77 rfl (by decide) (lvr := [(0, .ref (q 1 i0)), (1, .int x1), (2, .int x2)]) rfl ?_
          refine pa_iconst hE dX3_shakeHands_78 (v := 0) (by decide) ?_
          refine pa_istore hE dX3_shakeHands_79 (by decide) (lvr := [(3, .int 0), (0, .ref (q 1 i0)), (1, .int x1), (2, .int x2)]) rfl ?_
          exact pa_sub [2, 3, 4, 1, 0] rfl (tl_X3_shakeHands_81 hE hr hi0 5000 u10 x1 x2 0 0 hw)
        · have hw := Eq.mp (if_neg h14) hw
          refine pa_iconst hE dX3_shakeHands_74 (v := 0) (by decide) ?_
          exact pa_iret hE hr hw rfl dX3_shakeHands_75
    · have hw := Eq.mp (if_pos h4) hw
      refine pa_iconst hE dX3_shakeHands_16 (v := 0) (by decide) ?_
      exact pa_iret hE hr hw rfl dX3_shakeHands_17
def wp_X3_shakeHands (u0 : pa_S) (i0 : Nat) (x1 : Int32) (x2 : Int32) (post : Int32 → pa_S → Prop) : Prop := wb_X3_shakeHands_0 u0 i0 x1 x2 post
theorem ct_X3_shakeHands (l : Launch) (g : pa_G) (D : va_G) (q : Nat → Nat → Nat) (u0 : pa_S) (i0 : Nat) (x1 : Int32) (x2 : Int32) (post : Int32 → pa_S → Prop) (hi0 : i0 < 6) (hw : wp_X3_shakeHands u0 i0 x1 x2 post) : pa_Ct l yX3_shakeHands cX3_shakeHands 5 (some .int) 6 g D q u0 [.ref (q 1 i0), .int x1, .int x2] (fun r => some (.int r)) post := pa_met rfl rfl (Nat.le_of_ble_eq_true rfl) rfl (fun p e s m args below meth c A hE hr => tb_X3_shakeHands_0 hE hr hi0 hw)
def wb_J7_fill_d0a16_6 (k6 : pa_S → Int64 → Int32 → Int32 → Prop) (u0 : pa_S) (i0 : Nat) (x1 : Int64) (x3 : Int32) (x4 : Int32) (post : pa_S → Prop) : Prop :=
  (if x4 ≤ x3 then post u0 else (vp_in x3 60) ∧ ∀ u3 : pa_S, u3 = pa_sL u0 20 i0 (vp_updL (pa_L u0 20 i0) x3.toNatClampNeg x1) → ∀ v4 : Int32, v4 = x3 + 1 → k6 u3 x1 v4 x4)
set_option maxRecDepth 100000 in
set_option maxHeartbeats 4000000 in
theorem tb_J7_fill_d0a16_6 {p : Program} {l : Launch} {e : Env} {s : State} {m : MethodId} {args : Array Value} {below : List Frame} {meth : Method} {c : Code} {A : Nat → Prop} {D : va_G} {g : pa_G} {q : Nat → Nat → Nat} {k6 : pa_S → Int64 → Int32 → Int32 → Prop} {u0 : pa_S} {i0 : Nat} {x1 : Int64} {x3 : Int32} {x4 : Int32} {post : pa_S → Prop} (hE : pa_Fx p s m args meth c A D g 5 cJ7_fill_d0a16 RJ7) (hr : meth.sig.returnType = none) (hi0 : i0 < 6) (hk6 : ∀ (u : pa_S)  (x1 : Int64) (x3 : Int32) (x4 : Int32), k6 u x1 x3 x4 → pa_At p l e (pa_rm 2) s m args below meth c (MQ below (pa_Qc g D q (fun (_ : Unit) => none) (fun (_ : Unit) u => post u) A) args s 0 0 A) A D g 5 0 0 q u 6 [(0, .ref (q 20 i0)), (1, .long x1), (3, .int x3), (4, .int x4)] []) (hw : wb_J7_fill_d0a16_6 k6 u0 i0 x1 x3 x4 post) : pa_At p l e (pa_rm 2) s m args below meth c (MQ below (pa_Qc g D q (fun (_ : Unit) => none) (fun (_ : Unit) u => post u) A) args s 0 0 A) A D g 5 0 0 q u0 6 [(0, .ref (q 20 i0)), (1, .long x1), (3, .int x3), (4, .int x4)] [] := by
  refine pa_iload_n hE dJ7_fill_d0a16_6 rfl 2 rfl ?_
  refine pa_iload hE dJ7_fill_d0a16_7 3 rfl ?_
  refine pa_icmp_ge hE dJ7_fill_d0a16_9 (tgt := 22) (by decide) (fun h1 => ?_) (fun h1 => ?_)
  · have hw := Eq.mp (if_pos h1) hw
    exact pa_vret (r := ()) hE hr hw rfl dJ7_fill_d0a16_22
  · have hw := Eq.mp (if_neg h1) hw
    refine pa_aload_n hE dJ7_fill_d0a16_12 rfl 0 rfl ?_
    refine pa_iload_n hE dJ7_fill_d0a16_13 rfl 2 rfl ?_
    refine pa_lload_n hE dJ7_fill_d0a16_14 rfl 1 rfl ?_
    obtain ⟨h2, hw⟩ := hw
    refine ps_20 (pa_in20 hi0) hE h2 dJ7_fill_d0a16_15 (fun u3 eu3 => ?_)
    have hw := hw u3 eu3
    refine pa_iinc hE dJ7_fill_d0a16_16 (v := 1) 2 rfl (by decide) (by decide) (lvr := [(0, .ref (q 20 i0)), (1, .long x1), (4, .int x4)]) rfl (fun v4 ev4 => ?_)
    have hw := hw v4 ev4
    refine pa_goto hE dJ7_fill_d0a16_19 (tgt := 6) (by decide) ?_
    exact pa_sub [1, 2, 0, 3] rfl (hk6 u3 x1 v4 x4 hw)
def wl_J7_fill_d0a16_6 (i0 : Nat) (post : pa_S → Prop) : Nat → pa_S → Int64 → Int32 → Int32 → Prop
  | 0, _, _, _, _ => False
  | n + 1, u0, x1, x3, x4 => wb_J7_fill_d0a16_6 (fun u0 x1 x3 x4 => wl_J7_fill_d0a16_6 i0 post n u0 x1 x3 x4) u0 i0 x1 x3 x4 post
set_option maxRecDepth 100000 in
set_option maxHeartbeats 4000000 in
theorem tl_J7_fill_d0a16_6 {p : Program} {l : Launch} {e : Env} {s : State} {m : MethodId} {args : Array Value} {below : List Frame} {meth : Method} {c : Code} {A : Nat → Prop} {D : va_G} {g : pa_G} {q : Nat → Nat → Nat} {i0 : Nat} {post : pa_S → Prop} (hE : pa_Fx p s m args meth c A D g 5 cJ7_fill_d0a16 RJ7) (hr : meth.sig.returnType = none) (hi0 : i0 < 6) : ∀ (n : Nat) (u0 : pa_S) (x1 : Int64) (x3 : Int32) (x4 : Int32), wl_J7_fill_d0a16_6 i0 post n u0 x1 x3 x4 → pa_At p l e (pa_rm 2) s m args below meth c (MQ below (pa_Qc g D q (fun (_ : Unit) => none) (fun (_ : Unit) u => post u) A) args s 0 0 A) A D g 5 0 0 q u0 6 [(0, .ref (q 20 i0)), (1, .long x1), (3, .int x3), (4, .int x4)] []
  | 0, _, _, _, _, hw => absurd hw (by simp only [wl_J7_fill_d0a16_6]; exact fun z => z)
  | n + 1, u0, x1, x3, x4, hw => tb_J7_fill_d0a16_6 hE hr hi0 (fun u0 x1 x3 x4  hw1 => tl_J7_fill_d0a16_6 hE hr hi0 n u0 x1 x3 x4  hw1) hw
def wb_J7_fill_d0a16_0 (u0 : pa_S) (i0 : Nat) (x1 : Int64) (post : pa_S → Prop) : Prop :=
  wl_J7_fill_d0a16_6 i0 post 5000 u0 x1 0 60
set_option maxRecDepth 100000 in
set_option maxHeartbeats 4000000 in
theorem tb_J7_fill_d0a16_0 {p : Program} {l : Launch} {e : Env} {s : State} {m : MethodId} {args : Array Value} {below : List Frame} {meth : Method} {c : Code} {A : Nat → Prop} {D : va_G} {g : pa_G} {q : Nat → Nat → Nat} {u0 : pa_S} {i0 : Nat} {x1 : Int64} {post : pa_S → Prop} (hE : pa_Fx p s m args meth c A D g 5 cJ7_fill_d0a16 RJ7) (hr : meth.sig.returnType = none) (hi0 : i0 < 6) (hw : wb_J7_fill_d0a16_0 u0 i0 x1 post) : pa_At p l e (pa_rm 2) s m args below meth c (MQ below (pa_Qc g D q (fun (_ : Unit) => none) (fun (_ : Unit) u => post u) A) args s 0 0 A) A D g 5 0 0 q u0 0 [(0, .ref (q 20 i0)), (1, .long x1)] [] := by
  refine pa_iconst hE dJ7_fill_d0a16_0 (v := 0) (by decide) ?_
  refine pa_istore_n hE dJ7_fill_d0a16_1 rfl (by decide) (lvr := [(0, .ref (q 20 i0)), (1, .long x1)]) rfl ?_
  refine pa_aload_n hE dJ7_fill_d0a16_2 rfl 1 rfl ?_
  refine pn_20 (pa_in20 hi0) hE (v := 60) (by decide) dJ7_fill_d0a16_3 ?_
  refine pa_istore hE dJ7_fill_d0a16_4 (by decide) (lvr := [(3, .int 0), (0, .ref (q 20 i0)), (1, .long x1)]) rfl ?_
  exact pa_sub [2, 3, 1, 0] rfl (tl_J7_fill_d0a16_6 hE hr hi0 5000 u0 x1 0 60 hw)
def wp_J7_fill_d0a16 (u0 : pa_S) (i0 : Nat) (x1 : Int64) (post : pa_S → Prop) : Prop := wb_J7_fill_d0a16_0 u0 i0 x1 post
theorem ct_J7_fill_d0a16 (l : Launch) (g : pa_G) (D : va_G) (q : Nat → Nat → Nat) (u0 : pa_S) (i0 : Nat) (x1 : Int64) (post : pa_S → Prop) (hi0 : i0 < 6) (hw : wp_J7_fill_d0a16 u0 i0 x1 post) : pa_Ct l yJ7_fill_d0a16 cJ7_fill_d0a16 5 none 2 g D q u0 [.ref (q 20 i0), .long x1] (fun (_ : Unit) => none) (fun (_ : Unit) u => post u) := pa_met rfl rfl (Nat.le_of_ble_eq_true rfl) rfl (fun p e s m args below meth c A hE hr => tb_J7_fill_d0a16_0 hE hr hi0 hw)
def wb_X4_become_0 (u0 : pa_S) (i0 : Nat) (x1 : Int32) (x2 : Int32) (post : pa_S → Prop) : Prop :=
  ∀ u1 : pa_S, u1 = pa_sI u0 19 i0 1 x1 → ∀ u2 : pa_S, u2 = pa_sI u1 19 i0 2 (pa_max 0 (pa_min x2 60)) → (wp_J7_fill_d0a16 u2 i0 0 (fun (u4 : pa_S) => post u4))
set_option maxRecDepth 100000 in
set_option maxHeartbeats 4000000 in
theorem tb_X4_become_0 {p : Program} {l : Launch} {e : Env} {s : State} {m : MethodId} {args : Array Value} {below : List Frame} {meth : Method} {c : Code} {A : Nat → Prop} {D : va_G} {g : pa_G} {q : Nat → Nat → Nat} {u0 : pa_S} {i0 : Nat} {x1 : Int32} {x2 : Int32} {post : pa_S → Prop} (hE : pa_Fx p s m args meth c A D g 3 cX4_become RX4) (hr : meth.sig.returnType = none) (hi0 : i0 < 6) (hw : wb_X4_become_0 u0 i0 x1 x2 post) : pa_At p l e (pa_rm 3) s m args below meth c (MQ below (pa_Qc g D q (fun (_ : Unit) => none) (fun (_ : Unit) u => post u) A) args s 0 0 A) A D g 3 0 0 q u0 0 [(0, .ref (q 19 i0)), (1, .int x1), (2, .int x2)] [] := by
  refine pa_aload_n hE dX4_become_0 rfl 0 rfl ?_
  refine pa_iload_n hE dX4_become_1 rfl 1 rfl ?_
  refine pp_19_1 (pa_in19 hi0) hE (pa_m1 185 rfl rfl) dX4_become_2 (fun u1 eu1 => ?_)
  have hw := hw u1 eu1
  refine pa_aload_n hE dX4_become_5 rfl 0 rfl ?_
  refine pa_iconst hE dX4_become_6 (v := 0) (by decide) ?_
  refine pa_iload_n hE dX4_become_7 rfl 2 rfl ?_
  refine pa_bipush hE dX4_become_8 (v := 60) (by decide) ?_
  refine pa_mmin hE dX4_become_10 cm_RX4_19 (pa_hRm (by omega)) (Nat.le_of_ble_eq_true rfl) ?_
  refine pa_mmax hE dX4_become_13 cm_RX4_25 (pa_hRm (by omega)) (Nat.le_of_ble_eq_true rfl) ?_
  refine pp_19_2 (pa_in19 hi0) hE (pa_m1 187 rfl rfl) dX4_become_16 (fun u2 eu2 => ?_)
  have hw := hw u2 eu2
  refine pa_aload_n hE dX4_become_19 rfl 0 rfl ?_
  refine pg_19_0 (pa_in19 hi0) hE (pa_m1 183 rfl rfl) dX4_become_20 ?_
  refine pa_lconst hE dX4_become_23 (v := 0) (by decide) ?_
  refine pa_callSv hE (ct_J7_fill_d0a16 l g D q u2 i0 0 _ hi0 hw) cs_RX4_31 rfl (pa_hR (by omega) (by decide)) rfl (Nat.le_of_ble_eq_true rfl) dX4_become_24 (fun u4 hw => ?_)
  exact pa_vret (r := ()) hE hr hw rfl dX4_become_27
def wp_X4_become (u0 : pa_S) (i0 : Nat) (x1 : Int32) (x2 : Int32) (post : pa_S → Prop) : Prop := wb_X4_become_0 u0 i0 x1 x2 post
theorem ct_X4_become (l : Launch) (g : pa_G) (D : va_G) (q : Nat → Nat → Nat) (u0 : pa_S) (i0 : Nat) (x1 : Int32) (x2 : Int32) (post : pa_S → Prop) (hi0 : i0 < 6) (hw : wp_X4_become u0 i0 x1 x2 post) : pa_Ct l yX4_become cX4_become 3 none 3 g D q u0 [.ref (q 19 i0), .int x1, .int x2] (fun (_ : Unit) => none) (fun (_ : Unit) u => post u) := pa_met rfl rfl (Nat.le_of_ble_eq_true rfl) rfl (fun p e s m args below meth c A hE hr => tb_X4_become_0 hE hr hi0 hw)
def wb_X4_holdsNothing_0 (u0 : pa_S) (i0 : Nat) (post : Int32 → Prop) : Prop :=
  (if (pa_I u0 19 i0 1) = (-1 : Int32) then post 1 else post 0)
set_option maxRecDepth 100000 in
set_option maxHeartbeats 4000000 in
theorem tb_X4_holdsNothing_0 {p : Program} {l : Launch} {e : Env} {s : State} {m : MethodId} {args : Array Value} {below : List Frame} {meth : Method} {c : Code} {A : Nat → Prop} {D : va_G} {g : pa_G} {q : Nat → Nat → Nat} {u0 : pa_S} {i0 : Nat} {post : Int32 → Prop} (hE : pa_Fx p s m args meth c A D g 1 cX4_holdsNothing RX4) (hr : meth.sig.returnType = (some .boolean)) (hi0 : i0 < 6) (hw : wb_X4_holdsNothing_0 u0 i0 post) : pa_At p l e (pa_rm 2) s m args below meth c (MQ below (pa_Qc g D q (fun r => some (.int r)) (fun r u => u = u0 ∧ post r) A) args s 0 0 A) A D g 1 0 0 q u0 0 [(0, .ref (q 19 i0))] [] := by
  refine pa_aload_n hE dX4_holdsNothing_0 rfl 0 rfl ?_
  refine pg_19_1 (pa_in19 hi0) hE (pa_m1 185 rfl rfl) dX4_holdsNothing_1 ?_
  refine pa_iconst hE dX4_holdsNothing_4 (v := (-1 : Int32)) (by decide) ?_
  refine pa_icmp_ne hE dX4_holdsNothing_5 (tgt := 12) (by decide) (fun h1 => ?_) (fun h1 => ?_)
  · have hw := Eq.mp (if_neg h1) hw
    refine pa_iconst hE dX4_holdsNothing_12 (v := 0) (by decide) ?_
    exact pa_zret hE hr (by decide) ⟨rfl, hw⟩ rfl dX4_holdsNothing_13
  · have hw := Eq.mp (if_pos h1) hw
    refine pa_iconst hE dX4_holdsNothing_8 (v := 1) (by decide) ?_
    refine pa_goto hE dX4_holdsNothing_9 (tgt := 13) (by decide) ?_
    exact pa_zret hE hr (by decide) ⟨rfl, hw⟩ rfl dX4_holdsNothing_13
def wp_X4_holdsNothing (u0 : pa_S) (i0 : Nat) (post : Int32 → Prop) : Prop := wb_X4_holdsNothing_0 u0 i0 post
theorem ct_X4_holdsNothing (l : Launch) (g : pa_G) (D : va_G) (q : Nat → Nat → Nat) (u0 : pa_S) (i0 : Nat) (post : Int32 → Prop) (hi0 : i0 < 6) (hw : wp_X4_holdsNothing u0 i0 post) : pa_Ct l yX4_holdsNothing cX4_holdsNothing 1 (some .boolean) 2 g D q u0 [.ref (q 19 i0)] (fun r => some (.int r)) (fun r u => u = u0 ∧ post r) := pa_met rfl rfl (Nat.le_of_ble_eq_true rfl) rfl (fun p e s m args below meth c A hE hr => tb_X4_holdsNothing_0 hE hr hi0 hw)
def wb_X4_hasPlace_0 (u0 : pa_S) (i0 : Nat) (x1 : Int32) (post : Int32 → Prop) : Prop :=
  (if x1 < 0 then post 0 else (if (pa_I u0 19 i0 2) ≤ x1 then post 0 else (if 60 ≤ x1 then post 0 else post 1)))
set_option maxRecDepth 100000 in
set_option maxHeartbeats 4000000 in
theorem tb_X4_hasPlace_0 {p : Program} {l : Launch} {e : Env} {s : State} {m : MethodId} {args : Array Value} {below : List Frame} {meth : Method} {c : Code} {A : Nat → Prop} {D : va_G} {g : pa_G} {q : Nat → Nat → Nat} {u0 : pa_S} {i0 : Nat} {x1 : Int32} {post : Int32 → Prop} (hE : pa_Fx p s m args meth c A D g 2 cX4_hasPlace RX4) (hr : meth.sig.returnType = (some .boolean)) (hi0 : i0 < 6) (hw : wb_X4_hasPlace_0 u0 i0 x1 post) : pa_At p l e (pa_rm 2) s m args below meth c (MQ below (pa_Qc g D q (fun r => some (.int r)) (fun r u => u = u0 ∧ post r) A) args s 0 0 A) A D g 2 0 0 q u0 0 [(0, .ref (q 19 i0)), (1, .int x1)] [] := by
  refine pa_iload_n hE dX4_hasPlace_0 rfl 1 rfl ?_
  refine pa_if_lt hE dX4_hasPlace_1 (tgt := 22) (by decide) (fun h1 => ?_) (fun h1 => ?_)
  · have hw := Eq.mp (if_pos h1) hw
    refine pa_iconst hE dX4_hasPlace_22 (v := 0) (by decide) ?_
    exact pa_zret hE hr (by decide) ⟨rfl, hw⟩ rfl dX4_hasPlace_23
  · have hw := Eq.mp (if_neg h1) hw
    refine pa_iload_n hE dX4_hasPlace_4 rfl 1 rfl ?_
    refine pa_aload_n hE dX4_hasPlace_5 rfl 0 rfl ?_
    refine pg_19_2 (pa_in19 hi0) hE (pa_m1 187 rfl rfl) dX4_hasPlace_6 ?_
    refine pa_icmp_ge hE dX4_hasPlace_9 (tgt := 22) (by decide) (fun h2 => ?_) (fun h2 => ?_)
    · have hw := Eq.mp (if_pos h2) hw
      refine pa_iconst hE dX4_hasPlace_22 (v := 0) (by decide) ?_
      exact pa_zret hE hr (by decide) ⟨rfl, hw⟩ rfl dX4_hasPlace_23
    · have hw := Eq.mp (if_neg h2) hw
      refine pa_iload_n hE dX4_hasPlace_12 rfl 1 rfl ?_
      refine pa_bipush hE dX4_hasPlace_13 (v := 60) (by decide) ?_
      refine pa_icmp_ge hE dX4_hasPlace_15 (tgt := 22) (by decide) (fun h3 => ?_) (fun h3 => ?_)
      · have hw := Eq.mp (if_pos h3) hw
        refine pa_iconst hE dX4_hasPlace_22 (v := 0) (by decide) ?_
        exact pa_zret hE hr (by decide) ⟨rfl, hw⟩ rfl dX4_hasPlace_23
      · have hw := Eq.mp (if_neg h3) hw
        refine pa_iconst hE dX4_hasPlace_18 (v := 1) (by decide) ?_
        refine pa_goto hE dX4_hasPlace_19 (tgt := 23) (by decide) ?_
        exact pa_zret hE hr (by decide) ⟨rfl, hw⟩ rfl dX4_hasPlace_23
def wp_X4_hasPlace (u0 : pa_S) (i0 : Nat) (x1 : Int32) (post : Int32 → Prop) : Prop := wb_X4_hasPlace_0 u0 i0 x1 post
theorem ct_X4_hasPlace (l : Launch) (g : pa_G) (D : va_G) (q : Nat → Nat → Nat) (u0 : pa_S) (i0 : Nat) (x1 : Int32) (post : Int32 → Prop) (hi0 : i0 < 6) (hw : wp_X4_hasPlace u0 i0 x1 post) : pa_Ct l yX4_hasPlace cX4_hasPlace 2 (some .boolean) 2 g D q u0 [.ref (q 19 i0), .int x1] (fun r => some (.int r)) (fun r u => u = u0 ∧ post r) := pa_met rfl rfl (Nat.le_of_ble_eq_true rfl) rfl (fun p e s m args below meth c A hE hr => tb_X4_hasPlace_0 hE hr hi0 hw)
def wb_X4_hasSpan_0 (u0 : pa_S) (i0 : Nat) (x1 : Int32) (x2 : Int32) (post : Int32 → Prop) : Prop :=
  (if x1 < 0 then post 0 else (if x2 < 0 then post 0 else (if ((pa_I u0 19 i0 2) - x2) < x1 then post 0 else post 1)))
set_option maxRecDepth 100000 in
set_option maxHeartbeats 4000000 in
theorem tb_X4_hasSpan_0 {p : Program} {l : Launch} {e : Env} {s : State} {m : MethodId} {args : Array Value} {below : List Frame} {meth : Method} {c : Code} {A : Nat → Prop} {D : va_G} {g : pa_G} {q : Nat → Nat → Nat} {u0 : pa_S} {i0 : Nat} {x1 : Int32} {x2 : Int32} {post : Int32 → Prop} (hE : pa_Fx p s m args meth c A D g 3 cX4_hasSpan RX4) (hr : meth.sig.returnType = (some .boolean)) (hi0 : i0 < 6) (hw : wb_X4_hasSpan_0 u0 i0 x1 x2 post) : pa_At p l e (pa_rm 2) s m args below meth c (MQ below (pa_Qc g D q (fun r => some (.int r)) (fun r u => u = u0 ∧ post r) A) args s 0 0 A) A D g 3 0 0 q u0 0 [(0, .ref (q 19 i0)), (1, .int x1), (2, .int x2)] [] := by
  refine pa_iload_n hE dX4_hasSpan_0 rfl 1 rfl ?_
  refine pa_if_lt hE dX4_hasSpan_1 (tgt := 22) (by decide) (fun h1 => ?_) (fun h1 => ?_)
  · have hw := Eq.mp (if_pos h1) hw
    refine pa_iconst hE dX4_hasSpan_22 (v := 0) (by decide) ?_
    exact pa_zret hE hr (by decide) ⟨rfl, hw⟩ rfl dX4_hasSpan_23
  · have hw := Eq.mp (if_neg h1) hw
    refine pa_iload_n hE dX4_hasSpan_4 rfl 2 rfl ?_
    refine pa_if_lt hE dX4_hasSpan_5 (tgt := 22) (by decide) (fun h2 => ?_) (fun h2 => ?_)
    · have hw := Eq.mp (if_pos h2) hw
      refine pa_iconst hE dX4_hasSpan_22 (v := 0) (by decide) ?_
      exact pa_zret hE hr (by decide) ⟨rfl, hw⟩ rfl dX4_hasSpan_23
    · have hw := Eq.mp (if_neg h2) hw
      refine pa_iload_n hE dX4_hasSpan_8 rfl 1 rfl ?_
      refine pa_aload_n hE dX4_hasSpan_9 rfl 0 rfl ?_
      refine pg_19_2 (pa_in19 hi0) hE (pa_m1 187 rfl rfl) dX4_hasSpan_10 ?_
      refine pa_iload_n hE dX4_hasSpan_13 rfl 2 rfl ?_
      refine pa_isub hE dX4_hasSpan_14 ?_
      refine pa_icmp_gt hE dX4_hasSpan_15 (tgt := 22) (by decide) (fun h3 => ?_) (fun h3 => ?_)
      · have hw := Eq.mp (if_pos h3) hw
        refine pa_iconst hE dX4_hasSpan_22 (v := 0) (by decide) ?_
        exact pa_zret hE hr (by decide) ⟨rfl, hw⟩ rfl dX4_hasSpan_23
      · have hw := Eq.mp (if_neg h3) hw
        refine pa_iconst hE dX4_hasSpan_18 (v := 1) (by decide) ?_
        refine pa_goto hE dX4_hasSpan_19 (tgt := 23) (by decide) ?_
        exact pa_zret hE hr (by decide) ⟨rfl, hw⟩ rfl dX4_hasSpan_23
def wp_X4_hasSpan (u0 : pa_S) (i0 : Nat) (x1 : Int32) (x2 : Int32) (post : Int32 → Prop) : Prop := wb_X4_hasSpan_0 u0 i0 x1 x2 post
theorem ct_X4_hasSpan (l : Launch) (g : pa_G) (D : va_G) (q : Nat → Nat → Nat) (u0 : pa_S) (i0 : Nat) (x1 : Int32) (x2 : Int32) (post : Int32 → Prop) (hi0 : i0 < 6) (hw : wp_X4_hasSpan u0 i0 x1 x2 post) : pa_Ct l yX4_hasSpan cX4_hasSpan 3 (some .boolean) 2 g D q u0 [.ref (q 19 i0), .int x1, .int x2] (fun r => some (.int r)) (fun r u => u = u0 ∧ post r) := pa_met rfl rfl (Nat.le_of_ble_eq_true rfl) rfl (fun p e s m args below meth c A hE hr => tb_X4_hasSpan_0 hE hr hi0 hw)
def wb_X4_at_0 (u0 : pa_S) (i0 : Nat) (x1 : Int32) (post : Int64 → Prop) : Prop :=
  (wp_X4_hasPlace u0 i0 x1 (fun (r1 : Int32) => (if r1 = 0 then post 0 else (vp_in x1 60) ∧ post (pa_L u0 20 i0 x1.toNatClampNeg))))
set_option maxRecDepth 100000 in
set_option maxHeartbeats 4000000 in
theorem tb_X4_at_0 {p : Program} {l : Launch} {e : Env} {s : State} {m : MethodId} {args : Array Value} {below : List Frame} {meth : Method} {c : Code} {A : Nat → Prop} {D : va_G} {g : pa_G} {q : Nat → Nat → Nat} {u0 : pa_S} {i0 : Nat} {x1 : Int32} {post : Int64 → Prop} (hE : pa_Fx p s m args meth c A D g 2 cX4_at RX4) (hr : meth.sig.returnType = (some .long)) (hi0 : i0 < 6) (hw : wb_X4_at_0 u0 i0 x1 post) : pa_At p l e (pa_rm 3) s m args below meth c (MQ below (pa_Qc g D q (fun r => some (.long r)) (fun r u => u = u0 ∧ post r) A) args s 0 0 A) A D g 2 0 0 q u0 0 [(0, .ref (q 19 i0)), (1, .int x1)] [] := by
  refine pa_aload_n hE dX4_at_0 rfl 0 rfl ?_
  refine pa_iload_n hE dX4_at_1 rfl 1 rfl ?_
  refine pa_callVri hE (ct_X4_hasPlace l g D q u0 i0 x1 _ hi0 hw) cv_RX4_37 (pa_in19 hi0) rfl rfl rfl (pa_hR (by omega) (by decide)) rfl (Nat.le_of_ble_eq_true rfl) dX4_at_2 (fun r1 hw => ?_)
  refine pa_if_eq hE dX4_at_5 (tgt := 17) (by decide) (fun h2 => ?_) (fun h2 => ?_)
  · have hw := Eq.mp (if_pos h2) hw
    refine pa_lconst hE dX4_at_17 (v := 0) (by decide) ?_
    exact pa_lret hE hr ⟨rfl, hw⟩ rfl dX4_at_18
  · have hw := Eq.mp (if_neg h2) hw
    refine pa_aload_n hE dX4_at_8 rfl 0 rfl ?_
    refine pg_19_0 (pa_in19 hi0) hE (pa_m1 183 rfl rfl) dX4_at_9 ?_
    refine pa_iload_n hE dX4_at_12 rfl 1 rfl ?_
    obtain ⟨h3, hw⟩ := hw
    refine pl_20 (pa_in20 hi0) hE h3 dX4_at_13 ?_
    refine pa_goto hE dX4_at_14 (tgt := 18) (by decide) ?_
    exact pa_lret hE hr ⟨rfl, hw⟩ rfl dX4_at_18
def wp_X4_at (u0 : pa_S) (i0 : Nat) (x1 : Int32) (post : Int64 → Prop) : Prop := wb_X4_at_0 u0 i0 x1 post
theorem ct_X4_at (l : Launch) (g : pa_G) (D : va_G) (q : Nat → Nat → Nat) (u0 : pa_S) (i0 : Nat) (x1 : Int32) (post : Int64 → Prop) (hi0 : i0 < 6) (hw : wp_X4_at u0 i0 x1 post) : pa_Ct l yX4_at cX4_at 2 (some .long) 3 g D q u0 [.ref (q 19 i0), .int x1] (fun r => some (.long r)) (fun r u => u = u0 ∧ post r) := pa_met rfl rfl (Nat.le_of_ble_eq_true rfl) rfl (fun p e s m args below meth c A hE hr => tb_X4_at_0 hE hr hi0 hw)
def wb_X4_cut_0 (u0 : pa_S) (i0 : Nat) (x1 : Int64) (post : Int64 → Prop) : Prop :=
  (if (pa_I u0 19 i0 1) = 0 then post (((x1.toInt32).toInt8.toInt32).toInt64) else (if (pa_I u0 19 i0 1) = 1 then post (((x1.toInt32).toInt16.toInt32).toInt64) else (if (pa_I u0 19 i0 1) = 2 then post ((x1.toInt32).toInt64) else (if (pa_I u0 19 i0 1) = 3 then post x1 else (if (pa_I u0 19 i0 1) = 4 then (if (lg_cmp x1 0) = 0 then post 0 else post 1) else post x1)))))
set_option maxRecDepth 100000 in
set_option maxHeartbeats 4000000 in
theorem tb_X4_cut_0 {p : Program} {l : Launch} {e : Env} {s : State} {m : MethodId} {args : Array Value} {below : List Frame} {meth : Method} {c : Code} {A : Nat → Prop} {D : va_G} {g : pa_G} {q : Nat → Nat → Nat} {u0 : pa_S} {i0 : Nat} {x1 : Int64} {post : Int64 → Prop} (hE : pa_Fx p s m args meth c A D g 3 cX4_cut RX4) (hr : meth.sig.returnType = (some .long)) (hi0 : i0 < 6) (hw : wb_X4_cut_0 u0 i0 x1 post) : pa_At p l e (pa_rm 2) s m args below meth c (MQ below (pa_Qc g D q (fun r => some (.long r)) (fun r u => u = u0 ∧ post r) A) args s 0 0 A) A D g 3 0 0 q u0 0 [(0, .ref (q 19 i0)), (1, .long x1)] [] := by
  refine pa_aload_n hE dX4_cut_0 rfl 0 rfl ?_
  refine pg_19_1 (pa_in19 hi0) hE (pa_m1 185 rfl rfl) dX4_cut_1 ?_
  by_cases h1 : (pa_I u0 19 i0 1) = 0
  · have hw := Eq.mp (if_pos h1) hw
    refine pa_tswIn hE dX4_cut_4 (z := 0) h1 (by decide) (by decide) rfl (tgt := 40) (by decide) ?_
    refine pa_lload_n hE dX4_cut_40 rfl 1 rfl ?_
    refine pa_l2i hE dX4_cut_41 ?_
    refine pa_i2b hE dX4_cut_42 ?_
    refine pa_i2l hE dX4_cut_43 ?_
    exact pa_lret hE hr ⟨rfl, hw⟩ rfl dX4_cut_44
  · have hw := Eq.mp (if_neg h1) hw
    by_cases h2 : (pa_I u0 19 i0 1) = 1
    · have hw := Eq.mp (if_pos h2) hw
      refine pa_tswIn hE dX4_cut_4 (z := 1) h2 (by decide) (by decide) rfl (tgt := 45) (by decide) ?_
      refine pa_lload_n hE dX4_cut_45 rfl 1 rfl ?_
      refine pa_l2i hE dX4_cut_46 ?_
      refine pa_i2s hE dX4_cut_47 ?_
      refine pa_i2l hE dX4_cut_48 ?_
      exact pa_lret hE hr ⟨rfl, hw⟩ rfl dX4_cut_49
    · have hw := Eq.mp (if_neg h2) hw
      by_cases h3 : (pa_I u0 19 i0 1) = 2
      · have hw := Eq.mp (if_pos h3) hw
        refine pa_tswIn hE dX4_cut_4 (z := 2) h3 (by decide) (by decide) rfl (tgt := 50) (by decide) ?_
        refine pa_lload_n hE dX4_cut_50 rfl 1 rfl ?_
        refine pa_l2i hE dX4_cut_51 ?_
        refine pa_i2l hE dX4_cut_52 ?_
        exact pa_lret hE hr ⟨rfl, hw⟩ rfl dX4_cut_53
      · have hw := Eq.mp (if_neg h3) hw
        by_cases h4 : (pa_I u0 19 i0 1) = 3
        · have hw := Eq.mp (if_pos h4) hw
          refine pa_tswIn hE dX4_cut_4 (z := 3) h4 (by decide) (by decide) rfl (tgt := 66) (by decide) ?_
          refine pa_lload_n hE dX4_cut_66 rfl 1 rfl ?_
          exact pa_lret hE hr ⟨rfl, hw⟩ rfl dX4_cut_67
        · have hw := Eq.mp (if_neg h4) hw
          by_cases h5 : (pa_I u0 19 i0 1) = 4
          · have hw := Eq.mp (if_pos h5) hw
            refine pa_tswIn hE dX4_cut_4 (z := 4) h5 (by decide) (by decide) rfl (tgt := 54) (by decide) ?_
            refine pa_lload_n hE dX4_cut_54 rfl 1 rfl ?_
            refine pa_lconst hE dX4_cut_55 (v := 0) (by decide) ?_
            refine pa_lcmp hE dX4_cut_56 ?_
            refine pa_if_eq hE dX4_cut_57 (tgt := 64) (by decide) (fun h6 => ?_) (fun h6 => ?_)
            · have hw := Eq.mp (if_pos h6) hw
              refine pa_lconst hE dX4_cut_64 (v := 0) (by decide) ?_
              exact pa_lret hE hr ⟨rfl, hw⟩ rfl dX4_cut_65
            · have hw := Eq.mp (if_neg h6) hw
              refine pa_lconst hE dX4_cut_60 (v := 1) (by decide) ?_
              refine pa_goto hE dX4_cut_61 (tgt := 65) (by decide) ?_
              exact pa_lret hE hr ⟨rfl, hw⟩ rfl dX4_cut_65
          · have hw := Eq.mp (if_neg h5) hw
            refine pa_tswOut hE dX4_cut_4 (by have eh1 := pa_neL h1 (by decide : (0 : Int32).toInt = 0); have eh2 := pa_neL h2 (by decide : (1 : Int32).toInt = 1); have eh3 := pa_neL h3 (by decide : (2 : Int32).toInt = 2); have eh4 := pa_neL h4 (by decide : (3 : Int32).toInt = 3); have eh5 := pa_neL h5 (by decide : (4 : Int32).toInt = 4); omega) (tgt := 66) (by decide) ?_
            refine pa_lload_n hE dX4_cut_66 rfl 1 rfl ?_
            exact pa_lret hE hr ⟨rfl, hw⟩ rfl dX4_cut_67
def wp_X4_cut (u0 : pa_S) (i0 : Nat) (x1 : Int64) (post : Int64 → Prop) : Prop := wb_X4_cut_0 u0 i0 x1 post
theorem ct_X4_cut (l : Launch) (g : pa_G) (D : va_G) (q : Nat → Nat → Nat) (u0 : pa_S) (i0 : Nat) (x1 : Int64) (post : Int64 → Prop) (hi0 : i0 < 6) (hw : wp_X4_cut u0 i0 x1 post) : pa_Ct l yX4_cut cX4_cut 3 (some .long) 2 g D q u0 [.ref (q 19 i0), .long x1] (fun r => some (.long r)) (fun r u => u = u0 ∧ post r) := pa_met rfl rfl (Nat.le_of_ble_eq_true rfl) rfl (fun p e s m args below meth c A hE hr => tb_X4_cut_0 hE hr hi0 hw)
def wb_X4_put_0 (u0 : pa_S) (i0 : Nat) (x1 : Int32) (x2 : Int64) (post : pa_S → Prop) : Prop :=
  (wp_X4_hasPlace u0 i0 x1 (fun (r1 : Int32) => (if r1 = 0 then post u0 else (wp_X4_cut u0 i0 x2 (fun (r3 : Int64) => (vp_in x1 60) ∧ ∀ u5 : pa_S, u5 = pa_sL u0 20 i0 (vp_updL (pa_L u0 20 i0) x1.toNatClampNeg r3) → post u5)))))
set_option maxRecDepth 100000 in
set_option maxHeartbeats 4000000 in
theorem tb_X4_put_0 {p : Program} {l : Launch} {e : Env} {s : State} {m : MethodId} {args : Array Value} {below : List Frame} {meth : Method} {c : Code} {A : Nat → Prop} {D : va_G} {g : pa_G} {q : Nat → Nat → Nat} {u0 : pa_S} {i0 : Nat} {x1 : Int32} {x2 : Int64} {post : pa_S → Prop} (hE : pa_Fx p s m args meth c A D g 4 cX4_put RX4) (hr : meth.sig.returnType = none) (hi0 : i0 < 6) (hw : wb_X4_put_0 u0 i0 x1 x2 post) : pa_At p l e (pa_rm 3) s m args below meth c (MQ below (pa_Qc g D q (fun (_ : Unit) => none) (fun (_ : Unit) u => post u) A) args s 0 0 A) A D g 4 0 0 q u0 0 [(0, .ref (q 19 i0)), (1, .int x1), (2, .long x2)] [] := by
  refine pa_aload_n hE dX4_put_0 rfl 0 rfl ?_
  refine pa_iload_n hE dX4_put_1 rfl 1 rfl ?_
  refine pa_callVri hE (ct_X4_hasPlace l g D q u0 i0 x1 _ hi0 hw) cv_RX4_37 (pa_in19 hi0) rfl rfl rfl (pa_hR (by omega) (by decide)) rfl (Nat.le_of_ble_eq_true rfl) dX4_put_2 (fun r1 hw => ?_)
  refine pa_if_eq hE dX4_put_5 (tgt := 19) (by decide) (fun h2 => ?_) (fun h2 => ?_)
  · have hw := Eq.mp (if_pos h2) hw
    exact pa_vret (r := ()) hE hr hw rfl dX4_put_19
  · have hw := Eq.mp (if_neg h2) hw
    refine pa_aload_n hE dX4_put_8 rfl 0 rfl ?_
    refine pg_19_0 (pa_in19 hi0) hE (pa_m1 183 rfl rfl) dX4_put_9 ?_
    refine pa_iload_n hE dX4_put_12 rfl 1 rfl ?_
    refine pa_aload_n hE dX4_put_13 rfl 0 rfl ?_
    refine pa_lload_n hE dX4_put_14 rfl 2 rfl ?_
    refine pa_callVrl hE (ct_X4_cut l g D q u0 i0 x2 _ hi0 hw) cv_RX4_41 (pa_in19 hi0) rfl rfl rfl (pa_hR (by omega) (by decide)) rfl (Nat.le_of_ble_eq_true rfl) dX4_put_15 (fun r3 hw => ?_)
    obtain ⟨h4, hw⟩ := hw
    refine ps_20 (pa_in20 hi0) hE h4 dX4_put_18 (fun u5 eu5 => ?_)
    have hw := hw u5 eu5
    exact pa_vret (r := ()) hE hr hw rfl dX4_put_19
def wp_X4_put (u0 : pa_S) (i0 : Nat) (x1 : Int32) (x2 : Int64) (post : pa_S → Prop) : Prop := wb_X4_put_0 u0 i0 x1 x2 post
theorem ct_X4_put (l : Launch) (g : pa_G) (D : va_G) (q : Nat → Nat → Nat) (u0 : pa_S) (i0 : Nat) (x1 : Int32) (x2 : Int64) (post : pa_S → Prop) (hi0 : i0 < 6) (hw : wp_X4_put u0 i0 x1 x2 post) : pa_Ct l yX4_put cX4_put 4 none 3 g D q u0 [.ref (q 19 i0), .int x1, .long x2] (fun (_ : Unit) => none) (fun (_ : Unit) u => post u) := pa_met rfl rfl (Nat.le_of_ble_eq_true rfl) rfl (fun p e s m args below meth c A hE hr => tb_X4_put_0 hE hr hi0 hw)
