
theorem cs_RX6_79 : pa_CS RX6 79 yX6_within cX6_within 3 (some .boolean) 3 := ⟨⟨by decide +kernel, by decide +kernel, by decide +kernel⟩, pa_m2 6 rfl rfl, pa_m2 7 rfl rfl, pa_m1 1 rfl rfl, pa_m2 8 rfl rfl⟩
theorem cv_RX6_87 : pa_CV RX6 RX3 87 yX3_admit cX3_admit 6 (some .int) 3 := ⟨⟨rfl, by decide +kernel, by decide +kernel, by decide +kernel⟩, pa_m2 9 rfl rfl, pa_m2 10 rfl rfl, pa_m2 11 rfl rfl, pa_m1 7 rfl rfl, pa_m2 12 rfl rfl⟩
theorem cv_RX6_118 : pa_CV RX6 RX3 118 yX3_hasLine cX3_hasLine 3 (some .boolean) 2 := ⟨⟨rfl, by decide +kernel, by decide +kernel, by decide +kernel⟩, pa_m2 84 rfl rfl, pa_m2 18 rfl rfl, pa_m2 19 rfl rfl, pa_m1 7 rfl rfl, pa_m2 20 rfl rfl⟩
theorem cv_RX6_122 : pa_CV RX6 RX3 122 yX3_lengthOf cX3_lengthOf 3 (some .int) 2 := ⟨⟨rfl, by decide +kernel, by decide +kernel, by decide +kernel⟩, pa_m2 85 rfl rfl, pa_m2 53 rfl rfl, pa_m2 54 rfl rfl, pa_m1 7 rfl rfl, pa_m2 55 rfl rfl⟩
theorem cv_RX6_125 : pa_CV RX6 RX3 125 yX3_graceOf cX3_graceOf 3 (some .int) 2 := ⟨⟨rfl, by decide +kernel, by decide +kernel, by decide +kernel⟩, pa_m2 86 rfl rfl, pa_m2 57 rfl rfl, pa_m2 58 rfl rfl, pa_m1 7 rfl rfl, pa_m2 59 rfl rfl⟩
theorem cv_RX6_128 : pa_CV RX6 RX3 128 yX3_worthOf cX3_worthOf 4 (some .int) 2 := ⟨⟨rfl, by decide +kernel, by decide +kernel, by decide +kernel⟩, pa_m2 87 rfl rfl, pa_m2 49 rfl rfl, pa_m2 50 rfl rfl, pa_m1 7 rfl rfl, pa_m2 51 rfl rfl⟩
theorem cv_RX6_91 : pa_CV RX6 RX3 91 yX3_has cX3_has 2 (some .boolean) 1 := ⟨⟨rfl, by decide +kernel, by decide +kernel, by decide +kernel⟩, pa_m2 29 rfl rfl, pa_m2 22 rfl rfl, pa_m2 23 rfl rfl, pa_m1 7 rfl rfl, pa_m2 24 rfl rfl⟩
theorem cv_RX6_95 : pa_CV RX6 RX3 95 yX3_kindOf cX3_kindOf 2 (some .int) 1 := ⟨⟨rfl, by decide +kernel, by decide +kernel, by decide +kernel⟩, pa_m2 30 rfl rfl, pa_m2 31 rfl rfl, pa_m2 32 rfl rfl, pa_m1 7 rfl rfl, pa_m2 33 rfl rfl⟩
theorem cv_RX6_99 : pa_CV RX6 RX3 99 yX3_vOf cX3_vOf 2 (some .int) 1 := ⟨⟨rfl, by decide +kernel, by decide +kernel, by decide +kernel⟩, pa_m2 34 rfl rfl, pa_m2 35 rfl rfl, pa_m2 36 rfl rfl, pa_m1 7 rfl rfl, pa_m2 37 rfl rfl⟩
theorem cv_RX6_102 : pa_CV RX6 RX3 102 yX3_shookOf cX3_shookOf 2 (some .int) 1 := ⟨⟨rfl, by decide +kernel, by decide +kernel, by decide +kernel⟩, pa_m2 38 rfl rfl, pa_m2 39 rfl rfl, pa_m2 40 rfl rfl, pa_m1 7 rfl rfl, pa_m2 41 rfl rfl⟩
theorem cv_RX6_105 : pa_CV RX6 RX3 105 yX3_fortuneOf cX3_fortuneOf 5 (some .int) 1 := ⟨⟨rfl, by decide +kernel, by decide +kernel, by decide +kernel⟩, pa_m2 42 rfl rfl, pa_m2 43 rfl rfl, pa_m2 44 rfl rfl, pa_m1 7 rfl rfl, pa_m2 45 rfl rfl⟩
theorem cv_RX6_111 : pa_CV RX6 RX3 111 yX3_fadesOn cX3_fadesOn 3 (some .int) 2 := ⟨⟨rfl, by decide +kernel, by decide +kernel, by decide +kernel⟩, pa_m2 68 rfl rfl, pa_m2 69 rfl rfl, pa_m2 70 rfl rfl, pa_m1 7 rfl rfl, pa_m2 71 rfl rfl⟩
theorem cv_RX6_115 : pa_CV RX6 RX6 115 yX6_ofLine cX6_ofLine 4 (some .int) 3 := ⟨⟨rfl, by decide +kernel, by decide +kernel, by decide +kernel⟩, pa_m2 80 rfl rfl, pa_m2 82 rfl rfl, pa_ms1 1 rfl rfl, pa_m1 1 rfl rfl, pa_m2 83 rfl rfl⟩
theorem cv_RX6_131 : pa_CV RX6 RX3 131 yX3_putLength cX3_putLength 4 none 3 := ⟨⟨rfl, by decide +kernel, by decide +kernel, by decide +kernel⟩, pa_m2 92 rfl rfl, pa_m2 14 rfl rfl, pa_m2 15 rfl rfl, pa_m1 7 rfl rfl, pa_m2 16 rfl rfl⟩
theorem cv_RX6_135 : pa_CV RX6 RX3 135 yX3_partOf cX3_partOf 3 (some .int) 2 := ⟨⟨rfl, by decide +kernel, by decide +kernel, by decide +kernel⟩, pa_m2 97 rfl rfl, pa_m2 73 rfl rfl, pa_m2 74 rfl rfl, pa_m1 7 rfl rfl, pa_m2 75 rfl rfl⟩
theorem cv_RX6_138 : pa_CV RX6 RX3 138 yX3_putPart cX3_putPart 4 none 3 := ⟨⟨rfl, by decide +kernel, by decide +kernel, by decide +kernel⟩, pa_m2 98 rfl rfl, pa_m2 99 rfl rfl, pa_m2 100 rfl rfl, pa_m1 7 rfl rfl, pa_m2 101 rfl rfl⟩
theorem cv_RX6_144 : pa_CV RX6 RX3 144 yX3_drawOn cX3_drawOn 6 (some .int) 3 := ⟨⟨rfl, by decide +kernel, by decide +kernel, by decide +kernel⟩, pa_m2 110 rfl rfl, pa_m2 111 rfl rfl, pa_m2 112 rfl rfl, pa_m1 7 rfl rfl, pa_m2 113 rfl rfl⟩
theorem cv_RX6_147 : pa_CV RX6 RX3 147 yX3_shakeHands cX3_shakeHands 5 (some .int) 2 := ⟨⟨rfl, by decide +kernel, by decide +kernel, by decide +kernel⟩, pa_m2 119 rfl rfl, pa_m2 120 rfl rfl, pa_m2 121 rfl rfl, pa_m1 7 rfl rfl, pa_m2 122 rfl rfl⟩
theorem cv_RX6_150 : pa_CV RX6 RX5 150 yX5_isFull cX5_isFull 1 (some .boolean) 0 := ⟨⟨rfl, by decide +kernel, by decide +kernel, by decide +kernel⟩, pa_m2 138 rfl rfl, pa_m2 139 rfl rfl, pa_m2 140 rfl rfl, pa_m1 3 rfl rfl, pa_m2 141 rfl rfl⟩
theorem cv_RX6_154 : pa_CV RX6 RX5 154 yX5_add cX5_add 2 (some .int) 1 := ⟨⟨rfl, by decide +kernel, by decide +kernel, by decide +kernel⟩, pa_m2 142 rfl rfl, pa_m2 143 rfl rfl, pa_m2 144 rfl rfl, pa_m1 3 rfl rfl, pa_m2 145 rfl rfl⟩
theorem cv_RX6_184 : pa_CV RX6 RX3 184 yX3_fortuneOfAll cX3_fortuneOfAll 3 (some .int) 0 := ⟨⟨rfl, by decide +kernel, by decide +kernel, by decide +kernel⟩, pa_m3 88 rfl rfl, pa_m3 89 rfl rfl, pa_m3 90 rfl rfl, pa_m1 7 rfl rfl, pa_m3 91 rfl rfl⟩
theorem cv_RX6_187 : pa_CV RX6 RX3 187 yX3_lengthOfAll cX3_lengthOfAll 4 (some .int) 0 := ⟨⟨rfl, by decide +kernel, by decide +kernel, by decide +kernel⟩, pa_m3 93 rfl rfl, pa_m3 94 rfl rfl, pa_m3 95 rfl rfl, pa_m1 7 rfl rfl, pa_m3 96 rfl rfl⟩
theorem cv_RX6_190 : pa_CV RX6 RX3 190 yX3_goDays cX3_goDays 5 none 1 := ⟨⟨rfl, by decide +kernel, by decide +kernel, by decide +kernel⟩, pa_m3 101 rfl rfl, pa_m3 102 rfl rfl, pa_m3 103 rfl rfl, pa_m1 7 rfl rfl, pa_m3 104 rfl rfl⟩
theorem cv_RX6_194 : pa_CV RX6 RX3 194 yX3_become cX3_become 2 none 1 := ⟨⟨rfl, by decide +kernel, by decide +kernel, by decide +kernel⟩, pa_m3 114 rfl rfl, pa_m3 115 rfl rfl, pa_m3 116 rfl rfl, pa_m1 7 rfl rfl, pa_m3 117 rfl rfl⟩
theorem cv_RX6_198 : pa_CV RX6 RX6 198 yX6_ifDrawn cX6_ifDrawn 6 (some (.object "PalmsAltered$Scene")) 4 := ⟨⟨rfl, by decide +kernel, by decide +kernel, by decide +kernel⟩, pa_m3 131 rfl rfl, pa_m3 133 rfl rfl, pa_ms1 15 rfl rfl, pa_m1 1 rfl rfl, pa_m3 134 rfl rfl⟩
theorem cv_RX6_202 : pa_CV RX6 RX6 202 yX6_ifShaken cX6_ifShaken 4 (some (.object "PalmsAltered$Scene")) 2 := ⟨⟨rfl, by decide +kernel, by decide +kernel, by decide +kernel⟩, pa_m3 139 rfl rfl, pa_m3 141 rfl rfl, pa_ms2 0 rfl rfl, pa_m1 1 rfl rfl, pa_m3 142 rfl rfl⟩
theorem cv_RX6_211 : pa_CV RX6 RX2 211 yX2_add cX2_add 5 (some .int) 4 := ⟨⟨rfl, by decide +kernel, by decide +kernel, by decide +kernel⟩, pa_m3 151 rfl rfl, pa_m3 152 rfl rfl, pa_m3 153 rfl rfl, pa_m1 2 rfl rfl, pa_m3 154 rfl rfl⟩
theorem cv_RX6_206 : pa_CV RX6 RX2 206 yX2_clear cX2_clear 1 (some .int) 0 := ⟨⟨rfl, by decide +kernel, by decide +kernel, by decide +kernel⟩, pa_m3 147 rfl rfl, pa_m3 148 rfl rfl, pa_m3 149 rfl rfl, pa_m1 2 rfl rfl, pa_m3 150 rfl rfl⟩
theorem cv_RX6_218 : pa_CV RX6 RX2 218 yX2_at cX2_at 4 (some .int) 2 := ⟨⟨rfl, by decide +kernel, by decide +kernel, by decide +kernel⟩, pa_m3 163 rfl rfl, pa_m3 164 rfl rfl, pa_m3 165 rfl rfl, pa_m1 2 rfl rfl, pa_m3 166 rfl rfl⟩
theorem cv_RX6_214 : pa_CV RX6 RX6 214 yX6_firstOtherwise cX6_firstOtherwise 3 (some .int) 1 := ⟨⟨rfl, by decide +kernel, by decide +kernel, by decide +kernel⟩, pa_m3 159 rfl rfl, pa_m3 161 rfl rfl, pa_ms2 1 rfl rfl, pa_m1 1 rfl rfl, pa_m3 162 rfl rfl⟩
theorem cv_RX6_221 : pa_CV RX6 RX6 221 yX6_isSoAfter cX6_isSoAfter 6 (some .boolean) 2 := ⟨⟨rfl, by decide +kernel, by decide +kernel, by decide +kernel⟩, pa_m3 171 rfl rfl, pa_m3 173 rfl rfl, pa_ms2 2 rfl rfl, pa_m1 1 rfl rfl, pa_m3 174 rfl rfl⟩
theorem cv_RX6_224 : pa_CV RX6 RX3 224 yX3_lengthBehind cX3_lengthBehind 4 (some .int) 3 := ⟨⟨rfl, by decide +kernel, by decide +kernel, by decide +kernel⟩, pa_m3 187 rfl rfl, pa_m3 188 rfl rfl, pa_m3 189 rfl rfl, pa_m1 7 rfl rfl, pa_m3 190 rfl rfl⟩
theorem cv_RX6_227 : pa_CV RX6 RX6 227 yX6_isAllSeenSo cX6_isAllSeenSo 4 (some .boolean) 1 := ⟨⟨rfl, by decide +kernel, by decide +kernel, by decide +kernel⟩, pa_m3 183 rfl rfl, pa_m3 185 rfl rfl, pa_ms2 3 rfl rfl, pa_m1 1 rfl rfl, pa_m3 186 rfl rfl⟩
theorem cv_RX6_231 : pa_CV RX6 RX3 231 yX3_putV cX3_putV 3 none 2 := ⟨⟨rfl, by decide +kernel, by decide +kernel, by decide +kernel⟩, pa_m3 195 rfl rfl, pa_m3 196 rfl rfl, pa_m3 197 rfl rfl, pa_m1 7 rfl rfl, pa_m3 198 rfl rfl⟩
theorem cs_RX6_237 : pa_CS RX6 237 yX6_lowestTerm cX6_lowestTerm 7 (some .int) 3 := ⟨⟨by decide +kernel, by decide +kernel, by decide +kernel⟩, pa_m3 204 rfl rfl, pa_m3 205 rfl rfl, pa_m1 1 rfl rfl, pa_m3 206 rfl rfl⟩
theorem cs_RX6_240 : pa_CS RX6 240 yX6_isTape cX6_isTape 1 (some .boolean) 1 := ⟨⟨by decide +kernel, by decide +kernel, by decide +kernel⟩, pa_m3 223 rfl rfl, pa_m3 224 rfl rfl, pa_m1 1 rfl rfl, pa_m3 225 rfl rfl⟩
theorem cv_RX6_243 : pa_CV RX6 RX4 243 yX4_holdsNothing cX4_holdsNothing 1 (some .boolean) 0 := ⟨⟨rfl, by decide +kernel, by decide +kernel, by decide +kernel⟩, pa_m3 226 rfl rfl, pa_m3 227 rfl rfl, pa_m3 228 rfl rfl, pa_m1 9 rfl rfl, pa_m3 229 rfl rfl⟩
theorem cv_RX6_249 : pa_CV RX6 RX4 249 yX4_hasPlace cX4_hasPlace 2 (some .boolean) 1 := ⟨⟨rfl, by decide +kernel, by decide +kernel, by decide +kernel⟩, pa_m3 230 rfl rfl, pa_m3 231 rfl rfl, pa_m3 232 rfl rfl, pa_m1 9 rfl rfl, pa_m3 233 rfl rfl⟩
theorem cv_RX6_252 : pa_CV RX6 RX4 252 yX4_at cX4_at 2 (some .long) 1 := ⟨⟨rfl, by decide +kernel, by decide +kernel, by decide +kernel⟩, pa_m3 234 rfl rfl, pa_m3 235 rfl rfl, pa_m3 236 rfl rfl, pa_m1 9 rfl rfl, pa_m3 237 rfl rfl⟩
theorem cv_RX6_255 : pa_CV RX6 RX2 255 yX2_become cX2_become 2 none 1 := ⟨⟨rfl, by decide +kernel, by decide +kernel, by decide +kernel⟩, pa_m4 3 rfl rfl, pa_m4 4 rfl rfl, pa_m4 5 rfl rfl, pa_m1 2 rfl rfl, pa_m4 6 rfl rfl⟩
theorem cv_RX6_262 : pa_CV RX6 RX0 262 yX0_forget cX0_forget 1 none 0 := ⟨⟨rfl, by decide +kernel, by decide +kernel, by decide +kernel⟩, pa_m4 16 rfl rfl, pa_m4 17 rfl rfl, pa_m4 18 rfl rfl, pa_m1 4 rfl rfl, pa_m4 19 rfl rfl⟩
theorem cv_RX6_265 : pa_CV RX6 RX0 265 yX0_begin cX0_begin 6 (some .int) 5 := ⟨⟨rfl, by decide +kernel, by decide +kernel, by decide +kernel⟩, pa_m4 20 rfl rfl, pa_m4 21 rfl rfl, pa_m4 22 rfl rfl, pa_m1 4 rfl rfl, pa_m4 23 rfl rfl⟩
theorem cv_RX6_269 : pa_CV RX6 RX0 269 yX0_isKept cX0_isKept 2 (some .boolean) 1 := ⟨⟨rfl, by decide +kernel, by decide +kernel, by decide +kernel⟩, pa_m4 51 rfl rfl, pa_m4 52 rfl rfl, pa_m4 53 rfl rfl, pa_m1 4 rfl rfl, pa_m4 54 rfl rfl⟩
theorem cv_RX6_272 : pa_CV RX6 RX0 272 yX0_bodyAt cX0_bodyAt 2 (some .int) 1 := ⟨⟨rfl, by decide +kernel, by decide +kernel, by decide +kernel⟩, pa_m4 55 rfl rfl, pa_m4 56 rfl rfl, pa_m4 57 rfl rfl, pa_m1 4 rfl rfl, pa_m4 58 rfl rfl⟩
theorem cv_RX6_278 : pa_CV RX6 RX5 278 yX5_size cX5_size 1 (some .int) 0 := ⟨⟨rfl, by decide +kernel, by decide +kernel, by decide +kernel⟩, pa_m4 69 rfl rfl, pa_m4 70 rfl rfl, pa_m4 71 rfl rfl, pa_m1 3 rfl rfl, pa_m4 72 rfl rfl⟩
theorem cv_RX6_281 : pa_CV RX6 RX0 281 yX0_ran cX0_ran 1 (some .int) 0 := ⟨⟨rfl, by decide +kernel, by decide +kernel, by decide +kernel⟩, pa_m4 73 rfl rfl, pa_m4 74 rfl rfl, pa_m4 75 rfl rfl, pa_m1 4 rfl rfl, pa_m4 76 rfl rfl⟩
theorem cv_RX6_284 : pa_CV RX6 RX4 284 yX4_become cX4_become 3 none 2 := ⟨⟨rfl, by decide +kernel, by decide +kernel, by decide +kernel⟩, pa_m4 81 rfl rfl, pa_m4 82 rfl rfl, pa_m4 83 rfl rfl, pa_m1 9 rfl rfl, pa_m4 84 rfl rfl⟩
theorem cv_RX6_286 : pa_CV RX6 RX4 286 yX4_put cX4_put 4 none 2 := ⟨⟨rfl, by decide +kernel, by decide +kernel, by decide +kernel⟩, pa_m4 94 rfl rfl, pa_m4 95 rfl rfl, pa_m4 96 rfl rfl, pa_m1 9 rfl rfl, pa_m4 97 rfl rfl⟩
theorem cv_RX6_290 : pa_CV RX6 RX4 290 yX4_hasSpan cX4_hasSpan 3 (some .boolean) 2 := ⟨⟨rfl, by decide +kernel, by decide +kernel, by decide +kernel⟩, pa_m4 110 rfl rfl, pa_m4 111 rfl rfl, pa_m4 112 rfl rfl, pa_m1 9 rfl rfl, pa_m4 113 rfl rfl⟩
theorem ca_RX6_297 : Cond.methodLink RX6 297 arraycopyName ∈ pa_tb ∧ Cond.native arraycopyName ∈ pa_tb ∧ Cond.static arraycopyName ∈ pa_tb ∧ Cond.initialized "java/lang/System" ∈ pa_tb := ⟨pa_m4 114 rfl rfl, pa_m3 74 rfl rfl, pa_m3 73 rfl rfl, pa_m1 16 rfl rfl⟩
def wb_X6_within_0 (u0 : pa_S) (x0 : Int32) (x1 : Int32) (x2 : Int32) (post : Int32 → Prop) : Prop :=
  (if x0 < x1 then post 0 else (if x2 < x0 then post 0 else post 1))
set_option maxRecDepth 100000 in
set_option maxHeartbeats 4000000 in
theorem tb_X6_within_0 {p : Program} {l : Launch} {e : Env} {s : State} {m : MethodId} {args : Array Value} {below : List Frame} {meth : Method} {c : Code} {A : Nat → Prop} {D : va_G} {g : pa_G} {q : Nat → Nat → Nat} {u0 : pa_S} {x0 : Int32} {x1 : Int32} {x2 : Int32} {post : Int32 → Prop} (hE : pa_Fx p s m args meth c A D g 3 cX6_within RX6) (hr : meth.sig.returnType = (some .boolean)) (hw : wb_X6_within_0 u0 x0 x1 x2 post) : pa_At p l e (pa_rm 2) s m args below meth c (MQ below (pa_Qc g D q (fun r => some (.int r)) (fun r u => u = u0 ∧ post r) A) args s 0 0 A) A D g 3 0 0 q u0 0 [(0, .int x0), (1, .int x1), (2, .int x2)] [] := by
  refine pa_iload_n hE dX6_within_0 rfl 0 rfl ?_
  refine pa_iload_n hE dX6_within_1 rfl 1 rfl ?_
  refine pa_icmp_lt hE dX6_within_2 (tgt := 14) (by decide) (fun h1 => ?_) (fun h1 => ?_)
  · have hw := Eq.mp (if_pos h1) hw
    refine pa_iconst hE dX6_within_14 (v := 0) (by decide) ?_
    exact pa_zret hE hr (by decide) ⟨rfl, hw⟩ rfl dX6_within_15
  · have hw := Eq.mp (if_neg h1) hw
    refine pa_iload_n hE dX6_within_5 rfl 0 rfl ?_
    refine pa_iload_n hE dX6_within_6 rfl 2 rfl ?_
    refine pa_icmp_gt hE dX6_within_7 (tgt := 14) (by decide) (fun h2 => ?_) (fun h2 => ?_)
    · have hw := Eq.mp (if_pos h2) hw
      refine pa_iconst hE dX6_within_14 (v := 0) (by decide) ?_
      exact pa_zret hE hr (by decide) ⟨rfl, hw⟩ rfl dX6_within_15
    · have hw := Eq.mp (if_neg h2) hw
      refine pa_iconst hE dX6_within_10 (v := 1) (by decide) ?_
      refine pa_goto hE dX6_within_11 (tgt := 15) (by decide) ?_
      exact pa_zret hE hr (by decide) ⟨rfl, hw⟩ rfl dX6_within_15
def wp_X6_within (u0 : pa_S) (x0 : Int32) (x1 : Int32) (x2 : Int32) (post : Int32 → Prop) : Prop := wb_X6_within_0 u0 x0 x1 x2 post
theorem ct_X6_within (l : Launch) (g : pa_G) (D : va_G) (q : Nat → Nat → Nat) (u0 : pa_S) (x0 : Int32) (x1 : Int32) (x2 : Int32) (post : Int32 → Prop)  (hw : wp_X6_within u0 x0 x1 x2 post) : pa_Ct l yX6_within cX6_within 3 (some .boolean) 2 g D q u0 [.int x0, .int x1, .int x2] (fun r => some (.int r)) (fun r u => u = u0 ∧ post r) := pa_met rfl rfl (Nat.le_of_ble_eq_true rfl) rfl (fun p e s m args below meth c A hE hr => tb_X6_within_0 hE hr  hw)
def wb_X6_hand_0 (u0 : pa_S) (x1 : Int32) (x2 : Int32) (x3 : Int32) (post : Int32 → pa_S → Prop) : Prop :=
  (wp_X6_within u0 x1 0 6 (fun (r1 : Int32) => (if r1 = 0 then post (-1 : Int32) u0 else (wp_X6_within u0 x2 0 9 (fun (r3 : Int32) => (if r3 = 0 then post (-2 : Int32) u0 else (wp_X6_within u0 x3 0 60 (fun (r5 : Int32) => (if r5 = 0 then post (-2 : Int32) u0 else (if (pa_I u0 1 0 6) < 5 then (wp_X3_admit u0 0 x1 x2 x3 (fun (r8 : Int32) (u9 : pa_S) => post r8 u9)) else post (-4 : Int32) u0))))))))))
set_option maxRecDepth 100000 in
set_option maxHeartbeats 4000000 in
theorem tb_X6_hand_0 {p : Program} {l : Launch} {e : Env} {s : State} {m : MethodId} {args : Array Value} {below : List Frame} {meth : Method} {c : Code} {A : Nat → Prop} {D : va_G} {g : pa_G} {q : Nat → Nat → Nat} {u0 : pa_S} {x1 : Int32} {x2 : Int32} {x3 : Int32} {post : Int32 → pa_S → Prop} (hE : pa_Fx p s m args meth c A D g 4 cX6_hand RX6) (hr : meth.sig.returnType = (some .int)) (hw : wb_X6_hand_0 u0 x1 x2 x3 post) : pa_At p l e (pa_rm 6) s m args below meth c (MQ below (pa_Qc g D q (fun r => some (.int r)) post A) args s 0 0 A) A D g 4 0 0 q u0 0 [(0, .ref (q 0 0)), (1, .int x1), (2, .int x2), (3, .int x3)] [] := by
  refine pa_iload_n hE dX6_hand_0 rfl 1 rfl ?_
  refine pa_iconst hE dX6_hand_1 (v := 0) (by decide) ?_
  refine pa_bipush hE dX6_hand_2 (v := 6) (by decide) ?_
  refine pa_callSri hE (ct_X6_within l g D q u0 x1 0 6 _ hw) cs_RX6_79 rfl (pa_hR (by omega) (by decide)) rfl (Nat.le_of_ble_eq_true rfl) dX6_hand_4 (fun r1 hw => ?_)
  refine pa_if_ne hE dX6_hand_7 (tgt := 12) (by decide) (fun h2 => ?_) (fun h2 => ?_)
  · have hw := Eq.mp (if_neg h2) hw
    refine pa_iload_n hE dX6_hand_12 rfl 2 rfl ?_
    refine pa_iconst hE dX6_hand_13 (v := 0) (by decide) ?_
    refine pa_bipush hE dX6_hand_14 (v := 9) (by decide) ?_
    refine pa_callSri hE (ct_X6_within l g D q u0 x2 0 9 _ hw) cs_RX6_79 rfl (pa_hR (by omega) (by decide)) rfl (Nat.le_of_ble_eq_true rfl) dX6_hand_16 (fun r3 hw => ?_)
    refine pa_if_eq hE dX6_hand_19 (tgt := 32) (by decide) (fun h4 => ?_) (fun h4 => ?_)
    · have hw := Eq.mp (if_pos h4) hw
      refine pa_bipush hE dX6_hand_32 (v := (-2 : Int32)) (by decide) ?_
      exact pa_iret hE hr hw rfl dX6_hand_34
    · have hw := Eq.mp (if_neg h4) hw
      refine pa_iload_n hE dX6_hand_22 rfl 3 rfl ?_
      refine pa_iconst hE dX6_hand_23 (v := 0) (by decide) ?_
      refine pa_bipush hE dX6_hand_24 (v := 60) (by decide) ?_
      refine pa_callSri hE (ct_X6_within l g D q u0 x3 0 60 _ hw) cs_RX6_79 rfl (pa_hR (by omega) (by decide)) rfl (Nat.le_of_ble_eq_true rfl) dX6_hand_26 (fun r5 hw => ?_)
      refine pa_if_ne hE dX6_hand_29 (tgt := 35) (by decide) (fun h6 => ?_) (fun h6 => ?_)
      · have hw := Eq.mp (if_neg h6) hw
        refine pa_aload_n hE dX6_hand_35 rfl 0 rfl ?_
        refine pg_0_0 hE (pa_m1 196 rfl rfl) dX6_hand_36 ?_
        refine pg_1_6 (pa_in1 (by decide)) hE (pa_m1 148 rfl rfl) dX6_hand_39 ?_
        refine pa_iconst hE dX6_hand_42 (v := 5) (by decide) ?_
        refine pa_icmp_lt hE dX6_hand_43 (tgt := 49) (by decide) (fun h7 => ?_) (fun h7 => ?_)
        · have hw := Eq.mp (if_pos h7) hw
          refine pa_aload_n hE dX6_hand_49 rfl 0 rfl ?_
          refine pg_0_0 hE (pa_m1 196 rfl rfl) dX6_hand_50 ?_
          refine pa_iload_n hE dX6_hand_53 rfl 1 rfl ?_
          refine pa_iload_n hE dX6_hand_54 rfl 2 rfl ?_
          refine pa_iload_n hE dX6_hand_55 rfl 3 rfl ?_
          refine pa_callVi hE (ct_X3_admit l g D q u0 0 x1 x2 x3 _ (by decide) hw) cv_RX6_87 (pa_in1 (by decide)) rfl rfl rfl (pa_hR (by omega) (by decide)) rfl (Nat.le_of_ble_eq_true rfl) dX6_hand_56 (fun r8 u9 hw => ?_)
          exact pa_iret hE hr hw rfl dX6_hand_59
        · have hw := Eq.mp (if_neg h7) hw
          refine pa_bipush hE dX6_hand_46 (v := (-4 : Int32)) (by decide) ?_
          exact pa_iret hE hr hw rfl dX6_hand_48
      · have hw := Eq.mp (if_pos h6) hw
        refine pa_bipush hE dX6_hand_32 (v := (-2 : Int32)) (by decide) ?_
        exact pa_iret hE hr hw rfl dX6_hand_34
  · have hw := Eq.mp (if_pos h2) hw
    refine pa_iconst hE dX6_hand_10 (v := (-1 : Int32)) (by decide) ?_
    exact pa_iret hE hr hw rfl dX6_hand_11
def wp_X6_hand (u0 : pa_S) (x1 : Int32) (x2 : Int32) (x3 : Int32) (post : Int32 → pa_S → Prop) : Prop := wb_X6_hand_0 u0 x1 x2 x3 post
theorem ct_X6_hand (l : Launch) (g : pa_G) (D : va_G) (q : Nat → Nat → Nat) (u0 : pa_S) (x1 : Int32) (x2 : Int32) (x3 : Int32) (post : Int32 → pa_S → Prop)  (hw : wp_X6_hand u0 x1 x2 x3 post) : pa_Ct l yX6_hand cX6_hand 4 (some .int) 6 g D q u0 [.ref (q 0 0), .int x1, .int x2, .int x3] (fun r => some (.int r)) post := pa_met rfl rfl (Nat.le_of_ble_eq_true rfl) rfl (fun p e s m args below meth c A hE hr => tb_X6_hand_0 hE hr  hw)
def wb_X6_ofLine_0 (u0 : pa_S) (x1 : Int32) (x2 : Int32) (x3 : Int32) (post : Int32 → pa_S → Prop) : Prop :=
  (wp_X3_hasLine u0 0 x1 x3 (fun (r1 : Int32) => (if r1 = 0 then post (-1001 : Int32) u0 else (if x2 = 1 then (wp_X3_lengthOf u0 0 x1 x3 (fun (r6 : Int32) => post r6 u0)) else (if x2 = 2 then (wp_X3_graceOf u0 0 x1 x3 (fun (r7 : Int32) (u8 : pa_S) => post r7 u8)) else (if x2 = 3 then (wp_X3_worthOf u0 0 x1 x3 (fun (r9 : Int32) (u10 : pa_S) => post r9 u10)) else post (-1001 : Int32) u0))))))
set_option maxRecDepth 100000 in
set_option maxHeartbeats 4000000 in
theorem tb_X6_ofLine_0 {p : Program} {l : Launch} {e : Env} {s : State} {m : MethodId} {args : Array Value} {below : List Frame} {meth : Method} {c : Code} {A : Nat → Prop} {D : va_G} {g : pa_G} {q : Nat → Nat → Nat} {u0 : pa_S} {x1 : Int32} {x2 : Int32} {x3 : Int32} {post : Int32 → pa_S → Prop} (hE : pa_Fx p s m args meth c A D g 4 cX6_ofLine RX6) (hr : meth.sig.returnType = (some .int)) (hw : wb_X6_ofLine_0 u0 x1 x2 x3 post) : pa_At p l e (pa_rm 7) s m args below meth c (MQ below (pa_Qc g D q (fun r => some (.int r)) post A) args s 0 0 A) A D g 4 0 0 q u0 0 [(0, .ref (q 0 0)), (1, .int x1), (2, .int x2), (3, .int x3)] [] := by
  refine pa_aload_n hE dX6_ofLine_0 rfl 0 rfl ?_
  refine pg_0_0 hE (pa_m1 196 rfl rfl) dX6_ofLine_1 ?_
  refine pa_iload_n hE dX6_ofLine_4 rfl 1 rfl ?_
  refine pa_iload_n hE dX6_ofLine_5 rfl 3 rfl ?_
  refine pa_callVri hE (ct_X3_hasLine l g D q u0 0 x1 x3 _ (by decide) hw) cv_RX6_118 (pa_in1 (by decide)) rfl rfl rfl (pa_hR (by omega) (by decide)) rfl (Nat.le_of_ble_eq_true rfl) dX6_ofLine_6 (fun r1 hw => ?_)
  refine pa_if_ne hE dX6_ofLine_9 (tgt := 16) (by decide) (fun h2 => ?_) (fun h2 => ?_)
  · have hw := Eq.mp (if_neg h2) hw
    refine pa_iload_n hE dX6_ofLine_16 rfl 2 rfl ?_
    by_cases h3 : x2 = 1
    · have hw := Eq.mp (if_pos h3) hw
      refine pa_tswIn hE dX6_ofLine_17 (z := 1) h3 (by decide) (by decide) rfl (tgt := 44) (by decide) ?_
      refine pa_aload_n hE dX6_ofLine_44 rfl 0 rfl ?_
      refine pg_0_0 hE (pa_m1 196 rfl rfl) dX6_ofLine_45 ?_
      refine pa_iload_n hE dX6_ofLine_48 rfl 1 rfl ?_
      refine pa_iload_n hE dX6_ofLine_49 rfl 3 rfl ?_
      refine pa_callVri hE (ct_X3_lengthOf l g D q u0 0 x1 x3 _ (by decide) hw) cv_RX6_122 (pa_in1 (by decide)) rfl rfl rfl (pa_hR (by omega) (by decide)) rfl (Nat.le_of_ble_eq_true rfl) dX6_ofLine_50 (fun r6 hw => ?_)
      exact pa_iret hE hr hw rfl dX6_ofLine_53
    · have hw := Eq.mp (if_neg h3) hw
      by_cases h4 : x2 = 2
      · have hw := Eq.mp (if_pos h4) hw
        refine pa_tswIn hE dX6_ofLine_17 (z := 2) h4 (by decide) (by decide) rfl (tgt := 54) (by decide) ?_
        refine pa_aload_n hE dX6_ofLine_54 rfl 0 rfl ?_
        refine pg_0_0 hE (pa_m1 196 rfl rfl) dX6_ofLine_55 ?_
        refine pa_iload_n hE dX6_ofLine_58 rfl 1 rfl ?_
        refine pa_iload_n hE dX6_ofLine_59 rfl 3 rfl ?_
        refine pa_callVi hE (ct_X3_graceOf l g D q u0 0 x1 x3 _ (by decide) hw) cv_RX6_125 (pa_in1 (by decide)) rfl rfl rfl (pa_hR (by omega) (by decide)) rfl (Nat.le_of_ble_eq_true rfl) dX6_ofLine_60 (fun r7 u8 hw => ?_)
        exact pa_iret hE hr hw rfl dX6_ofLine_63
      · have hw := Eq.mp (if_neg h4) hw
        by_cases h5 : x2 = 3
        · have hw := Eq.mp (if_pos h5) hw
          refine pa_tswIn hE dX6_ofLine_17 (z := 3) h5 (by decide) (by decide) rfl (tgt := 64) (by decide) ?_
          refine pa_aload_n hE dX6_ofLine_64 rfl 0 rfl ?_
          refine pg_0_0 hE (pa_m1 196 rfl rfl) dX6_ofLine_65 ?_
          refine pa_iload_n hE dX6_ofLine_68 rfl 1 rfl ?_
          refine pa_iload_n hE dX6_ofLine_69 rfl 3 rfl ?_
          refine pa_callVi hE (ct_X3_worthOf l g D q u0 0 x1 x3 _ (by decide) hw) cv_RX6_128 (pa_in1 (by decide)) rfl rfl rfl (pa_hR (by omega) (by decide)) rfl (Nat.le_of_ble_eq_true rfl) dX6_ofLine_70 (fun r9 u10 hw => ?_)
          exact pa_iret hE hr hw rfl dX6_ofLine_73
        · have hw := Eq.mp (if_neg h5) hw
          refine pa_tswOut hE dX6_ofLine_17 (by have eh3 := pa_neL h3 (by decide : (1 : Int32).toInt = 1); have eh4 := pa_neL h4 (by decide : (2 : Int32).toInt = 2); have eh5 := pa_neL h5 (by decide : (3 : Int32).toInt = 3); omega) (tgt := 74) (by decide) ?_
          refine pa_sipush hE dX6_ofLine_74 (v := (-1001 : Int32)) (by decide) ?_
          exact pa_iret hE hr hw rfl dX6_ofLine_77
  · have hw := Eq.mp (if_pos h2) hw
    refine pa_sipush hE dX6_ofLine_12 (v := (-1001 : Int32)) (by decide) ?_
    exact pa_iret hE hr hw rfl dX6_ofLine_15
def wp_X6_ofLine (u0 : pa_S) (x1 : Int32) (x2 : Int32) (x3 : Int32) (post : Int32 → pa_S → Prop) : Prop := wb_X6_ofLine_0 u0 x1 x2 x3 post
theorem ct_X6_ofLine (l : Launch) (g : pa_G) (D : va_G) (q : Nat → Nat → Nat) (u0 : pa_S) (x1 : Int32) (x2 : Int32) (x3 : Int32) (post : Int32 → pa_S → Prop)  (hw : wp_X6_ofLine u0 x1 x2 x3 post) : pa_Ct l yX6_ofLine cX6_ofLine 4 (some .int) 7 g D q u0 [.ref (q 0 0), .int x1, .int x2, .int x3] (fun r => some (.int r)) post := pa_met rfl rfl (Nat.le_of_ble_eq_true rfl) rfl (fun p e s m args below meth c A hE hr => tb_X6_ofLine_0 hE hr  hw)
def wb_X6_of_0 (u0 : pa_S) (x1 : Int32) (x2 : Int32) (post : Int32 → pa_S → Prop) : Prop :=
  (wp_X3_has u0 0 x1 (fun (r1 : Int32) => (if r1 = 0 then post (-1001 : Int32) u0 else (if x2 = 0 then (wp_X3_kindOf u0 0 x1 (fun (r8 : Int32) => post r8 u0)) else (if x2 = 1 then (wp_X3_vOf u0 0 x1 (fun (r9 : Int32) => post r9 u0)) else (if x2 = 2 then (wp_X3_shookOf u0 0 x1 (fun (r10 : Int32) => post r10 u0)) else (if x2 = 3 then (wp_X3_fortuneOf u0 0 x1 (fun (r11 : Int32) (u12 : pa_S) => post r11 u12)) else (if x2 = 4 then (wp_X3_fadesOn u0 0 x1 (pa_I u0 1 0 8) (fun (r13 : Int32) => post r13 u0)) else (wp_X6_ofLine u0 x1 (x2 / 10) (pa_rem x2 10) (fun (r14 : Int32) (u15 : pa_S) => post r14 u15))))))))))
set_option maxRecDepth 100000 in
set_option maxHeartbeats 4000000 in
theorem tb_X6_of_0 {p : Program} {l : Launch} {e : Env} {s : State} {m : MethodId} {args : Array Value} {below : List Frame} {meth : Method} {c : Code} {A : Nat → Prop} {D : va_G} {g : pa_G} {q : Nat → Nat → Nat} {u0 : pa_S} {x1 : Int32} {x2 : Int32} {post : Int32 → pa_S → Prop} (hE : pa_Fx p s m args meth c A D g 3 cX6_of RX6) (hr : meth.sig.returnType = (some .int)) (hw : wb_X6_of_0 u0 x1 x2 post) : pa_At p l e (pa_rm 8) s m args below meth c (MQ below (pa_Qc g D q (fun r => some (.int r)) post A) args s 0 0 A) A D g 3 0 0 q u0 0 [(0, .ref (q 0 0)), (1, .int x1), (2, .int x2)] [] := by
  refine pa_aload_n hE dX6_of_0 rfl 0 rfl ?_
  refine pg_0_0 hE (pa_m1 196 rfl rfl) dX6_of_1 ?_
  refine pa_iload_n hE dX6_of_4 rfl 1 rfl ?_
  refine pa_callVri hE (ct_X3_has l g D q u0 0 x1 _ (by decide) hw) cv_RX6_91 (pa_in1 (by decide)) rfl rfl rfl (pa_hR (by omega) (by decide)) rfl (Nat.le_of_ble_eq_true rfl) dX6_of_5 (fun r1 hw => ?_)
  refine pa_if_ne hE dX6_of_8 (tgt := 15) (by decide) (fun h2 => ?_) (fun h2 => ?_)
  · have hw := Eq.mp (if_neg h2) hw
    refine pa_iload_n hE dX6_of_15 rfl 2 rfl ?_
    by_cases h3 : x2 = 0
    · have hw := Eq.mp (if_pos h3) hw
      refine pa_tswIn hE dX6_of_16 (z := 0) h3 (by decide) (by decide) rfl (tgt := 52) (by decide) ?_
      refine pa_aload_n hE dX6_of_52 rfl 0 rfl ?_
      refine pg_0_0 hE (pa_m1 196 rfl rfl) dX6_of_53 ?_
      refine pa_iload_n hE dX6_of_56 rfl 1 rfl ?_
      refine pa_callVri hE (ct_X3_kindOf l g D q u0 0 x1 _ (by decide) hw) cv_RX6_95 (pa_in1 (by decide)) rfl rfl rfl (pa_hR (by omega) (by decide)) rfl (Nat.le_of_ble_eq_true rfl) dX6_of_57 (fun r8 hw => ?_)
      exact pa_iret hE hr hw rfl dX6_of_60
    · have hw := Eq.mp (if_neg h3) hw
      by_cases h4 : x2 = 1
      · have hw := Eq.mp (if_pos h4) hw
        refine pa_tswIn hE dX6_of_16 (z := 1) h4 (by decide) (by decide) rfl (tgt := 61) (by decide) ?_
        refine pa_aload_n hE dX6_of_61 rfl 0 rfl ?_
        refine pg_0_0 hE (pa_m1 196 rfl rfl) dX6_of_62 ?_
        refine pa_iload_n hE dX6_of_65 rfl 1 rfl ?_
        refine pa_callVri hE (ct_X3_vOf l g D q u0 0 x1 _ (by decide) hw) cv_RX6_99 (pa_in1 (by decide)) rfl rfl rfl (pa_hR (by omega) (by decide)) rfl (Nat.le_of_ble_eq_true rfl) dX6_of_66 (fun r9 hw => ?_)
        exact pa_iret hE hr hw rfl dX6_of_69
      · have hw := Eq.mp (if_neg h4) hw
        by_cases h5 : x2 = 2
        · have hw := Eq.mp (if_pos h5) hw
          refine pa_tswIn hE dX6_of_16 (z := 2) h5 (by decide) (by decide) rfl (tgt := 70) (by decide) ?_
          refine pa_aload_n hE dX6_of_70 rfl 0 rfl ?_
          refine pg_0_0 hE (pa_m1 196 rfl rfl) dX6_of_71 ?_
          refine pa_iload_n hE dX6_of_74 rfl 1 rfl ?_
          refine pa_callVri hE (ct_X3_shookOf l g D q u0 0 x1 _ (by decide) hw) cv_RX6_102 (pa_in1 (by decide)) rfl rfl rfl (pa_hR (by omega) (by decide)) rfl (Nat.le_of_ble_eq_true rfl) dX6_of_75 (fun r10 hw => ?_)
          exact pa_iret hE hr hw rfl dX6_of_78
        · have hw := Eq.mp (if_neg h5) hw
          by_cases h6 : x2 = 3
          · have hw := Eq.mp (if_pos h6) hw
            refine pa_tswIn hE dX6_of_16 (z := 3) h6 (by decide) (by decide) rfl (tgt := 79) (by decide) ?_
            refine pa_aload_n hE dX6_of_79 rfl 0 rfl ?_
            refine pg_0_0 hE (pa_m1 196 rfl rfl) dX6_of_80 ?_
            refine pa_iload_n hE dX6_of_83 rfl 1 rfl ?_
            refine pa_callVi hE (ct_X3_fortuneOf l g D q u0 0 x1 _ (by decide) hw) cv_RX6_105 (pa_in1 (by decide)) rfl rfl rfl (pa_hR (by omega) (by decide)) rfl (Nat.le_of_ble_eq_true rfl) dX6_of_84 (fun r11 u12 hw => ?_)
            exact pa_iret hE hr hw rfl dX6_of_87
          · have hw := Eq.mp (if_neg h6) hw
            by_cases h7 : x2 = 4
            · have hw := Eq.mp (if_pos h7) hw
              refine pa_tswIn hE dX6_of_16 (z := 4) h7 (by decide) (by decide) rfl (tgt := 88) (by decide) ?_
              refine pa_aload_n hE dX6_of_88 rfl 0 rfl ?_
              refine pg_0_0 hE (pa_m1 196 rfl rfl) dX6_of_89 ?_
              refine pa_iload_n hE dX6_of_92 rfl 1 rfl ?_
              refine pa_aload_n hE dX6_of_93 rfl 0 rfl ?_
              refine pg_0_0 hE (pa_m1 196 rfl rfl) dX6_of_94 ?_
              refine pg_1_8 (pa_in1 (by decide)) hE (pa_m1 153 rfl rfl) dX6_of_97 ?_
              refine pa_callVri hE (ct_X3_fadesOn l g D q u0 0 x1 (pa_I u0 1 0 8) _ (by decide) hw) cv_RX6_111 (pa_in1 (by decide)) rfl rfl rfl (pa_hR (by omega) (by decide)) rfl (Nat.le_of_ble_eq_true rfl) dX6_of_100 (fun r13 hw => ?_)
              exact pa_iret hE hr hw rfl dX6_of_103
            · have hw := Eq.mp (if_neg h7) hw
              refine pa_tswOut hE dX6_of_16 (by have eh3 := pa_neL h3 (by decide : (0 : Int32).toInt = 0); have eh4 := pa_neL h4 (by decide : (1 : Int32).toInt = 1); have eh5 := pa_neL h5 (by decide : (2 : Int32).toInt = 2); have eh6 := pa_neL h6 (by decide : (3 : Int32).toInt = 3); have eh7 := pa_neL h7 (by decide : (4 : Int32).toInt = 4); omega) (tgt := 104) (by decide) ?_
              refine pa_aload_n hE dX6_of_104 rfl 0 rfl ?_
              refine pa_iload_n hE dX6_of_105 rfl 1 rfl ?_
              refine pa_iload_n hE dX6_of_106 rfl 2 rfl ?_
              refine pa_bipush hE dX6_of_107 (v := 10) (by decide) ?_
              refine pa_idiv hE dX6_of_109 (by decide) ?_
              refine pa_iload_n hE dX6_of_110 rfl 2 rfl ?_
              refine pa_bipush hE dX6_of_111 (v := 10) (by decide) ?_
              refine pa_irem hE dX6_of_113 (by decide) ?_
              refine pa_callVi hE (ct_X6_ofLine l g D q u0 x1 (x2 / 10) (pa_rem x2 10) _ hw) cv_RX6_115 pa_in0 rfl rfl rfl (pa_hR (by omega) (by decide)) rfl (Nat.le_of_ble_eq_true rfl) dX6_of_114 (fun r14 u15 hw => ?_)
              exact pa_iret hE hr hw rfl dX6_of_117
  · have hw := Eq.mp (if_pos h2) hw
    refine pa_sipush hE dX6_of_11 (v := (-1001 : Int32)) (by decide) ?_
    exact pa_iret hE hr hw rfl dX6_of_14
def wp_X6_of (u0 : pa_S) (x1 : Int32) (x2 : Int32) (post : Int32 → pa_S → Prop) : Prop := wb_X6_of_0 u0 x1 x2 post
theorem ct_X6_of (l : Launch) (g : pa_G) (D : va_G) (q : Nat → Nat → Nat) (u0 : pa_S) (x1 : Int32) (x2 : Int32) (post : Int32 → pa_S → Prop)  (hw : wp_X6_of u0 x1 x2 post) : pa_Ct l yX6_of cX6_of 3 (some .int) 8 g D q u0 [.ref (q 0 0), .int x1, .int x2] (fun r => some (.int r)) post := pa_met rfl rfl (Nat.le_of_ble_eq_true rfl) rfl (fun p e s m args below meth c A hE hr => tb_X6_of_0 hE hr  hw)
def wb_X6_set_0 (u0 : pa_S) (x1 : Int32) (x2 : Int32) (x3 : Int32) (post : Int32 → pa_S → Prop) : Prop :=
  (wp_X3_hasLine u0 0 x1 x2 (fun (r1 : Int32) => (if r1 = 0 then post (-1 : Int32) u0 else (wp_X6_within u0 x3 0 60 (fun (r3 : Int32) => (if r3 = 0 then post (-2 : Int32) u0 else (wp_X3_lengthOf u0 0 x1 x2 (fun (r5 : Int32) => (wp_X3_putLength u0 0 x1 x2 x3 (fun (u7 : pa_S) => post r5 u7))))))))))
set_option maxRecDepth 100000 in
set_option maxHeartbeats 4000000 in
theorem tb_X6_set_0 {p : Program} {l : Launch} {e : Env} {s : State} {m : MethodId} {args : Array Value} {below : List Frame} {meth : Method} {c : Code} {A : Nat → Prop} {D : va_G} {g : pa_G} {q : Nat → Nat → Nat} {u0 : pa_S} {x1 : Int32} {x2 : Int32} {x3 : Int32} {post : Int32 → pa_S → Prop} (hE : pa_Fx p s m args meth c A D g 5 cX6_set RX6) (hr : meth.sig.returnType = (some .int)) (hw : wb_X6_set_0 u0 x1 x2 x3 post) : pa_At p l e (pa_rm 5) s m args below meth c (MQ below (pa_Qc g D q (fun r => some (.int r)) post A) args s 0 0 A) A D g 5 0 0 q u0 0 [(0, .ref (q 0 0)), (1, .int x1), (2, .int x2), (3, .int x3)] [] := by
  refine pa_aload_n hE dX6_set_0 rfl 0 rfl ?_
  refine pg_0_0 hE (pa_m1 196 rfl rfl) dX6_set_1 ?_
  refine pa_iload_n hE dX6_set_4 rfl 1 rfl ?_
  refine pa_iload_n hE dX6_set_5 rfl 2 rfl ?_
  refine pa_callVri hE (ct_X3_hasLine l g D q u0 0 x1 x2 _ (by decide) hw) cv_RX6_118 (pa_in1 (by decide)) rfl rfl rfl (pa_hR (by omega) (by decide)) rfl (Nat.le_of_ble_eq_true rfl) dX6_set_6 (fun r1 hw => ?_)
  refine pa_if_ne hE dX6_set_9 (tgt := 14) (by decide) (fun h2 => ?_) (fun h2 => ?_)
  · have hw := Eq.mp (if_neg h2) hw
    refine pa_iload_n hE dX6_set_14 rfl 3 rfl ?_
    refine pa_iconst hE dX6_set_15 (v := 0) (by decide) ?_
    refine pa_bipush hE dX6_set_16 (v := 60) (by decide) ?_
    refine pa_callSri hE (ct_X6_within l g D q u0 x3 0 60 _ hw) cs_RX6_79 rfl (pa_hR (by omega) (by decide)) rfl (Nat.le_of_ble_eq_true rfl) dX6_set_18 (fun r3 hw => ?_)
    refine pa_if_ne hE dX6_set_21 (tgt := 27) (by decide) (fun h4 => ?_) (fun h4 => ?_)
    · have hw := Eq.mp (if_neg h4) hw
      refine pa_aload_n hE dX6_set_27 rfl 0 rfl ?_
      refine pg_0_0 hE (pa_m1 196 rfl rfl) dX6_set_28 ?_
      refine pa_iload_n hE dX6_set_31 rfl 1 rfl ?_
      refine pa_iload_n hE dX6_set_32 rfl 2 rfl ?_
      refine pa_callVri hE (ct_X3_lengthOf l g D q u0 0 x1 x2 _ (by decide) hw) cv_RX6_122 (pa_in1 (by decide)) rfl rfl rfl (pa_hR (by omega) (by decide)) rfl (Nat.le_of_ble_eq_true rfl) dX6_set_33 (fun r5 hw => ?_)
      refine pa_istore hE dX6_set_36 (by decide) (lvr := [(0, .ref (q 0 0)), (1, .int x1), (2, .int x2), (3, .int x3)]) rfl ?_
      refine pa_aload_n hE dX6_set_38 rfl 1 rfl ?_
      refine pg_0_0 hE (pa_m1 196 rfl rfl) dX6_set_39 ?_
      refine pa_iload_n hE dX6_set_42 rfl 2 rfl ?_
      refine pa_iload_n hE dX6_set_43 rfl 3 rfl ?_
      refine pa_iload_n hE dX6_set_44 rfl 4 rfl ?_
      refine pa_callVv hE (ct_X3_putLength l g D q u0 0 x1 x2 x3 _ (by decide) hw) cv_RX6_131 (pa_in1 (by decide)) rfl rfl rfl (pa_hR (by omega) (by decide)) rfl (Nat.le_of_ble_eq_true rfl) dX6_set_45 (fun u7 hw => ?_)
      refine pa_iload hE dX6_set_48 0 rfl ?_
      exact pa_iret hE hr hw rfl dX6_set_50
    · have hw := Eq.mp (if_pos h4) hw
      refine pa_bipush hE dX6_set_24 (v := (-2 : Int32)) (by decide) ?_
      exact pa_iret hE hr hw rfl dX6_set_26
  · have hw := Eq.mp (if_pos h2) hw
    refine pa_iconst hE dX6_set_12 (v := (-1 : Int32)) (by decide) ?_
    exact pa_iret hE hr hw rfl dX6_set_13
def wp_X6_set (u0 : pa_S) (x1 : Int32) (x2 : Int32) (x3 : Int32) (post : Int32 → pa_S → Prop) : Prop := wb_X6_set_0 u0 x1 x2 x3 post
theorem ct_X6_set (l : Launch) (g : pa_G) (D : va_G) (q : Nat → Nat → Nat) (u0 : pa_S) (x1 : Int32) (x2 : Int32) (x3 : Int32) (post : Int32 → pa_S → Prop)  (hw : wp_X6_set u0 x1 x2 x3 post) : pa_Ct l yX6_set cX6_set 5 (some .int) 5 g D q u0 [.ref (q 0 0), .int x1, .int x2, .int x3] (fun r => some (.int r)) post := pa_met rfl rfl (Nat.le_of_ble_eq_true rfl) rfl (fun p e s m args below meth c A hE hr => tb_X6_set_0 hE hr  hw)
def wb_X6_row_0 (u0 : pa_S) (x1 : Int32) (x2 : Int32) (x3 : Int32) (post : Int32 → pa_S → Prop) : Prop :=
  (wp_X3_has u0 0 x1 (fun (r1 : Int32) => (if r1 = 0 then post (-1 : Int32) u0 else (wp_X6_within u0 x2 0 3 (fun (r3 : Int32) => (if r3 = 0 then post (-1 : Int32) u0 else (wp_X6_within u0 x3 0 9 (fun (r5 : Int32) => (if r5 = 0 then post (-2 : Int32) u0 else (wp_X3_kindOf u0 0 x1 (fun (r7 : Int32) => (if r7 = 6 then (wp_X3_partOf u0 0 x1 x2 (fun (r9 : Int32) => (wp_X3_putPart u0 0 x1 x2 x3 (fun (u11 : pa_S) => post r9 u11)))) else post (-3 : Int32) u0))))))))))))
set_option maxRecDepth 100000 in
set_option maxHeartbeats 4000000 in
theorem tb_X6_row_0 {p : Program} {l : Launch} {e : Env} {s : State} {m : MethodId} {args : Array Value} {below : List Frame} {meth : Method} {c : Code} {A : Nat → Prop} {D : va_G} {g : pa_G} {q : Nat → Nat → Nat} {u0 : pa_S} {x1 : Int32} {x2 : Int32} {x3 : Int32} {post : Int32 → pa_S → Prop} (hE : pa_Fx p s m args meth c A D g 5 cX6_row RX6) (hr : meth.sig.returnType = (some .int)) (hw : wb_X6_row_0 u0 x1 x2 x3 post) : pa_At p l e (pa_rm 5) s m args below meth c (MQ below (pa_Qc g D q (fun r => some (.int r)) post A) args s 0 0 A) A D g 5 0 0 q u0 0 [(0, .ref (q 0 0)), (1, .int x1), (2, .int x2), (3, .int x3)] [] := by
  refine pa_aload_n hE dX6_row_0 rfl 0 rfl ?_
  refine pg_0_0 hE (pa_m1 196 rfl rfl) dX6_row_1 ?_
  refine pa_iload_n hE dX6_row_4 rfl 1 rfl ?_
  refine pa_callVri hE (ct_X3_has l g D q u0 0 x1 _ (by decide) hw) cv_RX6_91 (pa_in1 (by decide)) rfl rfl rfl (pa_hR (by omega) (by decide)) rfl (Nat.le_of_ble_eq_true rfl) dX6_row_5 (fun r1 hw => ?_)
  refine pa_if_eq hE dX6_row_8 (tgt := 20) (by decide) (fun h2 => ?_) (fun h2 => ?_)
  · have hw := Eq.mp (if_pos h2) hw
    refine pa_iconst hE dX6_row_20 (v := (-1 : Int32)) (by decide) ?_
    exact pa_iret hE hr hw rfl dX6_row_21
  · have hw := Eq.mp (if_neg h2) hw
    refine pa_iload_n hE dX6_row_11 rfl 2 rfl ?_
    refine pa_iconst hE dX6_row_12 (v := 0) (by decide) ?_
    refine pa_iconst hE dX6_row_13 (v := 3) (by decide) ?_
    refine pa_callSri hE (ct_X6_within l g D q u0 x2 0 3 _ hw) cs_RX6_79 rfl (pa_hR (by omega) (by decide)) rfl (Nat.le_of_ble_eq_true rfl) dX6_row_14 (fun r3 hw => ?_)
    refine pa_if_ne hE dX6_row_17 (tgt := 22) (by decide) (fun h4 => ?_) (fun h4 => ?_)
    · have hw := Eq.mp (if_neg h4) hw
      refine pa_iload_n hE dX6_row_22 rfl 3 rfl ?_
      refine pa_iconst hE dX6_row_23 (v := 0) (by decide) ?_
      refine pa_bipush hE dX6_row_24 (v := 9) (by decide) ?_
      refine pa_callSri hE (ct_X6_within l g D q u0 x3 0 9 _ hw) cs_RX6_79 rfl (pa_hR (by omega) (by decide)) rfl (Nat.le_of_ble_eq_true rfl) dX6_row_26 (fun r5 hw => ?_)
      refine pa_if_ne hE dX6_row_29 (tgt := 35) (by decide) (fun h6 => ?_) (fun h6 => ?_)
      · have hw := Eq.mp (if_neg h6) hw
        refine pa_aload_n hE dX6_row_35 rfl 0 rfl ?_
        refine pg_0_0 hE (pa_m1 196 rfl rfl) dX6_row_36 ?_
        refine pa_iload_n hE dX6_row_39 rfl 1 rfl ?_
        refine pa_callVri hE (ct_X3_kindOf l g D q u0 0 x1 _ (by decide) hw) cv_RX6_95 (pa_in1 (by decide)) rfl rfl rfl (pa_hR (by omega) (by decide)) rfl (Nat.le_of_ble_eq_true rfl) dX6_row_40 (fun r7 hw => ?_)
        refine pa_bipush hE dX6_row_43 (v := 6) (by decide) ?_
        refine pa_icmp_eq hE dX6_row_45 (tgt := 51) (by decide) (fun h8 => ?_) (fun h8 => ?_)
        · have hw := Eq.mp (if_pos h8) hw
          refine pa_aload_n hE dX6_row_51 rfl 0 rfl ?_
          refine pg_0_0 hE (pa_m1 196 rfl rfl) dX6_row_52 ?_
          refine pa_iload_n hE dX6_row_55 rfl 1 rfl ?_
          refine pa_iload_n hE dX6_row_56 rfl 2 rfl ?_
          refine pa_callVri hE (ct_X3_partOf l g D q u0 0 x1 x2 _ (by decide) hw) cv_RX6_135 (pa_in1 (by decide)) rfl rfl rfl (pa_hR (by omega) (by decide)) rfl (Nat.le_of_ble_eq_true rfl) dX6_row_57 (fun r9 hw => ?_)
          refine pa_istore hE dX6_row_60 (by decide) (lvr := [(0, .ref (q 0 0)), (1, .int x1), (2, .int x2), (3, .int x3)]) rfl ?_
          refine pa_aload_n hE dX6_row_62 rfl 1 rfl ?_
          refine pg_0_0 hE (pa_m1 196 rfl rfl) dX6_row_63 ?_
          refine pa_iload_n hE dX6_row_66 rfl 2 rfl ?_
          refine pa_iload_n hE dX6_row_67 rfl 3 rfl ?_
          refine pa_iload_n hE dX6_row_68 rfl 4 rfl ?_
          refine pa_callVv hE (ct_X3_putPart l g D q u0 0 x1 x2 x3 _ (by decide) hw) cv_RX6_138 (pa_in1 (by decide)) rfl rfl rfl (pa_hR (by omega) (by decide)) rfl (Nat.le_of_ble_eq_true rfl) dX6_row_69 (fun u11 hw => ?_)
          refine pa_iload hE dX6_row_72 0 rfl ?_
          exact pa_iret hE hr hw rfl dX6_row_74
        · have hw := Eq.mp (if_neg h8) hw
          refine pa_bipush hE dX6_row_48 (v := (-3 : Int32)) (by decide) ?_
          exact pa_iret hE hr hw rfl dX6_row_50
      · have hw := Eq.mp (if_pos h6) hw
        refine pa_bipush hE dX6_row_32 (v := (-2 : Int32)) (by decide) ?_
        exact pa_iret hE hr hw rfl dX6_row_34
    · have hw := Eq.mp (if_pos h4) hw
      refine pa_iconst hE dX6_row_20 (v := (-1 : Int32)) (by decide) ?_
      exact pa_iret hE hr hw rfl dX6_row_21
def wp_X6_row (u0 : pa_S) (x1 : Int32) (x2 : Int32) (x3 : Int32) (post : Int32 → pa_S → Prop) : Prop := wb_X6_row_0 u0 x1 x2 x3 post
theorem ct_X6_row (l : Launch) (g : pa_G) (D : va_G) (q : Nat → Nat → Nat) (u0 : pa_S) (x1 : Int32) (x2 : Int32) (x3 : Int32) (post : Int32 → pa_S → Prop)  (hw : wp_X6_row u0 x1 x2 x3 post) : pa_Ct l yX6_row cX6_row 5 (some .int) 5 g D q u0 [.ref (q 0 0), .int x1, .int x2, .int x3] (fun r => some (.int r)) post := pa_met rfl rfl (Nat.le_of_ble_eq_true rfl) rfl (fun p e s m args below meth c A hE hr => tb_X6_row_0 hE hr  hw)
def wb_X6_ink_0 (u0 : pa_S) (x1 : Int32) (post : Int32 → pa_S → Prop) : Prop :=
  (wp_X6_within u0 x1 0 999 (fun (r1 : Int32) => (if r1 = 0 then post (-2 : Int32) u0 else ∀ v3 : Int32, v3 = (pa_I u0 1 0 7) → ∀ u4 : pa_S, u4 = pa_sI u0 1 0 7 x1 → post v3 u4)))
set_option maxRecDepth 100000 in
set_option maxHeartbeats 4000000 in
theorem tb_X6_ink_0 {p : Program} {l : Launch} {e : Env} {s : State} {m : MethodId} {args : Array Value} {below : List Frame} {meth : Method} {c : Code} {A : Nat → Prop} {D : va_G} {g : pa_G} {q : Nat → Nat → Nat} {u0 : pa_S} {x1 : Int32} {post : Int32 → pa_S → Prop} (hE : pa_Fx p s m args meth c A D g 3 cX6_ink RX6) (hr : meth.sig.returnType = (some .int)) (hw : wb_X6_ink_0 u0 x1 post) : pa_At p l e (pa_rm 3) s m args below meth c (MQ below (pa_Qc g D q (fun r => some (.int r)) post A) args s 0 0 A) A D g 3 0 0 q u0 0 [(0, .ref (q 0 0)), (1, .int x1)] [] := by
  refine pa_iload_n hE dX6_ink_0 rfl 1 rfl ?_
  refine pa_iconst hE dX6_ink_1 (v := 0) (by decide) ?_
  refine pa_sipush hE dX6_ink_2 (v := 999) (by decide) ?_
  refine pa_callSri hE (ct_X6_within l g D q u0 x1 0 999 _ hw) cs_RX6_79 rfl (pa_hR (by omega) (by decide)) rfl (Nat.le_of_ble_eq_true rfl) dX6_ink_5 (fun r1 hw => ?_)
  refine pa_if_ne hE dX6_ink_8 (tgt := 14) (by decide) (fun h2 => ?_) (fun h2 => ?_)
  · have hw := Eq.mp (if_neg h2) hw
    refine pa_aload_n hE dX6_ink_14 rfl 0 rfl ?_
    refine pg_0_0 hE (pa_m1 196 rfl rfl) dX6_ink_15 ?_
    refine pg_1_7 (pa_in1 (by decide)) hE (pa_m1 151 rfl rfl) dX6_ink_18 ?_
    refine pa_namei (fun v3 ev3 => ?_)
    have hw := hw v3 ev3
    refine pa_istore_n hE dX6_ink_21 rfl (by decide) (lvr := [(0, .ref (q 0 0)), (1, .int x1)]) rfl ?_
    refine pa_aload_n hE dX6_ink_22 rfl 1 rfl ?_
    refine pg_0_0 hE (pa_m1 196 rfl rfl) dX6_ink_23 ?_
    refine pa_iload_n hE dX6_ink_26 rfl 2 rfl ?_
    refine pp_1_7 (pa_in1 (by decide)) hE (pa_m1 151 rfl rfl) dX6_ink_27 (fun u4 eu4 => ?_)
    have hw := hw u4 eu4
    refine pa_iload_n hE dX6_ink_30 rfl 0 rfl ?_
    exact pa_iret hE hr hw rfl dX6_ink_31
  · have hw := Eq.mp (if_pos h2) hw
    refine pa_bipush hE dX6_ink_11 (v := (-2 : Int32)) (by decide) ?_
    exact pa_iret hE hr hw rfl dX6_ink_13
def wp_X6_ink (u0 : pa_S) (x1 : Int32) (post : Int32 → pa_S → Prop) : Prop := wb_X6_ink_0 u0 x1 post
theorem ct_X6_ink (l : Launch) (g : pa_G) (D : va_G) (q : Nat → Nat → Nat) (u0 : pa_S) (x1 : Int32) (post : Int32 → pa_S → Prop)  (hw : wp_X6_ink u0 x1 post) : pa_Ct l yX6_ink cX6_ink 3 (some .int) 3 g D q u0 [.ref (q 0 0), .int x1] (fun r => some (.int r)) post := pa_met rfl rfl (Nat.le_of_ble_eq_true rfl) rfl (fun p e s m args below meth c A hE hr => tb_X6_ink_0 hE hr  hw)
def wb_X6_draw_0 (u0 : pa_S) (x1 : Int32) (x2 : Int32) (x3 : Int32) (post : Int32 → pa_S → Prop) : Prop :=
  (wp_X3_hasLine u0 0 x1 x2 (fun (r1 : Int32) => (if r1 = 0 then post (-1 : Int32) u0 else (wp_X6_within u0 x3 0 60 (fun (r3 : Int32) => (if r3 = 0 then post (-2 : Int32) u0 else (wp_X3_drawOn u0 0 x1 x2 x3 (fun (r5 : Int32) (u6 : pa_S) => post r5 u6))))))))
set_option maxRecDepth 100000 in
set_option maxHeartbeats 4000000 in
theorem tb_X6_draw_0 {p : Program} {l : Launch} {e : Env} {s : State} {m : MethodId} {args : Array Value} {below : List Frame} {meth : Method} {c : Code} {A : Nat → Prop} {D : va_G} {g : pa_G} {q : Nat → Nat → Nat} {u0 : pa_S} {x1 : Int32} {x2 : Int32} {x3 : Int32} {post : Int32 → pa_S → Prop} (hE : pa_Fx p s m args meth c A D g 4 cX6_draw RX6) (hr : meth.sig.returnType = (some .int)) (hw : wb_X6_draw_0 u0 x1 x2 x3 post) : pa_At p l e (pa_rm 6) s m args below meth c (MQ below (pa_Qc g D q (fun r => some (.int r)) post A) args s 0 0 A) A D g 4 0 0 q u0 0 [(0, .ref (q 0 0)), (1, .int x1), (2, .int x2), (3, .int x3)] [] := by
  refine pa_aload_n hE dX6_draw_0 rfl 0 rfl ?_
  refine pg_0_0 hE (pa_m1 196 rfl rfl) dX6_draw_1 ?_
  refine pa_iload_n hE dX6_draw_4 rfl 1 rfl ?_
  refine pa_iload_n hE dX6_draw_5 rfl 2 rfl ?_
  refine pa_callVri hE (ct_X3_hasLine l g D q u0 0 x1 x2 _ (by decide) hw) cv_RX6_118 (pa_in1 (by decide)) rfl rfl rfl (pa_hR (by omega) (by decide)) rfl (Nat.le_of_ble_eq_true rfl) dX6_draw_6 (fun r1 hw => ?_)
  refine pa_if_ne hE dX6_draw_9 (tgt := 14) (by decide) (fun h2 => ?_) (fun h2 => ?_)
  · have hw := Eq.mp (if_neg h2) hw
    refine pa_iload_n hE dX6_draw_14 rfl 3 rfl ?_
    refine pa_iconst hE dX6_draw_15 (v := 0) (by decide) ?_
    refine pa_bipush hE dX6_draw_16 (v := 60) (by decide) ?_
    refine pa_callSri hE (ct_X6_within l g D q u0 x3 0 60 _ hw) cs_RX6_79 rfl (pa_hR (by omega) (by decide)) rfl (Nat.le_of_ble_eq_true rfl) dX6_draw_18 (fun r3 hw => ?_)
    refine pa_if_ne hE dX6_draw_21 (tgt := 27) (by decide) (fun h4 => ?_) (fun h4 => ?_)
    · have hw := Eq.mp (if_neg h4) hw
      refine pa_aload_n hE dX6_draw_27 rfl 0 rfl ?_
      refine pg_0_0 hE (pa_m1 196 rfl rfl) dX6_draw_28 ?_
      refine pa_iload_n hE dX6_draw_31 rfl 1 rfl ?_
      refine pa_iload_n hE dX6_draw_32 rfl 2 rfl ?_
      refine pa_iload_n hE dX6_draw_33 rfl 3 rfl ?_
      refine pa_callVi hE (ct_X3_drawOn l g D q u0 0 x1 x2 x3 _ (by decide) hw) cv_RX6_144 (pa_in1 (by decide)) rfl rfl rfl (pa_hR (by omega) (by decide)) rfl (Nat.le_of_ble_eq_true rfl) dX6_draw_34 (fun r5 u6 hw => ?_)
      exact pa_iret hE hr hw rfl dX6_draw_37
    · have hw := Eq.mp (if_pos h4) hw
      refine pa_bipush hE dX6_draw_24 (v := (-2 : Int32)) (by decide) ?_
      exact pa_iret hE hr hw rfl dX6_draw_26
  · have hw := Eq.mp (if_pos h2) hw
    refine pa_iconst hE dX6_draw_12 (v := (-1 : Int32)) (by decide) ?_
    exact pa_iret hE hr hw rfl dX6_draw_13
def wp_X6_draw (u0 : pa_S) (x1 : Int32) (x2 : Int32) (x3 : Int32) (post : Int32 → pa_S → Prop) : Prop := wb_X6_draw_0 u0 x1 x2 x3 post
theorem ct_X6_draw (l : Launch) (g : pa_G) (D : va_G) (q : Nat → Nat → Nat) (u0 : pa_S) (x1 : Int32) (x2 : Int32) (x3 : Int32) (post : Int32 → pa_S → Prop)  (hw : wp_X6_draw u0 x1 x2 x3 post) : pa_Ct l yX6_draw cX6_draw 4 (some .int) 6 g D q u0 [.ref (q 0 0), .int x1, .int x2, .int x3] (fun r => some (.int r)) post := pa_met rfl rfl (Nat.le_of_ble_eq_true rfl) rfl (fun p e s m args below meth c A hE hr => tb_X6_draw_0 hE hr  hw)
def wb_X6_shake_0 (u0 : pa_S) (x1 : Int32) (x2 : Int32) (post : Int32 → pa_S → Prop) : Prop :=
  (wp_X3_has u0 0 x1 (fun (r1 : Int32) => (if r1 = 0 then post (-1 : Int32) u0 else (wp_X3_has u0 0 x2 (fun (r3 : Int32) => (if r3 = 0 then post (-1 : Int32) u0 else (if x1 = x2 then post (-2 : Int32) u0 else (wp_X3_shakeHands u0 0 x1 x2 (fun (r6 : Int32) (u7 : pa_S) => post r6 u7)))))))))
set_option maxRecDepth 100000 in
set_option maxHeartbeats 4000000 in
theorem tb_X6_shake_0 {p : Program} {l : Launch} {e : Env} {s : State} {m : MethodId} {args : Array Value} {below : List Frame} {meth : Method} {c : Code} {A : Nat → Prop} {D : va_G} {g : pa_G} {q : Nat → Nat → Nat} {u0 : pa_S} {x1 : Int32} {x2 : Int32} {post : Int32 → pa_S → Prop} (hE : pa_Fx p s m args meth c A D g 3 cX6_shake RX6) (hr : meth.sig.returnType = (some .int)) (hw : wb_X6_shake_0 u0 x1 x2 post) : pa_At p l e (pa_rm 7) s m args below meth c (MQ below (pa_Qc g D q (fun r => some (.int r)) post A) args s 0 0 A) A D g 3 0 0 q u0 0 [(0, .ref (q 0 0)), (1, .int x1), (2, .int x2)] [] := by
  refine pa_aload_n hE dX6_shake_0 rfl 0 rfl ?_
  refine pg_0_0 hE (pa_m1 196 rfl rfl) dX6_shake_1 ?_
  refine pa_iload_n hE dX6_shake_4 rfl 1 rfl ?_
  refine pa_callVri hE (ct_X3_has l g D q u0 0 x1 _ (by decide) hw) cv_RX6_91 (pa_in1 (by decide)) rfl rfl rfl (pa_hR (by omega) (by decide)) rfl (Nat.le_of_ble_eq_true rfl) dX6_shake_5 (fun r1 hw => ?_)
  refine pa_if_eq hE dX6_shake_8 (tgt := 22) (by decide) (fun h2 => ?_) (fun h2 => ?_)
  · have hw := Eq.mp (if_pos h2) hw
    refine pa_iconst hE dX6_shake_22 (v := (-1 : Int32)) (by decide) ?_
    exact pa_iret hE hr hw rfl dX6_shake_23
  · have hw := Eq.mp (if_neg h2) hw
    refine pa_aload_n hE dX6_shake_11 rfl 0 rfl ?_
    refine pg_0_0 hE (pa_m1 196 rfl rfl) dX6_shake_12 ?_
    refine pa_iload_n hE dX6_shake_15 rfl 2 rfl ?_
    refine pa_callVri hE (ct_X3_has l g D q u0 0 x2 _ (by decide) hw) cv_RX6_91 (pa_in1 (by decide)) rfl rfl rfl (pa_hR (by omega) (by decide)) rfl (Nat.le_of_ble_eq_true rfl) dX6_shake_16 (fun r3 hw => ?_)
    refine pa_if_ne hE dX6_shake_19 (tgt := 24) (by decide) (fun h4 => ?_) (fun h4 => ?_)
    · have hw := Eq.mp (if_neg h4) hw
      refine pa_iload_n hE dX6_shake_24 rfl 1 rfl ?_
      refine pa_iload_n hE dX6_shake_25 rfl 2 rfl ?_
      refine pa_icmp_ne hE dX6_shake_26 (tgt := 32) (by decide) (fun h5 => ?_) (fun h5 => ?_)
      · have hw := Eq.mp (if_neg h5) hw
        refine pa_aload_n hE dX6_shake_32 rfl 0 rfl ?_
        refine pg_0_0 hE (pa_m1 196 rfl rfl) dX6_shake_33 ?_
        refine pa_iload_n hE dX6_shake_36 rfl 1 rfl ?_
        refine pa_iload_n hE dX6_shake_37 rfl 2 rfl ?_
        refine pa_callVi hE (ct_X3_shakeHands l g D q u0 0 x1 x2 _ (by decide) hw) cv_RX6_147 (pa_in1 (by decide)) rfl rfl rfl (pa_hR (by omega) (by decide)) rfl (Nat.le_of_ble_eq_true rfl) dX6_shake_38 (fun r6 u7 hw => ?_)
        exact pa_iret hE hr hw rfl dX6_shake_41
      · have hw := Eq.mp (if_pos h5) hw
        refine pa_bipush hE dX6_shake_29 (v := (-2 : Int32)) (by decide) ?_
        exact pa_iret hE hr hw rfl dX6_shake_31
    · have hw := Eq.mp (if_pos h4) hw
      refine pa_iconst hE dX6_shake_22 (v := (-1 : Int32)) (by decide) ?_
      exact pa_iret hE hr hw rfl dX6_shake_23
def wp_X6_shake (u0 : pa_S) (x1 : Int32) (x2 : Int32) (post : Int32 → pa_S → Prop) : Prop := wb_X6_shake_0 u0 x1 x2 post
theorem ct_X6_shake (l : Launch) (g : pa_G) (D : va_G) (q : Nat → Nat → Nat) (u0 : pa_S) (x1 : Int32) (x2 : Int32) (post : Int32 → pa_S → Prop)  (hw : wp_X6_shake u0 x1 x2 post) : pa_Ct l yX6_shake cX6_shake 3 (some .int) 7 g D q u0 [.ref (q 0 0), .int x1, .int x2] (fun r => some (.int r)) post := pa_met rfl rfl (Nat.le_of_ble_eq_true rfl) rfl (fun p e s m args below meth c A hE hr => tb_X6_shake_0 hE hr  hw)
def wb_X6_feed_0 (u0 : pa_S) (x1 : Int32) (post : Int32 → pa_S → Prop) : Prop :=
  (wp_X6_within u0 x1 0 127 (fun (r1 : Int32) => (if r1 = 0 then post (-2 : Int32) u0 else (wp_X5_isFull u0 (fun (r3 : Int32) => (if r3 = 0 then (wp_X5_add u0 x1 (fun (r5 : Int32) (u6 : pa_S) => post r5 u6)) else post (-4 : Int32) u0))))))
set_option maxRecDepth 100000 in
set_option maxHeartbeats 4000000 in
theorem tb_X6_feed_0 {p : Program} {l : Launch} {e : Env} {s : State} {m : MethodId} {args : Array Value} {below : List Frame} {meth : Method} {c : Code} {A : Nat → Prop} {D : va_G} {g : pa_G} {q : Nat → Nat → Nat} {u0 : pa_S} {x1 : Int32} {post : Int32 → pa_S → Prop} (hE : pa_Fx p s m args meth c A D g 2 cX6_feed RX6) (hr : meth.sig.returnType = (some .int)) (hw : wb_X6_feed_0 u0 x1 post) : pa_At p l e (pa_rm 3) s m args below meth c (MQ below (pa_Qc g D q (fun r => some (.int r)) post A) args s 0 0 A) A D g 2 0 0 q u0 0 [(0, .ref (q 0 0)), (1, .int x1)] [] := by
  refine pa_iload_n hE dX6_feed_0 rfl 1 rfl ?_
  refine pa_iconst hE dX6_feed_1 (v := 0) (by decide) ?_
  refine pa_bipush hE dX6_feed_2 (v := 127) (by decide) ?_
  refine pa_callSri hE (ct_X6_within l g D q u0 x1 0 127 _ hw) cs_RX6_79 rfl (pa_hR (by omega) (by decide)) rfl (Nat.le_of_ble_eq_true rfl) dX6_feed_4 (fun r1 hw => ?_)
  refine pa_if_ne hE dX6_feed_7 (tgt := 13) (by decide) (fun h2 => ?_) (fun h2 => ?_)
  · have hw := Eq.mp (if_neg h2) hw
    refine pa_aload_n hE dX6_feed_13 rfl 0 rfl ?_
    refine pg_0_11 hE (pa_m1 207 rfl rfl) dX6_feed_14 ?_
    refine pa_callVri hE (ct_X5_isFull l g D q u0 _ hw) cv_RX6_150 pa_in10 rfl rfl rfl (pa_hR (by omega) (by decide)) rfl (Nat.le_of_ble_eq_true rfl) dX6_feed_17 (fun r3 hw => ?_)
    refine pa_if_eq hE dX6_feed_20 (tgt := 26) (by decide) (fun h4 => ?_) (fun h4 => ?_)
    · have hw := Eq.mp (if_pos h4) hw
      refine pa_aload_n hE dX6_feed_26 rfl 0 rfl ?_
      refine pg_0_11 hE (pa_m1 207 rfl rfl) dX6_feed_27 ?_
      refine pa_iload_n hE dX6_feed_30 rfl 1 rfl ?_
      refine pa_callVi hE (ct_X5_add l g D q u0 x1 _ hw) cv_RX6_154 pa_in10 rfl rfl rfl (pa_hR (by omega) (by decide)) rfl (Nat.le_of_ble_eq_true rfl) dX6_feed_31 (fun r5 u6 hw => ?_)
      exact pa_iret hE hr hw rfl dX6_feed_34
    · have hw := Eq.mp (if_neg h4) hw
      refine pa_bipush hE dX6_feed_23 (v := (-4 : Int32)) (by decide) ?_
      exact pa_iret hE hr hw rfl dX6_feed_25
  · have hw := Eq.mp (if_pos h2) hw
    refine pa_bipush hE dX6_feed_10 (v := (-2 : Int32)) (by decide) ?_
    exact pa_iret hE hr hw rfl dX6_feed_12
def wp_X6_feed (u0 : pa_S) (x1 : Int32) (post : Int32 → pa_S → Prop) : Prop := wb_X6_feed_0 u0 x1 post
theorem ct_X6_feed (l : Launch) (g : pa_G) (D : va_G) (q : Nat → Nat → Nat) (u0 : pa_S) (x1 : Int32) (post : Int32 → pa_S → Prop)  (hw : wp_X6_feed u0 x1 post) : pa_Ct l yX6_feed cX6_feed 2 (some .int) 3 g D q u0 [.ref (q 0 0), .int x1] (fun r => some (.int r)) post := pa_met rfl rfl (Nat.le_of_ble_eq_true rfl) rfl (fun p e s m args below meth c A hE hr => tb_X6_feed_0 hE hr  hw)
def wb_X6_told_0 (u0 : pa_S) (x1 : Int32) (post : Int32 → pa_S → Prop) : Prop :=
  (if x1 = 0 then post (pa_I u0 1 0 8) u0 else (if x1 = 1 then (pa_N u0 1 0 < pa_N u0 70 0) ∧ post (pa_I u0 14 (pa_N u0 1 0) 2) u0 else (if x1 = 2 then (pa_N u0 1 0 < pa_N u0 70 0) ∧ post (pa_I u0 14 (pa_N u0 1 0) 3) u0 else (if x1 = 3 then post (pa_I u0 1 0 7) u0 else (if x1 = 4 then (wp_X3_fortuneOfAll u0 0 (fun (r9 : Int32) (u10 : pa_S) => post r9 u10)) else (if x1 = 5 then (wp_X3_lengthOfAll u0 0 (fun (r11 : Int32) => post r11 u0)) else post (-1 : Int32) u0))))))
set_option maxRecDepth 100000 in
set_option maxHeartbeats 4000000 in
theorem tb_X6_told_0 {p : Program} {l : Launch} {e : Env} {s : State} {m : MethodId} {args : Array Value} {below : List Frame} {meth : Method} {c : Code} {A : Nat → Prop} {D : va_G} {g : pa_G} {q : Nat → Nat → Nat} {u0 : pa_S} {x1 : Int32} {post : Int32 → pa_S → Prop} (hE : pa_Fx p s m args meth c A D g 2 cX6_told RX6) (hr : meth.sig.returnType = (some .int)) (hw : wb_X6_told_0 u0 x1 post) : pa_At p l e (pa_rm 9) s m args below meth c (MQ below (pa_Qc g D q (fun r => some (.int r)) post A) args s 0 0 A) A D g 2 0 0 q u0 0 [(0, .ref (q 0 0)), (1, .int x1)] [] := by
  refine pa_iload_n hE dX6_told_0 rfl 1 rfl ?_
  by_cases h1 : x1 = 0
  · have hw := Eq.mp (if_pos h1) hw
    refine pa_tswIn hE dX6_told_1 (z := 0) h1 (by decide) (by decide) rfl (tgt := 40) (by decide) ?_
    refine pa_aload_n hE dX6_told_40 rfl 0 rfl ?_
    refine pg_0_0 hE (pa_m1 196 rfl rfl) dX6_told_41 ?_
    refine pg_1_8 (pa_in1 (by decide)) hE (pa_m1 153 rfl rfl) dX6_told_44 ?_
    exact pa_iret hE hr hw rfl dX6_told_47
  · have hw := Eq.mp (if_neg h1) hw
    by_cases h2 : x1 = 1
    · have hw := Eq.mp (if_pos h2) hw
      refine pa_tswIn hE dX6_told_1 (z := 1) h2 (by decide) (by decide) rfl (tgt := 48) (by decide) ?_
      refine pa_aload_n hE dX6_told_48 rfl 0 rfl ?_
      refine pg_0_0 hE (pa_m1 196 rfl rfl) dX6_told_49 ?_
      obtain ⟨h7, hw⟩ := hw
      refine pg_1_9 (pa_in1 (by decide)) hE (pa_m1 155 rfl rfl) dX6_told_52 ?_
      refine pg_14_2 (pa_in14 h7) hE (pa_m1 111 rfl rfl) dX6_told_55 ?_
      exact pa_iret hE hr hw rfl dX6_told_58
    · have hw := Eq.mp (if_neg h2) hw
      by_cases h3 : x1 = 2
      · have hw := Eq.mp (if_pos h3) hw
        refine pa_tswIn hE dX6_told_1 (z := 2) h3 (by decide) (by decide) rfl (tgt := 59) (by decide) ?_
        refine pa_aload_n hE dX6_told_59 rfl 0 rfl ?_
        refine pg_0_0 hE (pa_m1 196 rfl rfl) dX6_told_60 ?_
        obtain ⟨h8, hw⟩ := hw
        refine pg_1_9 (pa_in1 (by decide)) hE (pa_m1 155 rfl rfl) dX6_told_63 ?_
        refine pg_14_3 (pa_in14 h8) hE (pa_m1 114 rfl rfl) dX6_told_66 ?_
        exact pa_iret hE hr hw rfl dX6_told_69
      · have hw := Eq.mp (if_neg h3) hw
        by_cases h4 : x1 = 3
        · have hw := Eq.mp (if_pos h4) hw
          refine pa_tswIn hE dX6_told_1 (z := 3) h4 (by decide) (by decide) rfl (tgt := 70) (by decide) ?_
          refine pa_aload_n hE dX6_told_70 rfl 0 rfl ?_
          refine pg_0_0 hE (pa_m1 196 rfl rfl) dX6_told_71 ?_
          refine pg_1_7 (pa_in1 (by decide)) hE (pa_m1 151 rfl rfl) dX6_told_74 ?_
          exact pa_iret hE hr hw rfl dX6_told_77
        · have hw := Eq.mp (if_neg h4) hw
          by_cases h5 : x1 = 4
          · have hw := Eq.mp (if_pos h5) hw
            refine pa_tswIn hE dX6_told_1 (z := 4) h5 (by decide) (by decide) rfl (tgt := 78) (by decide) ?_
            refine pa_aload_n hE dX6_told_78 rfl 0 rfl ?_
            refine pg_0_0 hE (pa_m1 196 rfl rfl) dX6_told_79 ?_
            refine pa_callVi hE (ct_X3_fortuneOfAll l g D q u0 0 _ (by decide) hw) cv_RX6_184 (pa_in1 (by decide)) rfl rfl rfl (pa_hR (by omega) (by decide)) rfl (Nat.le_of_ble_eq_true rfl) dX6_told_82 (fun r9 u10 hw => ?_)
            exact pa_iret hE hr hw rfl dX6_told_85
          · have hw := Eq.mp (if_neg h5) hw
            by_cases h6 : x1 = 5
            · have hw := Eq.mp (if_pos h6) hw
              refine pa_tswIn hE dX6_told_1 (z := 5) h6 (by decide) (by decide) rfl (tgt := 86) (by decide) ?_
              refine pa_aload_n hE dX6_told_86 rfl 0 rfl ?_
              refine pg_0_0 hE (pa_m1 196 rfl rfl) dX6_told_87 ?_
              refine pa_callVri hE (ct_X3_lengthOfAll l g D q u0 0 _ (by decide) hw) cv_RX6_187 (pa_in1 (by decide)) rfl rfl rfl (pa_hR (by omega) (by decide)) rfl (Nat.le_of_ble_eq_true rfl) dX6_told_90 (fun r11 hw => ?_)
              exact pa_iret hE hr hw rfl dX6_told_93
            · have hw := Eq.mp (if_neg h6) hw
              refine pa_tswOut hE dX6_told_1 (by have eh1 := pa_neL h1 (by decide : (0 : Int32).toInt = 0); have eh2 := pa_neL h2 (by decide : (1 : Int32).toInt = 1); have eh3 := pa_neL h3 (by decide : (2 : Int32).toInt = 2); have eh4 := pa_neL h4 (by decide : (3 : Int32).toInt = 3); have eh5 := pa_neL h5 (by decide : (4 : Int32).toInt = 4); have eh6 := pa_neL h6 (by decide : (5 : Int32).toInt = 5); omega) (tgt := 94) (by decide) ?_
              refine pa_iconst hE dX6_told_94 (v := (-1 : Int32)) (by decide) ?_
              exact pa_iret hE hr hw rfl dX6_told_95
def wp_X6_told (u0 : pa_S) (x1 : Int32) (post : Int32 → pa_S → Prop) : Prop := wb_X6_told_0 u0 x1 post
theorem ct_X6_told (l : Launch) (g : pa_G) (D : va_G) (q : Nat → Nat → Nat) (u0 : pa_S) (x1 : Int32) (post : Int32 → pa_S → Prop)  (hw : wp_X6_told u0 x1 post) : pa_Ct l yX6_told cX6_told 2 (some .int) 9 g D q u0 [.ref (q 0 0), .int x1] (fun r => some (.int r)) post := pa_met rfl rfl (Nat.le_of_ble_eq_true rfl) rfl (fun p e s m args below meth c A hE hr => tb_X6_told_0 hE hr  hw)
def wb_X6_pass_0 (u0 : pa_S) (x1 : Int32) (post : Int32 → pa_S → Prop) : Prop :=
  (wp_X6_within u0 x1 0 60 (fun (r1 : Int32) => (if r1 = 0 then post (-2 : Int32) u0 else (if ((pa_I u0 1 0 8) + x1) ≤ 9999 then (wp_X3_goDays u0 0 x1 (fun (u5 : pa_S) => post (pa_I u5 1 0 8) u5)) else post (-3 : Int32) u0))))
set_option maxRecDepth 100000 in
set_option maxHeartbeats 4000000 in
theorem tb_X6_pass_0 {p : Program} {l : Launch} {e : Env} {s : State} {m : MethodId} {args : Array Value} {below : List Frame} {meth : Method} {c : Code} {A : Nat → Prop} {D : va_G} {g : pa_G} {q : Nat → Nat → Nat} {u0 : pa_S} {x1 : Int32} {post : Int32 → pa_S → Prop} (hE : pa_Fx p s m args meth c A D g 2 cX6_pass RX6) (hr : meth.sig.returnType = (some .int)) (hw : wb_X6_pass_0 u0 x1 post) : pa_At p l e (pa_rm 8) s m args below meth c (MQ below (pa_Qc g D q (fun r => some (.int r)) post A) args s 0 0 A) A D g 2 0 0 q u0 0 [(0, .ref (q 0 0)), (1, .int x1)] [] := by
  refine pa_iload_n hE dX6_pass_0 rfl 1 rfl ?_
  refine pa_iconst hE dX6_pass_1 (v := 0) (by decide) ?_
  refine pa_bipush hE dX6_pass_2 (v := 60) (by decide) ?_
  refine pa_callSri hE (ct_X6_within l g D q u0 x1 0 60 _ hw) cs_RX6_79 rfl (pa_hR (by omega) (by decide)) rfl (Nat.le_of_ble_eq_true rfl) dX6_pass_4 (fun r1 hw => ?_)
  refine pa_if_ne hE dX6_pass_7 (tgt := 13) (by decide) (fun h2 => ?_) (fun h2 => ?_)
  · have hw := Eq.mp (if_neg h2) hw
    refine pa_aload_n hE dX6_pass_13 rfl 0 rfl ?_
    refine pg_0_0 hE (pa_m1 196 rfl rfl) dX6_pass_14 ?_
    refine pg_1_8 (pa_in1 (by decide)) hE (pa_m1 153 rfl rfl) dX6_pass_17 ?_
    refine pa_iload_n hE dX6_pass_20 rfl 1 rfl ?_
    refine pa_iadd hE dX6_pass_21 ?_
    refine pa_sipush hE dX6_pass_22 (v := 9999) (by decide) ?_
    refine pa_icmp_le hE dX6_pass_25 (tgt := 31) (by decide) (fun h3 => ?_) (fun h3 => ?_)
    · have hw := Eq.mp (if_pos h3) hw
      refine pa_aload_n hE dX6_pass_31 rfl 0 rfl ?_
      refine pg_0_0 hE (pa_m1 196 rfl rfl) dX6_pass_32 ?_
      refine pa_iload_n hE dX6_pass_35 rfl 1 rfl ?_
      refine pa_callVv hE (ct_X3_goDays l g D q u0 0 x1 _ (by decide) hw) cv_RX6_190 (pa_in1 (by decide)) rfl rfl rfl (pa_hR (by omega) (by decide)) rfl (Nat.le_of_ble_eq_true rfl) dX6_pass_36 (fun u5 hw => ?_)
      refine pa_aload_n hE dX6_pass_39 rfl 0 rfl ?_
      refine pg_0_0 hE (pa_m1 196 rfl rfl) dX6_pass_40 ?_
      refine pg_1_8 (pa_in1 (by decide)) hE (pa_m1 153 rfl rfl) dX6_pass_43 ?_
      exact pa_iret hE hr hw rfl dX6_pass_46
    · have hw := Eq.mp (if_neg h3) hw
      refine pa_bipush hE dX6_pass_28 (v := (-3 : Int32)) (by decide) ?_
      exact pa_iret hE hr hw rfl dX6_pass_30
  · have hw := Eq.mp (if_pos h2) hw
    refine pa_bipush hE dX6_pass_10 (v := (-2 : Int32)) (by decide) ?_
    exact pa_iret hE hr hw rfl dX6_pass_12
def wp_X6_pass (u0 : pa_S) (x1 : Int32) (post : Int32 → pa_S → Prop) : Prop := wb_X6_pass_0 u0 x1 post
theorem ct_X6_pass (l : Launch) (g : pa_G) (D : va_G) (q : Nat → Nat → Nat) (u0 : pa_S) (x1 : Int32) (post : Int32 → pa_S → Prop)  (hw : wp_X6_pass u0 x1 post) : pa_Ct l yX6_pass cX6_pass 2 (some .int) 8 g D q u0 [.ref (q 0 0), .int x1] (fun r => some (.int r)) post := pa_met rfl rfl (Nat.le_of_ble_eq_true rfl) rfl (fun p e s m args below meth c A hE hr => tb_X6_pass_0 hE hr  hw)
def wb_X6_on_82 (u0 : pa_S) (x1 : Int32) (x2 : Int32) (x3 : Int32) (x4 : Int32) (post : Int32 → pa_S → Prop) : Prop :=
  (wp_X6_within u0 x1 0 60 (fun (r5 : Int32) => (if r5 = 0 then post (-2 : Int32) u0 else (wp_X3_become u0 2 0 (fun (u8 : pa_S) => (wp_X3_goDays u8 2 x1 (fun (u10 : pa_S) => (if x3 = 0 then (if x4 = 0 then (wp_X3_lengthOf u10 2 ((x2 - 20) / 3) (pa_rem (x2 - 20) 3) (fun (r13 : Int32) => post r13 u10)) else (wp_X3_fortuneOf u10 2 (x2 - 10) (fun (r14 : Int32) (u15 : pa_S) => post r14 u15))) else (wp_X3_fortuneOfAll u10 2 (fun (r16 : Int32) (u17 : pa_S) => post r16 u17))))))))))
set_option maxRecDepth 100000 in
set_option maxHeartbeats 4000000 in
theorem tb_X6_on_82 {p : Program} {l : Launch} {e : Env} {s : State} {m : MethodId} {args : Array Value} {below : List Frame} {meth : Method} {c : Code} {A : Nat → Prop} {D : va_G} {g : pa_G} {q : Nat → Nat → Nat} {u0 : pa_S} {x1 : Int32} {x2 : Int32} {x3 : Int32} {x4 : Int32} {post : Int32 → pa_S → Prop} (hE : pa_Fx p s m args meth c A D g 7 cX6_on RX6) (hr : meth.sig.returnType = (some .int)) (hw : wb_X6_on_82 u0 x1 x2 x3 x4 post) : pa_At p l e (pa_rm 9) s m args below meth c (MQ below (pa_Qc g D q (fun r => some (.int r)) post A) args s 0 0 A) A D g 7 0 0 q u0 82 [(0, .ref (q 0 0)), (1, .int x1), (2, .int x2), (3, .int x3), (4, .int x4)] [] := by
  refine pa_iload_n hE dX6_on_82 rfl 1 rfl ?_
  refine pa_iconst hE dX6_on_83 (v := 0) (by decide) ?_
  refine pa_bipush hE dX6_on_84 (v := 60) (by decide) ?_
  refine pa_callSri hE (ct_X6_within l g D q u0 x1 0 60 _ hw) cs_RX6_79 rfl (pa_hR (by omega) (by decide)) rfl (Nat.le_of_ble_eq_true rfl) dX6_on_86 (fun r5 hw => ?_)
  refine pa_if_ne hE dX6_on_89 (tgt := 95) (by decide) (fun h6 => ?_) (fun h6 => ?_)
  · have hw := Eq.mp (if_neg h6) hw
    refine pa_aload_n hE dX6_on_95 rfl 0 rfl ?_
    refine pg_0_2 hE (pa_m1 198 rfl rfl) dX6_on_96 ?_
    refine pa_iconst hE dX6_on_99 (v := 0) (by decide) ?_
    refine pa_aaldS hE (by unfold vp_in; decide) (n := 2) (by decide) dX6_on_100 ?_
    refine pa_astore hE dX6_on_101 (by decide) (lvr := [(0, .ref (q 0 0)), (1, .int x1), (2, .int x2), (3, .int x3), (4, .int x4)]) rfl ?_
    refine pa_aload hE dX6_on_103 0 rfl ?_
    refine pa_aload_n hE dX6_on_105 rfl 1 rfl ?_
    refine pg_0_0 hE (pa_m1 196 rfl rfl) dX6_on_106 ?_
    refine pa_callVv hE (ct_X3_become l g D q u0 2 0 _ (by decide) (by decide) hw) cv_RX6_194 (pa_in1 (by decide)) rfl rfl rfl (pa_hR (by omega) (by decide)) rfl (Nat.le_of_ble_eq_true rfl) dX6_on_109 (fun u8 hw => ?_)
    refine pa_aload hE dX6_on_112 0 rfl ?_
    refine pa_iload_n hE dX6_on_114 rfl 2 rfl ?_
    refine pa_callVv hE (ct_X3_goDays l g D q u8 2 x1 _ (by decide) hw) cv_RX6_190 (pa_in1 (by decide)) rfl rfl rfl (pa_hR (by omega) (by decide)) rfl (Nat.le_of_ble_eq_true rfl) dX6_on_115 (fun u10 hw => ?_)
    refine pa_iload_n hE dX6_on_118 rfl 4 rfl ?_
    refine pa_if_eq hE dX6_on_119 (tgt := 128) (by decide) (fun h11 => ?_) (fun h11 => ?_)
    · have hw := Eq.mp (if_pos h11) hw
      refine pa_iload hE dX6_on_128 5 rfl ?_
      refine pa_if_eq hE dX6_on_130 (tgt := 145) (by decide) (fun h12 => ?_) (fun h12 => ?_)
      · have hw := Eq.mp (if_pos h12) hw
        refine pa_aload hE dX6_on_145 0 rfl ?_
        refine pa_iload_n hE dX6_on_147 rfl 3 rfl ?_
        refine pa_bipush hE dX6_on_148 (v := 20) (by decide) ?_
        refine pa_isub hE dX6_on_150 ?_
        refine pa_iconst hE dX6_on_151 (v := 3) (by decide) ?_
        refine pa_idiv hE dX6_on_152 (by decide) ?_
        refine pa_iload_n hE dX6_on_153 rfl 3 rfl ?_
        refine pa_bipush hE dX6_on_154 (v := 20) (by decide) ?_
        refine pa_isub hE dX6_on_156 ?_
        refine pa_iconst hE dX6_on_157 (v := 3) (by decide) ?_
        refine pa_irem hE dX6_on_158 (by decide) ?_
        refine pa_callVri hE (ct_X3_lengthOf l g D q u10 2 ((x2 - 20) / 3) (pa_rem (x2 - 20) 3) _ (by decide) hw) cv_RX6_122 (pa_in1 (by decide)) rfl rfl rfl (pa_hR (by omega) (by decide)) rfl (Nat.le_of_ble_eq_true rfl) dX6_on_159 (fun r13 hw => ?_)
        exact pa_iret hE hr hw rfl dX6_on_162
      · have hw := Eq.mp (if_neg h12) hw
        refine pa_aload hE dX6_on_133 0 rfl ?_
        refine pa_iload_n hE dX6_on_135 rfl 3 rfl ?_
        refine pa_bipush hE dX6_on_136 (v := 10) (by decide) ?_
        refine pa_isub hE dX6_on_138 ?_
        refine pa_callVi hE (ct_X3_fortuneOf l g D q u10 2 (x2 - 10) _ (by decide) hw) cv_RX6_105 (pa_in1 (by decide)) rfl rfl rfl (pa_hR (by omega) (by decide)) rfl (Nat.le_of_ble_eq_true rfl) dX6_on_139 (fun r14 u15 hw => ?_)
        refine pa_goto hE dX6_on_142 (tgt := 162) (by decide) ?_
        exact pa_iret hE hr hw rfl dX6_on_162
    · have hw := Eq.mp (if_neg h11) hw
      refine pa_aload hE dX6_on_122 0 rfl ?_
      refine pa_callVi hE (ct_X3_fortuneOfAll l g D q u10 2 _ (by decide) hw) cv_RX6_184 (pa_in1 (by decide)) rfl rfl rfl (pa_hR (by omega) (by decide)) rfl (Nat.le_of_ble_eq_true rfl) dX6_on_124 (fun r16 u17 hw => ?_)
      exact pa_iret hE hr hw rfl dX6_on_127
  · have hw := Eq.mp (if_pos h6) hw
    refine pa_bipush hE dX6_on_92 (v := (-2 : Int32)) (by decide) ?_
    exact pa_iret hE hr hw rfl dX6_on_94
def wb_X6_on_64 (u0 : pa_S) (x1 : Int32) (x2 : Int32) (x3 : Int32) (x4 : Int32) (y0 : Int32) (post : Int32 → pa_S → Prop) : Prop :=
  (if x3 = 0 then (if x4 = 0 then (if y0 = 0 then post (-1 : Int32) u0 else wb_X6_on_82 u0 x1 x2 x3 x4 post) else wb_X6_on_82 u0 x1 x2 x3 x4 post) else wb_X6_on_82 u0 x1 x2 x3 x4 post)
set_option maxRecDepth 100000 in
set_option maxHeartbeats 4000000 in
theorem tb_X6_on_64 {p : Program} {l : Launch} {e : Env} {s : State} {m : MethodId} {args : Array Value} {below : List Frame} {meth : Method} {c : Code} {A : Nat → Prop} {D : va_G} {g : pa_G} {q : Nat → Nat → Nat} {u0 : pa_S} {x1 : Int32} {x2 : Int32} {x3 : Int32} {x4 : Int32} {y0 : Int32} {post : Int32 → pa_S → Prop} (hE : pa_Fx p s m args meth c A D g 7 cX6_on RX6) (hr : meth.sig.returnType = (some .int)) (hw : wb_X6_on_64 u0 x1 x2 x3 x4 y0 post) : pa_At p l e (pa_rm 9) s m args below meth c (MQ below (pa_Qc g D q (fun r => some (.int r)) post A) args s 0 0 A) A D g 7 0 0 q u0 64 [(0, .ref (q 0 0)), (1, .int x1), (2, .int x2), (3, .int x3), (4, .int x4)] [.int y0] := by
  refine pa_istore hE dX6_on_64 (by decide) (lvr := [(0, .ref (q 0 0)), (1, .int x1), (2, .int x2), (3, .int x3), (4, .int x4)]) rfl ?_
  refine pa_iload_n hE dX6_on_66 rfl 4 rfl ?_
  refine pa_if_ne hE dX6_on_67 (tgt := 82) (by decide) (fun h4 => ?_) (fun h4 => ?_)
  · have hw := Eq.mp (if_neg h4) hw
    exact pa_sub [1, 2, 3, 4, 5] rfl (tb_X6_on_82 hE hr hw)
  · have hw := Eq.mp (if_pos h4) hw
    refine pa_iload hE dX6_on_70 5 rfl ?_
    refine pa_if_ne hE dX6_on_72 (tgt := 82) (by decide) (fun h18 => ?_) (fun h18 => ?_)
    · have hw := Eq.mp (if_neg h18) hw
      exact pa_sub [1, 2, 3, 4, 5] rfl (tb_X6_on_82 hE hr hw)
    · have hw := Eq.mp (if_pos h18) hw
      refine pa_iload hE dX6_on_75 0 rfl ?_
      refine pa_if_ne hE dX6_on_77 (tgt := 82) (by decide) (fun h19 => ?_) (fun h19 => ?_)
      · have hw := Eq.mp (if_neg h19) hw
        exact pa_sub [1, 2, 3, 4, 5] rfl (tb_X6_on_82 hE hr hw)
      · have hw := Eq.mp (if_pos h19) hw
        refine pa_iconst hE dX6_on_80 (v := (-1 : Int32)) (by decide) ?_
        exact pa_iret hE hr hw rfl dX6_on_81
def wb_X6_on_63 (u0 : pa_S) (x1 : Int32) (x2 : Int32) (x3 : Int32) (x4 : Int32) (post : Int32 → pa_S → Prop) : Prop :=
  wb_X6_on_64 u0 x1 x2 x3 x4 0 post
set_option maxRecDepth 100000 in
set_option maxHeartbeats 4000000 in
theorem tb_X6_on_63 {p : Program} {l : Launch} {e : Env} {s : State} {m : MethodId} {args : Array Value} {below : List Frame} {meth : Method} {c : Code} {A : Nat → Prop} {D : va_G} {g : pa_G} {q : Nat → Nat → Nat} {u0 : pa_S} {x1 : Int32} {x2 : Int32} {x3 : Int32} {x4 : Int32} {post : Int32 → pa_S → Prop} (hE : pa_Fx p s m args meth c A D g 7 cX6_on RX6) (hr : meth.sig.returnType = (some .int)) (hw : wb_X6_on_63 u0 x1 x2 x3 x4 post) : pa_At p l e (pa_rm 9) s m args below meth c (MQ below (pa_Qc g D q (fun r => some (.int r)) post A) args s 0 0 A) A D g 7 0 0 q u0 63 [(0, .ref (q 0 0)), (1, .int x1), (2, .int x2), (3, .int x3), (4, .int x4)] [] := by
  refine pa_iconst hE dX6_on_63 (v := 0) (by decide) ?_
  exact pa_sub [0, 1, 2, 3, 4] rfl (tb_X6_on_64 hE hr hw)
def wb_X6_on_35 (u0 : pa_S) (x1 : Int32) (x2 : Int32) (x3 : Int32) (y0 : Int32) (post : Int32 → pa_S → Prop) : Prop :=
  (if x2 < 20 then wb_X6_on_63 u0 x1 x2 x3 y0 post else (wp_X3_has u0 0 ((x2 - 20) / 3) (fun (r20 : Int32) => (if r20 = 0 then wb_X6_on_63 u0 x1 x2 x3 y0 post else wb_X6_on_64 u0 x1 x2 x3 y0 1 post))))
set_option maxRecDepth 100000 in
set_option maxHeartbeats 4000000 in
theorem tb_X6_on_35 {p : Program} {l : Launch} {e : Env} {s : State} {m : MethodId} {args : Array Value} {below : List Frame} {meth : Method} {c : Code} {A : Nat → Prop} {D : va_G} {g : pa_G} {q : Nat → Nat → Nat} {u0 : pa_S} {x1 : Int32} {x2 : Int32} {x3 : Int32} {y0 : Int32} {post : Int32 → pa_S → Prop} (hE : pa_Fx p s m args meth c A D g 7 cX6_on RX6) (hr : meth.sig.returnType = (some .int)) (hw : wb_X6_on_35 u0 x1 x2 x3 y0 post) : pa_At p l e (pa_rm 9) s m args below meth c (MQ below (pa_Qc g D q (fun r => some (.int r)) post A) args s 0 0 A) A D g 7 0 0 q u0 35 [(0, .ref (q 0 0)), (1, .int x1), (2, .int x2), (3, .int x3)] [.int y0] := by
  refine pa_istore hE dX6_on_35 (by decide) (lvr := [(0, .ref (q 0 0)), (1, .int x1), (2, .int x2), (3, .int x3)]) rfl ?_
  refine pa_iload_n hE dX6_on_37 rfl 3 rfl ?_
  refine pa_bipush hE dX6_on_38 (v := 20) (by decide) ?_
  refine pa_icmp_lt hE dX6_on_40 (tgt := 63) (by decide) (fun h3 => ?_) (fun h3 => ?_)
  · have hw := Eq.mp (if_pos h3) hw
    exact pa_sub [1, 2, 3, 4, 0] rfl (tb_X6_on_63 hE hr hw)
  · have hw := Eq.mp (if_neg h3) hw
    refine pa_aload_n hE dX6_on_43 rfl 1 rfl ?_
    refine pg_0_0 hE (pa_m1 196 rfl rfl) dX6_on_44 ?_
    refine pa_iload_n hE dX6_on_47 rfl 3 rfl ?_
    refine pa_bipush hE dX6_on_48 (v := 20) (by decide) ?_
    refine pa_isub hE dX6_on_50 ?_
    refine pa_iconst hE dX6_on_51 (v := 3) (by decide) ?_
    refine pa_idiv hE dX6_on_52 (by decide) ?_
    refine pa_callVri hE (ct_X3_has l g D q u0 0 ((x2 - 20) / 3) _ (by decide) hw) cv_RX6_91 (pa_in1 (by decide)) rfl rfl rfl (pa_hR (by omega) (by decide)) rfl (Nat.le_of_ble_eq_true rfl) dX6_on_53 (fun r20 hw => ?_)
    refine pa_if_eq hE dX6_on_56 (tgt := 63) (by decide) (fun h21 => ?_) (fun h21 => ?_)
    · have hw := Eq.mp (if_pos h21) hw
      exact pa_sub [1, 2, 3, 4, 0] rfl (tb_X6_on_63 hE hr hw)
    · have hw := Eq.mp (if_neg h21) hw
      refine pa_iconst hE dX6_on_59 (v := 1) (by decide) ?_
      refine pa_goto hE dX6_on_60 (tgt := 64) (by decide) ?_
      exact pa_sub [1, 2, 3, 4, 0] rfl (tb_X6_on_64 hE hr hw)
def wb_X6_on_34 (u0 : pa_S) (x1 : Int32) (x2 : Int32) (x3 : Int32) (post : Int32 → pa_S → Prop) : Prop :=
  wb_X6_on_35 u0 x1 x2 x3 0 post
set_option maxRecDepth 100000 in
set_option maxHeartbeats 4000000 in
theorem tb_X6_on_34 {p : Program} {l : Launch} {e : Env} {s : State} {m : MethodId} {args : Array Value} {below : List Frame} {meth : Method} {c : Code} {A : Nat → Prop} {D : va_G} {g : pa_G} {q : Nat → Nat → Nat} {u0 : pa_S} {x1 : Int32} {x2 : Int32} {x3 : Int32} {post : Int32 → pa_S → Prop} (hE : pa_Fx p s m args meth c A D g 7 cX6_on RX6) (hr : meth.sig.returnType = (some .int)) (hw : wb_X6_on_34 u0 x1 x2 x3 post) : pa_At p l e (pa_rm 9) s m args below meth c (MQ below (pa_Qc g D q (fun r => some (.int r)) post A) args s 0 0 A) A D g 7 0 0 q u0 34 [(0, .ref (q 0 0)), (1, .int x1), (2, .int x2), (3, .int x3)] [] := by
  refine pa_iconst hE dX6_on_34 (v := 0) (by decide) ?_
  exact pa_sub [0, 1, 2, 3] rfl (tb_X6_on_35 hE hr hw)
def wb_X6_on_9 (u0 : pa_S) (x1 : Int32) (x2 : Int32) (y0 : Int32) (post : Int32 → pa_S → Prop) : Prop :=
  (if x2 < 10 then wb_X6_on_34 u0 x1 x2 y0 post else (wp_X3_has u0 0 (x2 - 10) (fun (r22 : Int32) => (if r22 = 0 then wb_X6_on_34 u0 x1 x2 y0 post else wb_X6_on_35 u0 x1 x2 y0 1 post))))
set_option maxRecDepth 100000 in
set_option maxHeartbeats 4000000 in
theorem tb_X6_on_9 {p : Program} {l : Launch} {e : Env} {s : State} {m : MethodId} {args : Array Value} {below : List Frame} {meth : Method} {c : Code} {A : Nat → Prop} {D : va_G} {g : pa_G} {q : Nat → Nat → Nat} {u0 : pa_S} {x1 : Int32} {x2 : Int32} {y0 : Int32} {post : Int32 → pa_S → Prop} (hE : pa_Fx p s m args meth c A D g 7 cX6_on RX6) (hr : meth.sig.returnType = (some .int)) (hw : wb_X6_on_9 u0 x1 x2 y0 post) : pa_At p l e (pa_rm 9) s m args below meth c (MQ below (pa_Qc g D q (fun r => some (.int r)) post A) args s 0 0 A) A D g 7 0 0 q u0 9 [(0, .ref (q 0 0)), (1, .int x1), (2, .int x2)] [.int y0] := by
  refine pa_istore_n hE dX6_on_9 rfl (by decide) (lvr := [(0, .ref (q 0 0)), (1, .int x1), (2, .int x2)]) rfl ?_
  refine pa_iload_n hE dX6_on_10 rfl 3 rfl ?_
  refine pa_bipush hE dX6_on_11 (v := 10) (by decide) ?_
  refine pa_icmp_lt hE dX6_on_13 (tgt := 34) (by decide) (fun h2 => ?_) (fun h2 => ?_)
  · have hw := Eq.mp (if_pos h2) hw
    exact pa_sub [1, 2, 3, 0] rfl (tb_X6_on_34 hE hr hw)
  · have hw := Eq.mp (if_neg h2) hw
    refine pa_aload_n hE dX6_on_16 rfl 1 rfl ?_
    refine pg_0_0 hE (pa_m1 196 rfl rfl) dX6_on_17 ?_
    refine pa_iload_n hE dX6_on_20 rfl 3 rfl ?_
    refine pa_bipush hE dX6_on_21 (v := 10) (by decide) ?_
    refine pa_isub hE dX6_on_23 ?_
    refine pa_callVri hE (ct_X3_has l g D q u0 0 (x2 - 10) _ (by decide) hw) cv_RX6_91 (pa_in1 (by decide)) rfl rfl rfl (pa_hR (by omega) (by decide)) rfl (Nat.le_of_ble_eq_true rfl) dX6_on_24 (fun r22 hw => ?_)
    refine pa_if_eq hE dX6_on_27 (tgt := 34) (by decide) (fun h23 => ?_) (fun h23 => ?_)
    · have hw := Eq.mp (if_pos h23) hw
      exact pa_sub [1, 2, 3, 0] rfl (tb_X6_on_34 hE hr hw)
    · have hw := Eq.mp (if_neg h23) hw
      refine pa_iconst hE dX6_on_30 (v := 1) (by decide) ?_
      refine pa_goto hE dX6_on_31 (tgt := 35) (by decide) ?_
      exact pa_sub [1, 2, 3, 0] rfl (tb_X6_on_35 hE hr hw)
def wb_X6_on_0 (u0 : pa_S) (x1 : Int32) (x2 : Int32) (post : Int32 → pa_S → Prop) : Prop :=
  (if x2 = 0 then wb_X6_on_9 u0 x1 x2 1 post else wb_X6_on_9 u0 x1 x2 0 post)
set_option maxRecDepth 100000 in
set_option maxHeartbeats 4000000 in
theorem tb_X6_on_0 {p : Program} {l : Launch} {e : Env} {s : State} {m : MethodId} {args : Array Value} {below : List Frame} {meth : Method} {c : Code} {A : Nat → Prop} {D : va_G} {g : pa_G} {q : Nat → Nat → Nat} {u0 : pa_S} {x1 : Int32} {x2 : Int32} {post : Int32 → pa_S → Prop} (hE : pa_Fx p s m args meth c A D g 7 cX6_on RX6) (hr : meth.sig.returnType = (some .int)) (hw : wb_X6_on_0 u0 x1 x2 post) : pa_At p l e (pa_rm 9) s m args below meth c (MQ below (pa_Qc g D q (fun r => some (.int r)) post A) args s 0 0 A) A D g 7 0 0 q u0 0 [(0, .ref (q 0 0)), (1, .int x1), (2, .int x2)] [] := by
  refine pa_iload_n hE dX6_on_0 rfl 2 rfl ?_
  refine pa_if_ne hE dX6_on_1 (tgt := 8) (by decide) (fun h1 => ?_) (fun h1 => ?_)
  · have hw := Eq.mp (if_neg h1) hw
    refine pa_iconst hE dX6_on_8 (v := 0) (by decide) ?_
    exact pa_sub [0, 1, 2] rfl (tb_X6_on_9 hE hr hw)
  · have hw := Eq.mp (if_pos h1) hw
    refine pa_iconst hE dX6_on_4 (v := 1) (by decide) ?_
    refine pa_goto hE dX6_on_5 (tgt := 9) (by decide) ?_
    exact pa_sub [0, 1, 2] rfl (tb_X6_on_9 hE hr hw)
def wp_X6_on (u0 : pa_S) (x1 : Int32) (x2 : Int32) (post : Int32 → pa_S → Prop) : Prop := wb_X6_on_0 u0 x1 x2 post
theorem ct_X6_on (l : Launch) (g : pa_G) (D : va_G) (q : Nat → Nat → Nat) (u0 : pa_S) (x1 : Int32) (x2 : Int32) (post : Int32 → pa_S → Prop)  (hw : wp_X6_on u0 x1 x2 post) : pa_Ct l yX6_on cX6_on 7 (some .int) 9 g D q u0 [.ref (q 0 0), .int x1, .int x2] (fun r => some (.int r)) post := pa_met rfl rfl (Nat.le_of_ble_eq_true rfl) rfl (fun p e s m args below meth c A hE hr => tb_X6_on_0 hE hr  hw)
def wb_X6_lasts_45 (k45 : pa_S → Int32 → Int32 → Int32 → Prop) (u0 : pa_S) (x1 : Int32) (x2 : Int32) (x4 : Int32) (post : Int32 → pa_S → Prop) : Prop :=
  (if 60 < x4 then post (-5 : Int32) u0 else (wp_X3_fortuneOf u0 2 x1 (fun (r8 : Int32) (u9 : pa_S) => (if x2 ≤ r8 then (wp_X3_goDays u9 2 1 (fun (u12 : pa_S) => ∀ v13 : Int32, v13 = x4 + 1 → k45 u12 x1 x2 v13)) else post x4 u9))))
set_option maxRecDepth 100000 in
set_option maxHeartbeats 4000000 in
theorem tb_X6_lasts_45 {p : Program} {l : Launch} {e : Env} {s : State} {m : MethodId} {args : Array Value} {below : List Frame} {meth : Method} {c : Code} {A : Nat → Prop} {D : va_G} {g : pa_G} {q : Nat → Nat → Nat} {k45 : pa_S → Int32 → Int32 → Int32 → Prop} {u0 : pa_S} {x1 : Int32} {x2 : Int32} {x4 : Int32} {post : Int32 → pa_S → Prop} (hE : pa_Fx p s m args meth c A D g 5 cX6_lasts RX6) (hr : meth.sig.returnType = (some .int)) (hk45 : ∀ (u : pa_S)  (x1 : Int32) (x2 : Int32) (x4 : Int32), k45 u x1 x2 x4 → pa_At p l e (pa_rm 8) s m args below meth c (MQ below (pa_Qc g D q (fun r => some (.int r)) post A) args s 0 0 A) A D g 5 0 0 q u 45 [(1, .int x1), (2, .int x2), (3, .ref (q 1 2)), (4, .int x4)] []) (hw : wb_X6_lasts_45 k45 u0 x1 x2 x4 post) : pa_At p l e (pa_rm 8) s m args below meth c (MQ below (pa_Qc g D q (fun r => some (.int r)) post A) args s 0 0 A) A D g 5 0 0 q u0 45 [(1, .int x1), (2, .int x2), (3, .ref (q 1 2)), (4, .int x4)] [] := by
  refine pa_iload hE dX6_lasts_45 3 rfl ?_
  refine pa_bipush hE dX6_lasts_47 (v := 60) (by decide) ?_
  refine pa_icmp_gt hE dX6_lasts_49 (tgt := 75) (by decide) (fun h7 => ?_) (fun h7 => ?_)
  · have hw := Eq.mp (if_pos h7) hw
    refine pa_bipush hE dX6_lasts_75 (v := (-5 : Int32)) (by decide) ?_
    exact pa_iret hE hr hw rfl dX6_lasts_77
  · have hw := Eq.mp (if_neg h7) hw
    refine pa_aload_n hE dX6_lasts_52 rfl 2 rfl ?_
    refine pa_iload_n hE dX6_lasts_53 rfl 0 rfl ?_
    refine pa_callVi hE (ct_X3_fortuneOf l g D q u0 2 x1 _ (by decide) hw) cv_RX6_105 (pa_in1 (by decide)) rfl rfl rfl (pa_hR (by omega) (by decide)) rfl (Nat.le_of_ble_eq_true rfl) dX6_lasts_54 (fun r8 u9 hw => ?_)
    refine pa_iload_n hE dX6_lasts_57 rfl 1 rfl ?_
    refine pa_icmp_ge hE dX6_lasts_58 (tgt := 64) (by decide) (fun h10 => ?_) (fun h10 => ?_)
    · have hw := Eq.mp (if_pos h10) hw
      refine pa_aload_n hE dX6_lasts_64 rfl 2 rfl ?_
      refine pa_iconst hE dX6_lasts_65 (v := 1) (by decide) ?_
      refine pa_callVv hE (ct_X3_goDays l g D q u9 2 1 _ (by decide) hw) cv_RX6_190 (pa_in1 (by decide)) rfl rfl rfl (pa_hR (by omega) (by decide)) rfl (Nat.le_of_ble_eq_true rfl) dX6_lasts_66 (fun u12 hw => ?_)
      refine pa_iinc hE dX6_lasts_69 (v := 1) 3 rfl (by decide) (by decide) (lvr := [(1, .int x1), (2, .int x2), (3, .ref (q 1 2))]) rfl (fun v13 ev13 => ?_)
      have hw := hw v13 ev13
      refine pa_goto hE dX6_lasts_72 (tgt := 45) (by decide) ?_
      exact pa_sub [1, 2, 3, 0] rfl (hk45 u12 x1 x2 v13 hw)
    · have hw := Eq.mp (if_neg h10) hw
      refine pa_iload hE dX6_lasts_61 3 rfl ?_
      exact pa_iret hE hr hw rfl dX6_lasts_63
def wl_X6_lasts_45 (post : Int32 → pa_S → Prop) : Nat → pa_S → Int32 → Int32 → Int32 → Prop
  | 0, _, _, _, _ => False
  | n + 1, u0, x1, x2, x4 => wb_X6_lasts_45 (fun u0 x1 x2 x4 => wl_X6_lasts_45 post n u0 x1 x2 x4) u0 x1 x2 x4 post
set_option maxRecDepth 100000 in
set_option maxHeartbeats 4000000 in
theorem tl_X6_lasts_45 {p : Program} {l : Launch} {e : Env} {s : State} {m : MethodId} {args : Array Value} {below : List Frame} {meth : Method} {c : Code} {A : Nat → Prop} {D : va_G} {g : pa_G} {q : Nat → Nat → Nat} {post : Int32 → pa_S → Prop} (hE : pa_Fx p s m args meth c A D g 5 cX6_lasts RX6) (hr : meth.sig.returnType = (some .int)) : ∀ (n : Nat) (u0 : pa_S) (x1 : Int32) (x2 : Int32) (x4 : Int32), wl_X6_lasts_45 post n u0 x1 x2 x4 → pa_At p l e (pa_rm 8) s m args below meth c (MQ below (pa_Qc g D q (fun r => some (.int r)) post A) args s 0 0 A) A D g 5 0 0 q u0 45 [(1, .int x1), (2, .int x2), (3, .ref (q 1 2)), (4, .int x4)] []
  | 0, _, _, _, _, hw => absurd hw (by simp only [wl_X6_lasts_45]; exact fun z => z)
  | n + 1, u0, x1, x2, x4, hw => tb_X6_lasts_45 hE hr (fun u0 x1 x2 x4  hw1 => tl_X6_lasts_45 hE hr  n u0 x1 x2 x4  hw1) hw
def wb_X6_lasts_0 (u0 : pa_S) (x1 : Int32) (x2 : Int32) (post : Int32 → pa_S → Prop) : Prop :=
  (wp_X3_has u0 0 x1 (fun (r1 : Int32) => (if r1 = 0 then post (-1 : Int32) u0 else (wp_X6_within u0 x2 0 999 (fun (r3 : Int32) => (if r3 = 0 then post (-2 : Int32) u0 else (wp_X3_become u0 2 0 (fun (u6 : pa_S) => wl_X6_lasts_45 post 5000 u6 x1 x2 0))))))))
set_option maxRecDepth 100000 in
set_option maxHeartbeats 4000000 in
theorem tb_X6_lasts_0 {p : Program} {l : Launch} {e : Env} {s : State} {m : MethodId} {args : Array Value} {below : List Frame} {meth : Method} {c : Code} {A : Nat → Prop} {D : va_G} {g : pa_G} {q : Nat → Nat → Nat} {u0 : pa_S} {x1 : Int32} {x2 : Int32} {post : Int32 → pa_S → Prop} (hE : pa_Fx p s m args meth c A D g 5 cX6_lasts RX6) (hr : meth.sig.returnType = (some .int)) (hw : wb_X6_lasts_0 u0 x1 x2 post) : pa_At p l e (pa_rm 8) s m args below meth c (MQ below (pa_Qc g D q (fun r => some (.int r)) post A) args s 0 0 A) A D g 5 0 0 q u0 0 [(0, .ref (q 0 0)), (1, .int x1), (2, .int x2)] [] := by
  refine pa_aload_n hE dX6_lasts_0 rfl 0 rfl ?_
  refine pg_0_0 hE (pa_m1 196 rfl rfl) dX6_lasts_1 ?_
  refine pa_iload_n hE dX6_lasts_4 rfl 1 rfl ?_
  refine pa_callVri hE (ct_X3_has l g D q u0 0 x1 _ (by decide) hw) cv_RX6_91 (pa_in1 (by decide)) rfl rfl rfl (pa_hR (by omega) (by decide)) rfl (Nat.le_of_ble_eq_true rfl) dX6_lasts_5 (fun r1 hw => ?_)
  refine pa_if_ne hE dX6_lasts_8 (tgt := 13) (by decide) (fun h2 => ?_) (fun h2 => ?_)
  · have hw := Eq.mp (if_neg h2) hw
    refine pa_iload_n hE dX6_lasts_13 rfl 2 rfl ?_
    refine pa_iconst hE dX6_lasts_14 (v := 0) (by decide) ?_
    refine pa_sipush hE dX6_lasts_15 (v := 999) (by decide) ?_
    refine pa_callSri hE (ct_X6_within l g D q u0 x2 0 999 _ hw) cs_RX6_79 rfl (pa_hR (by omega) (by decide)) rfl (Nat.le_of_ble_eq_true rfl) dX6_lasts_18 (fun r3 hw => ?_)
    refine pa_if_ne hE dX6_lasts_21 (tgt := 27) (by decide) (fun h4 => ?_) (fun h4 => ?_)
    · have hw := Eq.mp (if_neg h4) hw
      refine pa_aload_n hE dX6_lasts_27 rfl 0 rfl ?_
      refine pg_0_2 hE (pa_m1 198 rfl rfl) dX6_lasts_28 ?_
      refine pa_iconst hE dX6_lasts_31 (v := 0) (by decide) ?_
      refine pa_aaldS hE (by unfold vp_in; decide) (n := 2) (by decide) dX6_lasts_32 ?_
      refine pa_astore_n hE dX6_lasts_33 rfl (by decide) (lvr := [(0, .ref (q 0 0)), (1, .int x1), (2, .int x2)]) rfl ?_
      refine pa_aload_n hE dX6_lasts_34 rfl 0 rfl ?_
      refine pa_aload_n hE dX6_lasts_35 rfl 1 rfl ?_
      refine pg_0_0 hE (pa_m1 196 rfl rfl) dX6_lasts_36 ?_
      refine pa_callVv hE (ct_X3_become l g D q u0 2 0 _ (by decide) (by decide) hw) cv_RX6_194 (pa_in1 (by decide)) rfl rfl rfl (pa_hR (by omega) (by decide)) rfl (Nat.le_of_ble_eq_true rfl) dX6_lasts_39 (fun u6 hw => ?_)
      refine pa_iconst hE dX6_lasts_42 (v := 0) (by decide) ?_
      refine pa_istore hE dX6_lasts_43 (by decide) (lvr := [(3, .ref (q 1 2)), (0, .ref (q 0 0)), (1, .int x1), (2, .int x2)]) rfl ?_
      exact pa_sub [3, 4, 1, 0] rfl (tl_X6_lasts_45 hE hr 5000 u6 x1 x2 0 hw)
    · have hw := Eq.mp (if_pos h4) hw
      refine pa_bipush hE dX6_lasts_24 (v := (-2 : Int32)) (by decide) ?_
      exact pa_iret hE hr hw rfl dX6_lasts_26
  · have hw := Eq.mp (if_pos h2) hw
    refine pa_iconst hE dX6_lasts_11 (v := (-1 : Int32)) (by decide) ?_
    exact pa_iret hE hr hw rfl dX6_lasts_12
def wp_X6_lasts (u0 : pa_S) (x1 : Int32) (x2 : Int32) (post : Int32 → pa_S → Prop) : Prop := wb_X6_lasts_0 u0 x1 x2 post
theorem ct_X6_lasts (l : Launch) (g : pa_G) (D : va_G) (q : Nat → Nat → Nat) (u0 : pa_S) (x1 : Int32) (x2 : Int32) (post : Int32 → pa_S → Prop)  (hw : wp_X6_lasts u0 x1 x2 post) : pa_Ct l yX6_lasts cX6_lasts 5 (some .int) 8 g D q u0 [.ref (q 0 0), .int x1, .int x2] (fun r => some (.int r)) post := pa_met rfl rfl (Nat.le_of_ble_eq_true rfl) rfl (fun p e s m args below meth c A hE hr => tb_X6_lasts_0 hE hr  hw)
def wb_X6_pen_89 (k34 : pa_S → Int32 → Int32 → Int32 → Int32 → Int32 → Prop) (u0 : pa_S) (x1 : Int32) (x2 : Int32) (x3 : Int32) (x4 : Int32) (x5 : Int32) (post : Int32 → pa_S → Prop) : Prop :=
  ∀ v13 : Int32, v13 = x5 + 1 → k34 u0 x1 x2 x3 x4 v13
set_option maxRecDepth 100000 in
set_option maxHeartbeats 4000000 in
theorem tb_X6_pen_89 {p : Program} {l : Launch} {e : Env} {s : State} {m : MethodId} {args : Array Value} {below : List Frame} {meth : Method} {c : Code} {A : Nat → Prop} {D : va_G} {g : pa_G} {q : Nat → Nat → Nat} {k34 : pa_S → Int32 → Int32 → Int32 → Int32 → Int32 → Prop} {u0 : pa_S} {x1 : Int32} {x2 : Int32} {x3 : Int32} {x4 : Int32} {x5 : Int32} {post : Int32 → pa_S → Prop} (hE : pa_Fx p s m args meth c A D g 8 cX6_pen RX6) (hr : meth.sig.returnType = (some .int)) (hk34 : ∀ (u : pa_S)  (x1 : Int32) (x2 : Int32) (x3 : Int32) (x4 : Int32) (x5 : Int32), k34 u x1 x2 x3 x4 x5 → pa_At p l e (pa_rm 8) s m args below meth c (MQ below (pa_Qc g D q (fun r => some (.int r)) post A) args s 0 0 A) A D g 8 0 0 q u 34 [(0, .ref (q 0 0)), (1, .int x1), (2, .int x2), (3, .int x3), (4, .int x4), (5, .int x5)] []) (hw : wb_X6_pen_89 k34 u0 x1 x2 x3 x4 x5 post) : pa_At p l e (pa_rm 8) s m args below meth c (MQ below (pa_Qc g D q (fun r => some (.int r)) post A) args s 0 0 A) A D g 8 0 0 q u0 89 [(0, .ref (q 0 0)), (1, .int x1), (2, .int x2), (3, .int x3), (4, .int x4), (5, .int x5)] [] := by
  refine pa_iinc hE dX6_pen_89 (v := 1) 5 rfl (by decide) (by decide) (lvr := [(0, .ref (q 0 0)), (1, .int x1), (2, .int x2), (3, .int x3), (4, .int x4)]) rfl (fun v13 ev13 => ?_)
  have hw := hw v13 ev13
  refine pa_goto hE dX6_pen_92 (tgt := 34) (by decide) ?_
  exact pa_sub [1, 2, 3, 4, 5, 0] rfl (hk34 u0 x1 x2 x3 x4 v13 hw)
def wb_X6_pen_34 (k34 : pa_S → Int32 → Int32 → Int32 → Int32 → Int32 → Prop) (u0 : pa_S) (x1 : Int32) (x2 : Int32) (x3 : Int32) (x4 : Int32) (x5 : Int32) (post : Int32 → pa_S → Prop) : Prop :=
  (if 3 ≤ x5 then post x3 u0 else (wp_X3_become u0 2 0 (fun (u7 : pa_S) => (wp_X3_drawOn u7 2 x1 x5 x2 (fun (r8 : Int32) (u9 : pa_S) => (wp_X3_fortuneOf u9 2 x1 (fun (r10 : Int32) (u11 : pa_S) => (if r10 ≤ x4 then wb_X6_pen_89 k34 u11 x1 x2 x3 x4 x5 post else wb_X6_pen_89 k34 u11 x1 x2 x5 r10 x5 post))))))))
set_option maxRecDepth 100000 in
set_option maxHeartbeats 4000000 in
theorem tb_X6_pen_34 {p : Program} {l : Launch} {e : Env} {s : State} {m : MethodId} {args : Array Value} {below : List Frame} {meth : Method} {c : Code} {A : Nat → Prop} {D : va_G} {g : pa_G} {q : Nat → Nat → Nat} {k34 : pa_S → Int32 → Int32 → Int32 → Int32 → Int32 → Prop} {u0 : pa_S} {x1 : Int32} {x2 : Int32} {x3 : Int32} {x4 : Int32} {x5 : Int32} {post : Int32 → pa_S → Prop} (hE : pa_Fx p s m args meth c A D g 8 cX6_pen RX6) (hr : meth.sig.returnType = (some .int)) (hk34 : ∀ (u : pa_S)  (x1 : Int32) (x2 : Int32) (x3 : Int32) (x4 : Int32) (x5 : Int32), k34 u x1 x2 x3 x4 x5 → pa_At p l e (pa_rm 8) s m args below meth c (MQ below (pa_Qc g D q (fun r => some (.int r)) post A) args s 0 0 A) A D g 8 0 0 q u 34 [(0, .ref (q 0 0)), (1, .int x1), (2, .int x2), (3, .int x3), (4, .int x4), (5, .int x5)] []) (hw : wb_X6_pen_34 k34 u0 x1 x2 x3 x4 x5 post) : pa_At p l e (pa_rm 8) s m args below meth c (MQ below (pa_Qc g D q (fun r => some (.int r)) post A) args s 0 0 A) A D g 8 0 0 q u0 34 [(0, .ref (q 0 0)), (1, .int x1), (2, .int x2), (3, .int x3), (4, .int x4), (5, .int x5)] [] := by
  refine pa_iload hE dX6_pen_34 5 rfl ?_
  refine pa_iconst hE dX6_pen_36 (v := 3) (by decide) ?_
  refine pa_icmp_ge hE dX6_pen_37 (tgt := 95) (by decide) (fun h5 => ?_) (fun h5 => ?_)
  · have hw := Eq.mp (if_pos h5) hw
    refine pa_iload_n hE dX6_pen_95 rfl 3 rfl ?_
    exact pa_iret hE hr hw rfl dX6_pen_96
  · have hw := Eq.mp (if_neg h5) hw
    refine pa_aload_n hE dX6_pen_40 rfl 0 rfl ?_
    refine pg_0_2 hE (pa_m1 198 rfl rfl) dX6_pen_41 ?_
    refine pa_iconst hE dX6_pen_44 (v := 0) (by decide) ?_
    refine pa_aaldS hE (by unfold vp_in; decide) (n := 2) (by decide) dX6_pen_45 ?_
    refine pa_astore hE dX6_pen_46 (by decide) (lvr := [(0, .ref (q 0 0)), (1, .int x1), (2, .int x2), (3, .int x3), (4, .int x4), (5, .int x5)]) rfl ?_
    refine pa_aload hE dX6_pen_48 0 rfl ?_
    refine pa_aload_n hE dX6_pen_50 rfl 1 rfl ?_
    refine pg_0_0 hE (pa_m1 196 rfl rfl) dX6_pen_51 ?_
    refine pa_callVv hE (ct_X3_become l g D q u0 2 0 _ (by decide) (by decide) hw) cv_RX6_194 (pa_in1 (by decide)) rfl rfl rfl (pa_hR (by omega) (by decide)) rfl (Nat.le_of_ble_eq_true rfl) dX6_pen_54 (fun u7 hw => ?_)
    refine pa_aload hE dX6_pen_57 0 rfl ?_
    refine pa_iload_n hE dX6_pen_59 rfl 2 rfl ?_
    refine pa_iload hE dX6_pen_60 6 rfl ?_
    refine pa_iload_n hE dX6_pen_62 rfl 3 rfl ?_
    refine pa_callVi hE (ct_X3_drawOn l g D q u7 2 x1 x5 x2 _ (by decide) hw) cv_RX6_144 (pa_in1 (by decide)) rfl rfl rfl (pa_hR (by omega) (by decide)) rfl (Nat.le_of_ble_eq_true rfl) dX6_pen_63 (fun r8 u9 hw => ?_)
    refine pa_pop hE dX6_pen_66 rfl ?_
    refine pa_aload hE dX6_pen_67 0 rfl ?_
    refine pa_iload_n hE dX6_pen_69 rfl 2 rfl ?_
    refine pa_callVi hE (ct_X3_fortuneOf l g D q u9 2 x1 _ (by decide) hw) cv_RX6_105 (pa_in1 (by decide)) rfl rfl rfl (pa_hR (by omega) (by decide)) rfl (Nat.le_of_ble_eq_true rfl) dX6_pen_70 (fun r10 u11 hw => ?_)
    refine pa_istore hE dX6_pen_73 (by decide) (lvr := [(6, .ref (q 1 2)), (0, .ref (q 0 0)), (1, .int x1), (2, .int x2), (3, .int x3), (4, .int x4), (5, .int x5)]) rfl ?_
    refine pa_iload hE dX6_pen_75 0 rfl ?_
    refine pa_iload hE dX6_pen_77 6 rfl ?_
    refine pa_icmp_le hE dX6_pen_79 (tgt := 89) (by decide) (fun h12 => ?_) (fun h12 => ?_)
    · have hw := Eq.mp (if_pos h12) hw
      exact pa_sub [2, 3, 4, 5, 6, 7] rfl (tb_X6_pen_89 hE hr hk34 hw)
    · have hw := Eq.mp (if_neg h12) hw
      refine pa_iload hE dX6_pen_82 0 rfl ?_
      refine pa_istore hE dX6_pen_84 (by decide) (lvr := [(7, .int r10), (6, .ref (q 1 2)), (0, .ref (q 0 0)), (1, .int x1), (2, .int x2), (3, .int x3), (5, .int x5)]) rfl ?_
      refine pa_iload hE dX6_pen_86 7 rfl ?_
      refine pa_istore_n hE dX6_pen_88 rfl (by decide) (lvr := [(4, .int r10), (7, .int r10), (6, .ref (q 1 2)), (0, .ref (q 0 0)), (1, .int x1), (2, .int x2), (5, .int x5)]) rfl ?_
      exact pa_sub [4, 5, 6, 0, 1, 7] rfl (tb_X6_pen_89 hE hr hk34 hw)
def wl_X6_pen_34 (post : Int32 → pa_S → Prop) : Nat → pa_S → Int32 → Int32 → Int32 → Int32 → Int32 → Prop
  | 0, _, _, _, _, _, _ => False
  | n + 1, u0, x1, x2, x3, x4, x5 => wb_X6_pen_34 (fun u0 x1 x2 x3 x4 x5 => wl_X6_pen_34 post n u0 x1 x2 x3 x4 x5) u0 x1 x2 x3 x4 x5 post
set_option maxRecDepth 100000 in
set_option maxHeartbeats 4000000 in
theorem tl_X6_pen_34 {p : Program} {l : Launch} {e : Env} {s : State} {m : MethodId} {args : Array Value} {below : List Frame} {meth : Method} {c : Code} {A : Nat → Prop} {D : va_G} {g : pa_G} {q : Nat → Nat → Nat} {post : Int32 → pa_S → Prop} (hE : pa_Fx p s m args meth c A D g 8 cX6_pen RX6) (hr : meth.sig.returnType = (some .int)) : ∀ (n : Nat) (u0 : pa_S) (x1 : Int32) (x2 : Int32) (x3 : Int32) (x4 : Int32) (x5 : Int32), wl_X6_pen_34 post n u0 x1 x2 x3 x4 x5 → pa_At p l e (pa_rm 8) s m args below meth c (MQ below (pa_Qc g D q (fun r => some (.int r)) post A) args s 0 0 A) A D g 8 0 0 q u0 34 [(0, .ref (q 0 0)), (1, .int x1), (2, .int x2), (3, .int x3), (4, .int x4), (5, .int x5)] []
  | 0, _, _, _, _, _, _, hw => absurd hw (by simp only [wl_X6_pen_34]; exact fun z => z)
  | n + 1, u0, x1, x2, x3, x4, x5, hw => tb_X6_pen_34 hE hr (fun u0 x1 x2 x3 x4 x5  hw1 => tl_X6_pen_34 hE hr  n u0 x1 x2 x3 x4 x5  hw1) hw
def wb_X6_pen_0 (u0 : pa_S) (x1 : Int32) (x2 : Int32) (post : Int32 → pa_S → Prop) : Prop :=
  (wp_X3_has u0 0 x1 (fun (r1 : Int32) => (if r1 = 0 then post (-1 : Int32) u0 else (wp_X6_within u0 x2 1 9 (fun (r3 : Int32) => (if r3 = 0 then post (-2 : Int32) u0 else wl_X6_pen_34 post 5000 u0 x1 x2 0 (-1 : Int32) 0))))))
set_option maxRecDepth 100000 in
set_option maxHeartbeats 4000000 in
theorem tb_X6_pen_0 {p : Program} {l : Launch} {e : Env} {s : State} {m : MethodId} {args : Array Value} {below : List Frame} {meth : Method} {c : Code} {A : Nat → Prop} {D : va_G} {g : pa_G} {q : Nat → Nat → Nat} {u0 : pa_S} {x1 : Int32} {x2 : Int32} {post : Int32 → pa_S → Prop} (hE : pa_Fx p s m args meth c A D g 8 cX6_pen RX6) (hr : meth.sig.returnType = (some .int)) (hw : wb_X6_pen_0 u0 x1 x2 post) : pa_At p l e (pa_rm 8) s m args below meth c (MQ below (pa_Qc g D q (fun r => some (.int r)) post A) args s 0 0 A) A D g 8 0 0 q u0 0 [(0, .ref (q 0 0)), (1, .int x1), (2, .int x2)] [] := by
  refine pa_aload_n hE dX6_pen_0 rfl 0 rfl ?_
  refine pg_0_0 hE (pa_m1 196 rfl rfl) dX6_pen_1 ?_
  refine pa_iload_n hE dX6_pen_4 rfl 1 rfl ?_
  refine pa_callVri hE (ct_X3_has l g D q u0 0 x1 _ (by decide) hw) cv_RX6_91 (pa_in1 (by decide)) rfl rfl rfl (pa_hR (by omega) (by decide)) rfl (Nat.le_of_ble_eq_true rfl) dX6_pen_5 (fun r1 hw => ?_)
  refine pa_if_ne hE dX6_pen_8 (tgt := 13) (by decide) (fun h2 => ?_) (fun h2 => ?_)
  · have hw := Eq.mp (if_neg h2) hw
    refine pa_iload_n hE dX6_pen_13 rfl 2 rfl ?_
    refine pa_iconst hE dX6_pen_14 (v := 1) (by decide) ?_
    refine pa_bipush hE dX6_pen_15 (v := 9) (by decide) ?_
    refine pa_callSri hE (ct_X6_within l g D q u0 x2 1 9 _ hw) cs_RX6_79 rfl (pa_hR (by omega) (by decide)) rfl (Nat.le_of_ble_eq_true rfl) dX6_pen_17 (fun r3 hw => ?_)
    refine pa_if_ne hE dX6_pen_20 (tgt := 26) (by decide) (fun h4 => ?_) (fun h4 => ?_)
    · have hw := Eq.mp (if_neg h4) hw
      refine pa_iconst hE dX6_pen_26 (v := 0) (by decide) ?_
      refine pa_istore_n hE dX6_pen_27 rfl (by decide) (lvr := [(0, .ref (q 0 0)), (1, .int x1), (2, .int x2)]) rfl ?_
      refine pa_iconst hE dX6_pen_28 (v := (-1 : Int32)) (by decide) ?_
      refine pa_istore hE dX6_pen_29 (by decide) (lvr := [(3, .int 0), (0, .ref (q 0 0)), (1, .int x1), (2, .int x2)]) rfl ?_
      refine pa_iconst hE dX6_pen_31 (v := 0) (by decide) ?_
      refine pa_istore hE dX6_pen_32 (by decide) (lvr := [(4, .int (-1 : Int32)), (3, .int 0), (0, .ref (q 0 0)), (1, .int x1), (2, .int x2)]) rfl ?_
      exact pa_sub [3, 4, 5, 2, 1, 0] rfl (tl_X6_pen_34 hE hr 5000 u0 x1 x2 0 (-1 : Int32) 0 hw)
    · have hw := Eq.mp (if_pos h4) hw
      refine pa_bipush hE dX6_pen_23 (v := (-2 : Int32)) (by decide) ?_
      exact pa_iret hE hr hw rfl dX6_pen_25
  · have hw := Eq.mp (if_pos h2) hw
    refine pa_iconst hE dX6_pen_11 (v := (-1 : Int32)) (by decide) ?_
    exact pa_iret hE hr hw rfl dX6_pen_12
def wp_X6_pen (u0 : pa_S) (x1 : Int32) (x2 : Int32) (post : Int32 → pa_S → Prop) : Prop := wb_X6_pen_0 u0 x1 x2 post
theorem ct_X6_pen (l : Launch) (g : pa_G) (D : va_G) (q : Nat → Nat → Nat) (u0 : pa_S) (x1 : Int32) (x2 : Int32) (post : Int32 → pa_S → Prop)  (hw : wp_X6_pen u0 x1 x2 post) : pa_Ct l yX6_pen cX6_pen 8 (some .int) 8 g D q u0 [.ref (q 0 0), .int x1, .int x2] (fun r => some (.int r)) post := pa_met rfl rfl (Nat.le_of_ble_eq_true rfl) rfl (fun p e s m args below meth c A hE hr => tb_X6_pen_0 hE hr  hw)
def wb_X6_ifDrawn_0 (u0 : pa_S) (x1 : Int32) (x2 : Int32) (x3 : Int32) (x4 : Int32) (post : pa_S → Prop) : Prop :=
  (wp_X3_become u0 2 0 (fun (u2 : pa_S) => (wp_X3_drawOn u2 2 x1 0 x2 (fun (r3 : Int32) (u4 : pa_S) => (wp_X3_drawOn u4 2 x1 1 x3 (fun (r5 : Int32) (u6 : pa_S) => (wp_X3_drawOn u6 2 x1 2 x4 (fun (r7 : Int32) (u8 : pa_S) => post u8))))))))
set_option maxRecDepth 100000 in
set_option maxHeartbeats 4000000 in
theorem tb_X6_ifDrawn_0 {p : Program} {l : Launch} {e : Env} {s : State} {m : MethodId} {args : Array Value} {below : List Frame} {meth : Method} {c : Code} {A : Nat → Prop} {D : va_G} {g : pa_G} {q : Nat → Nat → Nat} {u0 : pa_S} {x1 : Int32} {x2 : Int32} {x3 : Int32} {x4 : Int32} {post : pa_S → Prop} (hE : pa_Fx p s m args meth c A D g 6 cX6_ifDrawn RX6) (hr : meth.sig.returnType = (some (.object "PalmsAltered$Scene"))) (hw : wb_X6_ifDrawn_0 u0 x1 x2 x3 x4 post) : pa_At p l e (pa_rm 6) s m args below meth c (MQ below (pa_Qc g D q (fun (_ : Unit) => some (.ref (q 1 2))) (fun (_ : Unit) u => post u) A) args s 0 0 A) A D g 6 0 0 q u0 0 [(0, .ref (q 0 0)), (1, .int x1), (2, .int x2), (3, .int x3), (4, .int x4)] [] := by
  refine pa_aload_n hE dX6_ifDrawn_0 rfl 0 rfl ?_
  refine pg_0_2 hE (pa_m1 198 rfl rfl) dX6_ifDrawn_1 ?_
  refine pa_iconst hE dX6_ifDrawn_4 (v := 0) (by decide) ?_
  refine pa_aaldS hE (by unfold vp_in; decide) (n := 2) (by decide) dX6_ifDrawn_5 ?_
  refine pa_astore hE dX6_ifDrawn_6 (by decide) (lvr := [(0, .ref (q 0 0)), (1, .int x1), (2, .int x2), (3, .int x3), (4, .int x4)]) rfl ?_
  refine pa_aload hE dX6_ifDrawn_8 0 rfl ?_
  refine pa_aload_n hE dX6_ifDrawn_10 rfl 1 rfl ?_
  refine pg_0_0 hE (pa_m1 196 rfl rfl) dX6_ifDrawn_11 ?_
  refine pa_callVv hE (ct_X3_become l g D q u0 2 0 _ (by decide) (by decide) hw) cv_RX6_194 (pa_in1 (by decide)) rfl rfl rfl (pa_hR (by omega) (by decide)) rfl (Nat.le_of_ble_eq_true rfl) dX6_ifDrawn_14 (fun u2 hw => ?_)
  refine pa_aload hE dX6_ifDrawn_17 0 rfl ?_
  refine pa_iload_n hE dX6_ifDrawn_19 rfl 2 rfl ?_
  refine pa_iconst hE dX6_ifDrawn_20 (v := 0) (by decide) ?_
  refine pa_iload_n hE dX6_ifDrawn_21 rfl 3 rfl ?_
  refine pa_callVi hE (ct_X3_drawOn l g D q u2 2 x1 0 x2 _ (by decide) hw) cv_RX6_144 (pa_in1 (by decide)) rfl rfl rfl (pa_hR (by omega) (by decide)) rfl (Nat.le_of_ble_eq_true rfl) dX6_ifDrawn_22 (fun r3 u4 hw => ?_)
  refine pa_pop hE dX6_ifDrawn_25 rfl ?_
  refine pa_aload hE dX6_ifDrawn_26 0 rfl ?_
  refine pa_iload_n hE dX6_ifDrawn_28 rfl 2 rfl ?_
  refine pa_iconst hE dX6_ifDrawn_29 (v := 1) (by decide) ?_
  refine pa_iload_n hE dX6_ifDrawn_30 rfl 4 rfl ?_
  refine pa_callVi hE (ct_X3_drawOn l g D q u4 2 x1 1 x3 _ (by decide) hw) cv_RX6_144 (pa_in1 (by decide)) rfl rfl rfl (pa_hR (by omega) (by decide)) rfl (Nat.le_of_ble_eq_true rfl) dX6_ifDrawn_31 (fun r5 u6 hw => ?_)
  refine pa_pop hE dX6_ifDrawn_34 rfl ?_
  refine pa_aload hE dX6_ifDrawn_35 0 rfl ?_
  refine pa_iload_n hE dX6_ifDrawn_37 rfl 2 rfl ?_
  refine pa_iconst hE dX6_ifDrawn_38 (v := 2) (by decide) ?_
  refine pa_iload hE dX6_ifDrawn_39 5 rfl ?_
  refine pa_callVi hE (ct_X3_drawOn l g D q u6 2 x1 2 x4 _ (by decide) hw) cv_RX6_144 (pa_in1 (by decide)) rfl rfl rfl (pa_hR (by omega) (by decide)) rfl (Nat.le_of_ble_eq_true rfl) dX6_ifDrawn_41 (fun r7 u8 hw => ?_)
  refine pa_pop hE dX6_ifDrawn_44 rfl ?_
  refine pa_aload hE dX6_ifDrawn_45 0 rfl ?_
  exact pa_aret (r := ()) hE hr hw rfl dX6_ifDrawn_47
def wp_X6_ifDrawn (u0 : pa_S) (x1 : Int32) (x2 : Int32) (x3 : Int32) (x4 : Int32) (post : pa_S → Prop) : Prop := wb_X6_ifDrawn_0 u0 x1 x2 x3 x4 post
theorem ct_X6_ifDrawn (l : Launch) (g : pa_G) (D : va_G) (q : Nat → Nat → Nat) (u0 : pa_S) (x1 : Int32) (x2 : Int32) (x3 : Int32) (x4 : Int32) (post : pa_S → Prop)  (hw : wp_X6_ifDrawn u0 x1 x2 x3 x4 post) : pa_Ct l yX6_ifDrawn cX6_ifDrawn 6 (some (.object "PalmsAltered$Scene")) 6 g D q u0 [.ref (q 0 0), .int x1, .int x2, .int x3, .int x4] (fun (_ : Unit) => some (.ref (q 1 2))) (fun (_ : Unit) u => post u) := pa_met rfl rfl (Nat.le_of_ble_eq_true rfl) rfl (fun p e s m args below meth c A hE hr => tb_X6_ifDrawn_0 hE hr  hw)
def wb_X6_share_120 (k44 : pa_S → Int32 → Int32 → Int32 → Int32 → Int32 → Int32 → Prop) (k55 : pa_S → Int32 → Int32 → Int32 → Int32 → Int32 → Int32 → Int32 → Prop) (u0 : pa_S) (x1 : Int32) (x2 : Int32) (x3 : Int32) (x4 : Int32) (x5 : Int32) (x6 : Int32) (x7 : Int32) (post : Int32 → pa_S → Prop) : Prop :=
  ∀ v18 : Int32, v18 = x7 + (-1 : Int32) → k55 u0 x1 x2 x3 x4 x5 x6 v18
set_option maxRecDepth 100000 in
set_option maxHeartbeats 4000000 in
theorem tb_X6_share_120 {p : Program} {l : Launch} {e : Env} {s : State} {m : MethodId} {args : Array Value} {below : List Frame} {meth : Method} {c : Code} {A : Nat → Prop} {D : va_G} {g : pa_G} {q : Nat → Nat → Nat} {k44 : pa_S → Int32 → Int32 → Int32 → Int32 → Int32 → Int32 → Prop} {k55 : pa_S → Int32 → Int32 → Int32 → Int32 → Int32 → Int32 → Int32 → Prop} {u0 : pa_S} {x1 : Int32} {x2 : Int32} {x3 : Int32} {x4 : Int32} {x5 : Int32} {x6 : Int32} {x7 : Int32} {post : Int32 → pa_S → Prop} (hE : pa_Fx p s m args meth c A D g 10 cX6_share RX6) (hr : meth.sig.returnType = (some .int)) (hk44 : ∀ (u : pa_S)  (x1 : Int32) (x2 : Int32) (x3 : Int32) (x4 : Int32) (x5 : Int32) (x6 : Int32), k44 u x1 x2 x3 x4 x5 x6 → pa_At p l e (pa_rm 8) s m args below meth c (MQ below (pa_Qc g D q (fun r => some (.int r)) post A) args s 0 0 A) A D g 10 0 0 q u 44 [(0, .ref (q 0 0)), (1, .int x1), (2, .int x2), (3, .int x3), (4, .int x4), (5, .int x5), (6, .int x6)] []) (hk55 : ∀ (u : pa_S)  (x1 : Int32) (x2 : Int32) (x3 : Int32) (x4 : Int32) (x5 : Int32) (x6 : Int32) (x7 : Int32), k55 u x1 x2 x3 x4 x5 x6 x7 → pa_At p l e (pa_rm 8) s m args below meth c (MQ below (pa_Qc g D q (fun r => some (.int r)) post A) args s 0 0 A) A D g 10 0 0 q u 55 [(0, .ref (q 0 0)), (1, .int x1), (2, .int x2), (3, .int x3), (4, .int x4), (5, .int x5), (6, .int x6), (7, .int x7)] []) (hw : wb_X6_share_120 k44 k55 u0 x1 x2 x3 x4 x5 x6 x7 post) : pa_At p l e (pa_rm 8) s m args below meth c (MQ below (pa_Qc g D q (fun r => some (.int r)) post A) args s 0 0 A) A D g 10 0 0 q u0 120 [(0, .ref (q 0 0)), (1, .int x1), (2, .int x2), (3, .int x3), (4, .int x4), (5, .int x5), (6, .int x6), (7, .int x7)] [] := by
  refine pa_iinc hE dX6_share_120 (v := (-1 : Int32)) 7 rfl (by decide) (by decide) (lvr := [(0, .ref (q 0 0)), (1, .int x1), (2, .int x2), (3, .int x3), (4, .int x4), (5, .int x5), (6, .int x6)]) rfl (fun v18 ev18 => ?_)
  have hw := hw v18 ev18
  refine pa_goto hE dX6_share_123 (tgt := 55) (by decide) ?_
  exact pa_sub [1, 2, 3, 4, 5, 6, 7, 0] rfl (hk55 u0 x1 x2 x3 x4 x5 x6 v18 hw)
def wb_X6_share_118 (k44 : pa_S → Int32 → Int32 → Int32 → Int32 → Int32 → Int32 → Prop) (k55 : pa_S → Int32 → Int32 → Int32 → Int32 → Int32 → Int32 → Int32 → Prop) (u0 : pa_S) (x1 : Int32) (x2 : Int32) (x3 : Int32) (x4 : Int32) (x6 : Int32) (x7 : Int32) (y0 : Int32) (post : Int32 → pa_S → Prop) : Prop :=
  wb_X6_share_120 k44 k55 u0 x1 x2 x3 x4 y0 x6 x7 post
set_option maxRecDepth 100000 in
set_option maxHeartbeats 4000000 in
theorem tb_X6_share_118 {p : Program} {l : Launch} {e : Env} {s : State} {m : MethodId} {args : Array Value} {below : List Frame} {meth : Method} {c : Code} {A : Nat → Prop} {D : va_G} {g : pa_G} {q : Nat → Nat → Nat} {k44 : pa_S → Int32 → Int32 → Int32 → Int32 → Int32 → Int32 → Prop} {k55 : pa_S → Int32 → Int32 → Int32 → Int32 → Int32 → Int32 → Int32 → Prop} {u0 : pa_S} {x1 : Int32} {x2 : Int32} {x3 : Int32} {x4 : Int32} {x6 : Int32} {x7 : Int32} {y0 : Int32} {post : Int32 → pa_S → Prop} (hE : pa_Fx p s m args meth c A D g 10 cX6_share RX6) (hr : meth.sig.returnType = (some .int)) (hk44 : ∀ (u : pa_S)  (x1 : Int32) (x2 : Int32) (x3 : Int32) (x4 : Int32) (x5 : Int32) (x6 : Int32), k44 u x1 x2 x3 x4 x5 x6 → pa_At p l e (pa_rm 8) s m args below meth c (MQ below (pa_Qc g D q (fun r => some (.int r)) post A) args s 0 0 A) A D g 10 0 0 q u 44 [(0, .ref (q 0 0)), (1, .int x1), (2, .int x2), (3, .int x3), (4, .int x4), (5, .int x5), (6, .int x6)] []) (hk55 : ∀ (u : pa_S)  (x1 : Int32) (x2 : Int32) (x3 : Int32) (x4 : Int32) (x5 : Int32) (x6 : Int32) (x7 : Int32), k55 u x1 x2 x3 x4 x5 x6 x7 → pa_At p l e (pa_rm 8) s m args below meth c (MQ below (pa_Qc g D q (fun r => some (.int r)) post A) args s 0 0 A) A D g 10 0 0 q u 55 [(0, .ref (q 0 0)), (1, .int x1), (2, .int x2), (3, .int x3), (4, .int x4), (5, .int x5), (6, .int x6), (7, .int x7)] []) (hw : wb_X6_share_118 k44 k55 u0 x1 x2 x3 x4 x6 x7 y0 post) : pa_At p l e (pa_rm 8) s m args below meth c (MQ below (pa_Qc g D q (fun r => some (.int r)) post A) args s 0 0 A) A D g 10 0 0 q u0 118 [(0, .ref (q 0 0)), (1, .int x1), (2, .int x2), (3, .int x3), (4, .int x4), (6, .int x6), (7, .int x7)] [.int y0] := by
  refine pa_istore hE dX6_share_118 (by decide) (lvr := [(0, .ref (q 0 0)), (1, .int x1), (2, .int x2), (3, .int x3), (4, .int x4), (6, .int x6), (7, .int x7)]) rfl ?_
  exact pa_sub [1, 2, 3, 4, 5, 0, 6, 7] rfl (tb_X6_share_120 hE hr hk44 hk55 hw)
def wb_X6_share_55 (k44 : pa_S → Int32 → Int32 → Int32 → Int32 → Int32 → Int32 → Prop) (k55 : pa_S → Int32 → Int32 → Int32 → Int32 → Int32 → Int32 → Int32 → Prop) (u0 : pa_S) (x1 : Int32) (x2 : Int32) (x3 : Int32) (x4 : Int32) (x5 : Int32) (x6 : Int32) (x7 : Int32) (post : Int32 → pa_S → Prop) : Prop :=
  (if x7 < 0 then ∀ v11 : Int32, v11 = x6 + (-1 : Int32) → k44 u0 x1 x2 x3 x4 x5 v11 else ∀ v12 : Int32, v12 = ((x2 - x6) - x7) → (wp_X6_ifDrawn u0 x1 x6 x7 v12 (fun (u14 : pa_S) => (wp_X3_fortuneOf u14 2 x1 (fun (r15 : Int32) (u16 : pa_S) => (if r15 ≤ x4 then wb_X6_share_120 k44 k55 u16 x1 x2 x3 x4 x5 x6 x7 post else (if x3 = 0 then wb_X6_share_118 k44 k55 u16 x1 x2 x3 r15 x6 x7 x6 post else (if x3 = 1 then wb_X6_share_118 k44 k55 u16 x1 x2 x3 r15 x6 x7 x7 post else wb_X6_share_118 k44 k55 u16 x1 x2 x3 r15 x6 x7 v12 post))))))))
set_option maxRecDepth 100000 in
set_option maxHeartbeats 4000000 in
theorem tb_X6_share_55 {p : Program} {l : Launch} {e : Env} {s : State} {m : MethodId} {args : Array Value} {below : List Frame} {meth : Method} {c : Code} {A : Nat → Prop} {D : va_G} {g : pa_G} {q : Nat → Nat → Nat} {k44 : pa_S → Int32 → Int32 → Int32 → Int32 → Int32 → Int32 → Prop} {k55 : pa_S → Int32 → Int32 → Int32 → Int32 → Int32 → Int32 → Int32 → Prop} {u0 : pa_S} {x1 : Int32} {x2 : Int32} {x3 : Int32} {x4 : Int32} {x5 : Int32} {x6 : Int32} {x7 : Int32} {post : Int32 → pa_S → Prop} (hE : pa_Fx p s m args meth c A D g 10 cX6_share RX6) (hr : meth.sig.returnType = (some .int)) (hk44 : ∀ (u : pa_S)  (x1 : Int32) (x2 : Int32) (x3 : Int32) (x4 : Int32) (x5 : Int32) (x6 : Int32), k44 u x1 x2 x3 x4 x5 x6 → pa_At p l e (pa_rm 8) s m args below meth c (MQ below (pa_Qc g D q (fun r => some (.int r)) post A) args s 0 0 A) A D g 10 0 0 q u 44 [(0, .ref (q 0 0)), (1, .int x1), (2, .int x2), (3, .int x3), (4, .int x4), (5, .int x5), (6, .int x6)] []) (hk55 : ∀ (u : pa_S)  (x1 : Int32) (x2 : Int32) (x3 : Int32) (x4 : Int32) (x5 : Int32) (x6 : Int32) (x7 : Int32), k55 u x1 x2 x3 x4 x5 x6 x7 → pa_At p l e (pa_rm 8) s m args below meth c (MQ below (pa_Qc g D q (fun r => some (.int r)) post A) args s 0 0 A) A D g 10 0 0 q u 55 [(0, .ref (q 0 0)), (1, .int x1), (2, .int x2), (3, .int x3), (4, .int x4), (5, .int x5), (6, .int x6), (7, .int x7)] []) (hw : wb_X6_share_55 k44 k55 u0 x1 x2 x3 x4 x5 x6 x7 post) : pa_At p l e (pa_rm 8) s m args below meth c (MQ below (pa_Qc g D q (fun r => some (.int r)) post A) args s 0 0 A) A D g 10 0 0 q u0 55 [(0, .ref (q 0 0)), (1, .int x1), (2, .int x2), (3, .int x3), (4, .int x4), (5, .int x5), (6, .int x6), (7, .int x7)] [] := by
  refine pa_iload hE dX6_share_55 7 rfl ?_
  refine pa_if_lt hE dX6_share_57 (tgt := 126) (by decide) (fun h10 => ?_) (fun h10 => ?_)
  · have hw := Eq.mp (if_pos h10) hw
    refine pa_iinc hE dX6_share_126 (v := (-1 : Int32)) 6 rfl (by decide) (by decide) (lvr := [(0, .ref (q 0 0)), (1, .int x1), (2, .int x2), (3, .int x3), (4, .int x4), (5, .int x5), (7, .int x7)]) rfl (fun v11 ev11 => ?_)
    have hw := hw v11 ev11
    refine pa_goto hE dX6_share_129 (tgt := 44) (by decide) ?_
    exact pa_sub [1, 2, 3, 4, 5, 6, 0] rfl (hk44 u0 x1 x2 x3 x4 x5 v11 hw)
  · have hw := Eq.mp (if_neg h10) hw
    refine pa_iload_n hE dX6_share_60 rfl 2 rfl ?_
    refine pa_iload hE dX6_share_61 6 rfl ?_
    refine pa_isub hE dX6_share_63 ?_
    refine pa_iload hE dX6_share_64 7 rfl ?_
    refine pa_isub hE dX6_share_66 ?_
    refine pa_namei (fun v12 ev12 => ?_)
    have hw := hw v12 ev12
    refine pa_istore hE dX6_share_67 (by decide) (lvr := [(0, .ref (q 0 0)), (1, .int x1), (2, .int x2), (3, .int x3), (4, .int x4), (5, .int x5), (6, .int x6), (7, .int x7)]) rfl ?_
    refine pa_aload_n hE dX6_share_69 rfl 1 rfl ?_
    refine pa_iload_n hE dX6_share_70 rfl 2 rfl ?_
    refine pa_iload hE dX6_share_71 7 rfl ?_
    refine pa_iload hE dX6_share_73 8 rfl ?_
    refine pa_iload hE dX6_share_75 0 rfl ?_
    refine pa_callVa hE (ct_X6_ifDrawn l g D q u0 x1 x6 x7 v12 _ hw) cv_RX6_198 pa_in0 rfl rfl rfl (pa_hR (by omega) (by decide)) rfl (Nat.le_of_ble_eq_true rfl) dX6_share_77 (fun u14 hw => ?_)
    refine pa_iload_n hE dX6_share_80 rfl 2 rfl ?_
    refine pa_callVi hE (ct_X3_fortuneOf l g D q u14 2 x1 _ (by decide) hw) cv_RX6_105 (pa_in1 (by decide)) rfl rfl rfl (pa_hR (by omega) (by decide)) rfl (Nat.le_of_ble_eq_true rfl) dX6_share_81 (fun r15 u16 hw => ?_)
    refine pa_istore hE dX6_share_84 (by decide) (lvr := [(8, .int v12), (0, .ref (q 0 0)), (1, .int x1), (2, .int x2), (3, .int x3), (4, .int x4), (5, .int x5), (6, .int x6), (7, .int x7)]) rfl ?_
    refine pa_iload hE dX6_share_86 0 rfl ?_
    refine pa_iload hE dX6_share_88 6 rfl ?_
    refine pa_icmp_le hE dX6_share_90 (tgt := 120) (by decide) (fun h17 => ?_) (fun h17 => ?_)
    · have hw := Eq.mp (if_pos h17) hw
      exact pa_sub [2, 3, 4, 5, 6, 7, 8, 9] rfl (tb_X6_share_120 hE hr hk44 hk55 hw)
    · have hw := Eq.mp (if_neg h17) hw
      refine pa_iload hE dX6_share_93 0 rfl ?_
      refine pa_istore hE dX6_share_95 (by decide) (lvr := [(9, .int r15), (8, .int v12), (0, .ref (q 0 0)), (1, .int x1), (2, .int x2), (3, .int x3), (5, .int x5), (6, .int x6), (7, .int x7)]) rfl ?_
      refine pa_iload_n hE dX6_share_97 rfl 6 rfl ?_
      refine pa_if_ne hE dX6_share_98 (tgt := 106) (by decide) (fun h19 => ?_) (fun h19 => ?_)
      · have hw := Eq.mp (if_neg h19) hw
        refine pa_iload_n hE dX6_share_106 rfl 6 rfl ?_
        refine pa_iconst hE dX6_share_107 (v := 1) (by decide) ?_
        refine pa_icmp_ne hE dX6_share_108 (tgt := 116) (by decide) (fun h20 => ?_) (fun h20 => ?_)
        · have hw := Eq.mp (if_neg h20) hw
          refine pa_iload hE dX6_share_116 2 rfl ?_
          exact pa_sub [3, 4, 5, 6, 0, 8, 9] rfl (tb_X6_share_118 hE hr hk44 hk55 hw)
        · have hw := Eq.mp (if_pos h20) hw
          refine pa_iload hE dX6_share_111 9 rfl ?_
          refine pa_goto hE dX6_share_113 (tgt := 118) (by decide) ?_
          exact pa_sub [3, 4, 5, 6, 0, 8, 9] rfl (tb_X6_share_118 hE hr hk44 hk55 hw)
      · have hw := Eq.mp (if_pos h19) hw
        refine pa_iload hE dX6_share_101 8 rfl ?_
        refine pa_goto hE dX6_share_103 (tgt := 118) (by decide) ?_
        exact pa_sub [3, 4, 5, 6, 0, 8, 9] rfl (tb_X6_share_118 hE hr hk44 hk55 hw)
def wl_X6_share_55 (k44 : pa_S → Int32 → Int32 → Int32 → Int32 → Int32 → Int32 → Prop) (post : Int32 → pa_S → Prop) : Nat → pa_S → Int32 → Int32 → Int32 → Int32 → Int32 → Int32 → Int32 → Prop
  | 0, _, _, _, _, _, _, _, _ => False
  | n + 1, u0, x1, x2, x3, x4, x5, x6, x7 => wb_X6_share_55 k44 (fun u0 x1 x2 x3 x4 x5 x6 x7 => wl_X6_share_55 k44 post n u0 x1 x2 x3 x4 x5 x6 x7) u0 x1 x2 x3 x4 x5 x6 x7 post
set_option maxRecDepth 100000 in
set_option maxHeartbeats 4000000 in
theorem tl_X6_share_55 {p : Program} {l : Launch} {e : Env} {s : State} {m : MethodId} {args : Array Value} {below : List Frame} {meth : Method} {c : Code} {A : Nat → Prop} {D : va_G} {g : pa_G} {q : Nat → Nat → Nat} {k44 : pa_S → Int32 → Int32 → Int32 → Int32 → Int32 → Int32 → Prop} {post : Int32 → pa_S → Prop} (hE : pa_Fx p s m args meth c A D g 10 cX6_share RX6) (hr : meth.sig.returnType = (some .int)) (hk44 : ∀ (u : pa_S)  (x1 : Int32) (x2 : Int32) (x3 : Int32) (x4 : Int32) (x5 : Int32) (x6 : Int32), k44 u x1 x2 x3 x4 x5 x6 → pa_At p l e (pa_rm 8) s m args below meth c (MQ below (pa_Qc g D q (fun r => some (.int r)) post A) args s 0 0 A) A D g 10 0 0 q u 44 [(0, .ref (q 0 0)), (1, .int x1), (2, .int x2), (3, .int x3), (4, .int x4), (5, .int x5), (6, .int x6)] []) : ∀ (n : Nat) (u0 : pa_S) (x1 : Int32) (x2 : Int32) (x3 : Int32) (x4 : Int32) (x5 : Int32) (x6 : Int32) (x7 : Int32), wl_X6_share_55 k44 post n u0 x1 x2 x3 x4 x5 x6 x7 → pa_At p l e (pa_rm 8) s m args below meth c (MQ below (pa_Qc g D q (fun r => some (.int r)) post A) args s 0 0 A) A D g 10 0 0 q u0 55 [(0, .ref (q 0 0)), (1, .int x1), (2, .int x2), (3, .int x3), (4, .int x4), (5, .int x5), (6, .int x6), (7, .int x7)] []
  | 0, _, _, _, _, _, _, _, _, hw => absurd hw (by simp only [wl_X6_share_55]; exact fun z => z)
  | n + 1, u0, x1, x2, x3, x4, x5, x6, x7, hw => tb_X6_share_55 hE hr hk44 (fun u0 x1 x2 x3 x4 x5 x6 x7  hw1 => tl_X6_share_55 hE hr hk44 n u0 x1 x2 x3 x4 x5 x6 x7  hw1) hw
def wb_X6_share_44 (k44 : pa_S → Int32 → Int32 → Int32 → Int32 → Int32 → Int32 → Prop) (u0 : pa_S) (x1 : Int32) (x2 : Int32) (x3 : Int32) (x4 : Int32) (x5 : Int32) (x6 : Int32) (post : Int32 → pa_S → Prop) : Prop :=
  (if x6 < 0 then (if 0 ≤ x3 then post x5 u0 else post x4 u0) else ∀ v9 : Int32, v9 = (x2 - x6) → wl_X6_share_55 k44 post 5000 u0 x1 x2 x3 x4 x5 x6 v9)
set_option maxRecDepth 100000 in
set_option maxHeartbeats 4000000 in
theorem tb_X6_share_44 {p : Program} {l : Launch} {e : Env} {s : State} {m : MethodId} {args : Array Value} {below : List Frame} {meth : Method} {c : Code} {A : Nat → Prop} {D : va_G} {g : pa_G} {q : Nat → Nat → Nat} {k44 : pa_S → Int32 → Int32 → Int32 → Int32 → Int32 → Int32 → Prop} {u0 : pa_S} {x1 : Int32} {x2 : Int32} {x3 : Int32} {x4 : Int32} {x5 : Int32} {x6 : Int32} {post : Int32 → pa_S → Prop} (hE : pa_Fx p s m args meth c A D g 10 cX6_share RX6) (hr : meth.sig.returnType = (some .int)) (hk44 : ∀ (u : pa_S)  (x1 : Int32) (x2 : Int32) (x3 : Int32) (x4 : Int32) (x5 : Int32) (x6 : Int32), k44 u x1 x2 x3 x4 x5 x6 → pa_At p l e (pa_rm 8) s m args below meth c (MQ below (pa_Qc g D q (fun r => some (.int r)) post A) args s 0 0 A) A D g 10 0 0 q u 44 [(0, .ref (q 0 0)), (1, .int x1), (2, .int x2), (3, .int x3), (4, .int x4), (5, .int x5), (6, .int x6)] []) (hw : wb_X6_share_44 k44 u0 x1 x2 x3 x4 x5 x6 post) : pa_At p l e (pa_rm 8) s m args below meth c (MQ below (pa_Qc g D q (fun r => some (.int r)) post A) args s 0 0 A) A D g 10 0 0 q u0 44 [(0, .ref (q 0 0)), (1, .int x1), (2, .int x2), (3, .int x3), (4, .int x4), (5, .int x5), (6, .int x6)] [] := by
  refine pa_iload hE dX6_share_44 6 rfl ?_
  refine pa_if_lt hE dX6_share_46 (tgt := 132) (by decide) (fun h7 => ?_) (fun h7 => ?_)
  · have hw := Eq.mp (if_pos h7) hw
    refine pa_iload_n hE dX6_share_132 rfl 3 rfl ?_
    refine pa_if_ge hE dX6_share_133 (tgt := 141) (by decide) (fun h8 => ?_) (fun h8 => ?_)
    · have hw := Eq.mp (if_pos h8) hw
      refine pa_iload hE dX6_share_141 5 rfl ?_
      exact pa_iret hE hr hw rfl dX6_share_143
    · have hw := Eq.mp (if_neg h8) hw
      refine pa_iload hE dX6_share_136 4 rfl ?_
      refine pa_goto hE dX6_share_138 (tgt := 143) (by decide) ?_
      exact pa_iret hE hr hw rfl dX6_share_143
  · have hw := Eq.mp (if_neg h7) hw
    refine pa_iload_n hE dX6_share_49 rfl 2 rfl ?_
    refine pa_iload hE dX6_share_50 6 rfl ?_
    refine pa_isub hE dX6_share_52 ?_
    refine pa_namei (fun v9 ev9 => ?_)
    have hw := hw v9 ev9
    refine pa_istore hE dX6_share_53 (by decide) (lvr := [(0, .ref (q 0 0)), (1, .int x1), (2, .int x2), (3, .int x3), (4, .int x4), (5, .int x5), (6, .int x6)]) rfl ?_
    exact pa_sub [1, 2, 3, 4, 5, 6, 7, 0] rfl (tl_X6_share_55 hE hr hk44 5000 u0 x1 x2 x3 x4 x5 x6 v9 hw)
def wl_X6_share_44 (post : Int32 → pa_S → Prop) : Nat → pa_S → Int32 → Int32 → Int32 → Int32 → Int32 → Int32 → Prop
  | 0, _, _, _, _, _, _, _ => False
  | n + 1, u0, x1, x2, x3, x4, x5, x6 => wb_X6_share_44 (fun u0 x1 x2 x3 x4 x5 x6 => wl_X6_share_44 post n u0 x1 x2 x3 x4 x5 x6) u0 x1 x2 x3 x4 x5 x6 post
set_option maxRecDepth 100000 in
set_option maxHeartbeats 4000000 in
theorem tl_X6_share_44 {p : Program} {l : Launch} {e : Env} {s : State} {m : MethodId} {args : Array Value} {below : List Frame} {meth : Method} {c : Code} {A : Nat → Prop} {D : va_G} {g : pa_G} {q : Nat → Nat → Nat} {post : Int32 → pa_S → Prop} (hE : pa_Fx p s m args meth c A D g 10 cX6_share RX6) (hr : meth.sig.returnType = (some .int)) : ∀ (n : Nat) (u0 : pa_S) (x1 : Int32) (x2 : Int32) (x3 : Int32) (x4 : Int32) (x5 : Int32) (x6 : Int32), wl_X6_share_44 post n u0 x1 x2 x3 x4 x5 x6 → pa_At p l e (pa_rm 8) s m args below meth c (MQ below (pa_Qc g D q (fun r => some (.int r)) post A) args s 0 0 A) A D g 10 0 0 q u0 44 [(0, .ref (q 0 0)), (1, .int x1), (2, .int x2), (3, .int x3), (4, .int x4), (5, .int x5), (6, .int x6)] []
  | 0, _, _, _, _, _, _, _, hw => absurd hw (by simp only [wl_X6_share_44]; exact fun z => z)
  | n + 1, u0, x1, x2, x3, x4, x5, x6, hw => tb_X6_share_44 hE hr (fun u0 x1 x2 x3 x4 x5 x6  hw1 => tl_X6_share_44 hE hr  n u0 x1 x2 x3 x4 x5 x6  hw1) hw
def wb_X6_share_0 (u0 : pa_S) (x1 : Int32) (x2 : Int32) (x3 : Int32) (post : Int32 → pa_S → Prop) : Prop :=
  (wp_X3_has u0 0 x1 (fun (r1 : Int32) => (if r1 = 0 then post (-1 : Int32) u0 else (wp_X6_within u0 x3 (-1 : Int32) 2 (fun (r3 : Int32) => (if r3 = 0 then post (-1 : Int32) u0 else (wp_X6_within u0 x2 0 12 (fun (r5 : Int32) => (if r5 = 0 then post (-2 : Int32) u0 else wl_X6_share_44 post 5000 u0 x1 x2 x3 (-1 : Int32) 0 x2)))))))))
set_option maxRecDepth 100000 in
set_option maxHeartbeats 4000000 in
theorem tb_X6_share_0 {p : Program} {l : Launch} {e : Env} {s : State} {m : MethodId} {args : Array Value} {below : List Frame} {meth : Method} {c : Code} {A : Nat → Prop} {D : va_G} {g : pa_G} {q : Nat → Nat → Nat} {u0 : pa_S} {x1 : Int32} {x2 : Int32} {x3 : Int32} {post : Int32 → pa_S → Prop} (hE : pa_Fx p s m args meth c A D g 10 cX6_share RX6) (hr : meth.sig.returnType = (some .int)) (hw : wb_X6_share_0 u0 x1 x2 x3 post) : pa_At p l e (pa_rm 8) s m args below meth c (MQ below (pa_Qc g D q (fun r => some (.int r)) post A) args s 0 0 A) A D g 10 0 0 q u0 0 [(0, .ref (q 0 0)), (1, .int x1), (2, .int x2), (3, .int x3)] [] := by
  refine pa_aload_n hE dX6_share_0 rfl 0 rfl ?_
  refine pg_0_0 hE (pa_m1 196 rfl rfl) dX6_share_1 ?_
  refine pa_iload_n hE dX6_share_4 rfl 1 rfl ?_
  refine pa_callVri hE (ct_X3_has l g D q u0 0 x1 _ (by decide) hw) cv_RX6_91 (pa_in1 (by decide)) rfl rfl rfl (pa_hR (by omega) (by decide)) rfl (Nat.le_of_ble_eq_true rfl) dX6_share_5 (fun r1 hw => ?_)
  refine pa_if_eq hE dX6_share_8 (tgt := 20) (by decide) (fun h2 => ?_) (fun h2 => ?_)
  · have hw := Eq.mp (if_pos h2) hw
    refine pa_iconst hE dX6_share_20 (v := (-1 : Int32)) (by decide) ?_
    exact pa_iret hE hr hw rfl dX6_share_21
  · have hw := Eq.mp (if_neg h2) hw
    refine pa_iload_n hE dX6_share_11 rfl 3 rfl ?_
    refine pa_iconst hE dX6_share_12 (v := (-1 : Int32)) (by decide) ?_
    refine pa_iconst hE dX6_share_13 (v := 2) (by decide) ?_
    refine pa_callSri hE (ct_X6_within l g D q u0 x3 (-1 : Int32) 2 _ hw) cs_RX6_79 rfl (pa_hR (by omega) (by decide)) rfl (Nat.le_of_ble_eq_true rfl) dX6_share_14 (fun r3 hw => ?_)
    refine pa_if_ne hE dX6_share_17 (tgt := 22) (by decide) (fun h4 => ?_) (fun h4 => ?_)
    · have hw := Eq.mp (if_neg h4) hw
      refine pa_iload_n hE dX6_share_22 rfl 2 rfl ?_
      refine pa_iconst hE dX6_share_23 (v := 0) (by decide) ?_
      refine pa_bipush hE dX6_share_24 (v := 12) (by decide) ?_
      refine pa_callSri hE (ct_X6_within l g D q u0 x2 0 12 _ hw) cs_RX6_79 rfl (pa_hR (by omega) (by decide)) rfl (Nat.le_of_ble_eq_true rfl) dX6_share_26 (fun r5 hw => ?_)
      refine pa_if_ne hE dX6_share_29 (tgt := 35) (by decide) (fun h6 => ?_) (fun h6 => ?_)
      · have hw := Eq.mp (if_neg h6) hw
        refine pa_iconst hE dX6_share_35 (v := (-1 : Int32)) (by decide) ?_
        refine pa_istore hE dX6_share_36 (by decide) (lvr := [(0, .ref (q 0 0)), (1, .int x1), (2, .int x2), (3, .int x3)]) rfl ?_
        refine pa_iconst hE dX6_share_38 (v := 0) (by decide) ?_
        refine pa_istore hE dX6_share_39 (by decide) (lvr := [(4, .int (-1 : Int32)), (0, .ref (q 0 0)), (1, .int x1), (2, .int x2), (3, .int x3)]) rfl ?_
        refine pa_iload_n hE dX6_share_41 rfl 4 rfl ?_
        refine pa_istore hE dX6_share_42 (by decide) (lvr := [(5, .int 0), (4, .int (-1 : Int32)), (0, .ref (q 0 0)), (1, .int x1), (2, .int x2), (3, .int x3)]) rfl ?_
        exact pa_sub [3, 4, 5, 6, 2, 1, 0] rfl (tl_X6_share_44 hE hr 5000 u0 x1 x2 x3 (-1 : Int32) 0 x2 hw)
      · have hw := Eq.mp (if_pos h6) hw
        refine pa_bipush hE dX6_share_32 (v := (-2 : Int32)) (by decide) ?_
        exact pa_iret hE hr hw rfl dX6_share_34
    · have hw := Eq.mp (if_pos h4) hw
      refine pa_iconst hE dX6_share_20 (v := (-1 : Int32)) (by decide) ?_
      exact pa_iret hE hr hw rfl dX6_share_21
def wp_X6_share (u0 : pa_S) (x1 : Int32) (x2 : Int32) (x3 : Int32) (post : Int32 → pa_S → Prop) : Prop := wb_X6_share_0 u0 x1 x2 x3 post
theorem ct_X6_share (l : Launch) (g : pa_G) (D : va_G) (q : Nat → Nat → Nat) (u0 : pa_S) (x1 : Int32) (x2 : Int32) (x3 : Int32) (post : Int32 → pa_S → Prop)  (hw : wp_X6_share u0 x1 x2 x3 post) : pa_Ct l yX6_share cX6_share 10 (some .int) 8 g D q u0 [.ref (q 0 0), .int x1, .int x2, .int x3] (fun r => some (.int r)) post := pa_met rfl rfl (Nat.le_of_ble_eq_true rfl) rfl (fun p e s m args below meth c A hE hr => tb_X6_share_0 hE hr  hw)
def wb_X6_ifShaken_0 (u0 : pa_S) (x1 : Int32) (x2 : Int32) (post : pa_S → Prop) : Prop :=
  (wp_X3_become u0 2 0 (fun (u2 : pa_S) => (wp_X3_shakeHands u2 2 x1 x2 (fun (r3 : Int32) (u4 : pa_S) => post u4))))
set_option maxRecDepth 100000 in
set_option maxHeartbeats 4000000 in
theorem tb_X6_ifShaken_0 {p : Program} {l : Launch} {e : Env} {s : State} {m : MethodId} {args : Array Value} {below : List Frame} {meth : Method} {c : Code} {A : Nat → Prop} {D : va_G} {g : pa_G} {q : Nat → Nat → Nat} {u0 : pa_S} {x1 : Int32} {x2 : Int32} {post : pa_S → Prop} (hE : pa_Fx p s m args meth c A D g 4 cX6_ifShaken RX6) (hr : meth.sig.returnType = (some (.object "PalmsAltered$Scene"))) (hw : wb_X6_ifShaken_0 u0 x1 x2 post) : pa_At p l e (pa_rm 7) s m args below meth c (MQ below (pa_Qc g D q (fun (_ : Unit) => some (.ref (q 1 2))) (fun (_ : Unit) u => post u) A) args s 0 0 A) A D g 4 0 0 q u0 0 [(0, .ref (q 0 0)), (1, .int x1), (2, .int x2)] [] := by
  refine pa_aload_n hE dX6_ifShaken_0 rfl 0 rfl ?_
  refine pg_0_2 hE (pa_m1 198 rfl rfl) dX6_ifShaken_1 ?_
  refine pa_iconst hE dX6_ifShaken_4 (v := 0) (by decide) ?_
  refine pa_aaldS hE (by unfold vp_in; decide) (n := 2) (by decide) dX6_ifShaken_5 ?_
  refine pa_astore_n hE dX6_ifShaken_6 rfl (by decide) (lvr := [(0, .ref (q 0 0)), (1, .int x1), (2, .int x2)]) rfl ?_
  refine pa_aload_n hE dX6_ifShaken_7 rfl 0 rfl ?_
  refine pa_aload_n hE dX6_ifShaken_8 rfl 1 rfl ?_
  refine pg_0_0 hE (pa_m1 196 rfl rfl) dX6_ifShaken_9 ?_
  refine pa_callVv hE (ct_X3_become l g D q u0 2 0 _ (by decide) (by decide) hw) cv_RX6_194 (pa_in1 (by decide)) rfl rfl rfl (pa_hR (by omega) (by decide)) rfl (Nat.le_of_ble_eq_true rfl) dX6_ifShaken_12 (fun u2 hw => ?_)
  refine pa_aload_n hE dX6_ifShaken_15 rfl 0 rfl ?_
  refine pa_iload_n hE dX6_ifShaken_16 rfl 2 rfl ?_
  refine pa_iload_n hE dX6_ifShaken_17 rfl 3 rfl ?_
  refine pa_callVi hE (ct_X3_shakeHands l g D q u2 2 x1 x2 _ (by decide) hw) cv_RX6_147 (pa_in1 (by decide)) rfl rfl rfl (pa_hR (by omega) (by decide)) rfl (Nat.le_of_ble_eq_true rfl) dX6_ifShaken_18 (fun r3 u4 hw => ?_)
  refine pa_pop hE dX6_ifShaken_21 rfl ?_
  refine pa_aload_n hE dX6_ifShaken_22 rfl 0 rfl ?_
  exact pa_aret (r := ()) hE hr hw rfl dX6_ifShaken_23
def wp_X6_ifShaken (u0 : pa_S) (x1 : Int32) (x2 : Int32) (post : pa_S → Prop) : Prop := wb_X6_ifShaken_0 u0 x1 x2 post
theorem ct_X6_ifShaken (l : Launch) (g : pa_G) (D : va_G) (q : Nat → Nat → Nat) (u0 : pa_S) (x1 : Int32) (x2 : Int32) (post : pa_S → Prop)  (hw : wp_X6_ifShaken u0 x1 x2 post) : pa_Ct l yX6_ifShaken cX6_ifShaken 4 (some (.object "PalmsAltered$Scene")) 7 g D q u0 [.ref (q 0 0), .int x1, .int x2] (fun (_ : Unit) => some (.ref (q 1 2))) (fun (_ : Unit) u => post u) := pa_met rfl rfl (Nat.le_of_ble_eq_true rfl) rfl (fun p e s m args below meth c A hE hr => tb_X6_ifShaken_0 hE hr  hw)
def wb_X6_meet_70 (k13 : pa_S → Int32 → Int32 → Int32 → Prop) (k29 : pa_S → Int32 → Int32 → Int32 → Int32 → Prop) (u0 : pa_S) (x1 : Int32) (x2 : Int32) (x3 : Int32) (x4 : Int32) (post : Int32 → pa_S → Prop) : Prop :=
  ∀ v12 : Int32, v12 = x4 + 1 → k29 u0 x1 x2 x3 v12
set_option maxRecDepth 100000 in
set_option maxHeartbeats 4000000 in
theorem tb_X6_meet_70 {p : Program} {l : Launch} {e : Env} {s : State} {m : MethodId} {args : Array Value} {below : List Frame} {meth : Method} {c : Code} {A : Nat → Prop} {D : va_G} {g : pa_G} {q : Nat → Nat → Nat} {k13 : pa_S → Int32 → Int32 → Int32 → Prop} {k29 : pa_S → Int32 → Int32 → Int32 → Int32 → Prop} {u0 : pa_S} {x1 : Int32} {x2 : Int32} {x3 : Int32} {x4 : Int32} {post : Int32 → pa_S → Prop} (hE : pa_Fx p s m args meth c A D g 6 cX6_meet RX6) (hr : meth.sig.returnType = (some .int)) (hk13 : ∀ (u : pa_S)  (x1 : Int32) (x2 : Int32) (x3 : Int32), k13 u x1 x2 x3 → pa_At p l e (pa_rm 9) s m args below meth c (MQ below (pa_Qc g D q (fun r => some (.int r)) post A) args s 0 0 A) A D g 6 0 0 q u 13 [(0, .ref (q 0 0)), (1, .int x1), (2, .int x2), (3, .int x3)] []) (hk29 : ∀ (u : pa_S)  (x1 : Int32) (x2 : Int32) (x3 : Int32) (x4 : Int32), k29 u x1 x2 x3 x4 → pa_At p l e (pa_rm 9) s m args below meth c (MQ below (pa_Qc g D q (fun r => some (.int r)) post A) args s 0 0 A) A D g 6 0 0 q u 29 [(0, .ref (q 0 0)), (1, .int x1), (2, .int x2), (3, .int x3), (4, .int x4)] []) (hw : wb_X6_meet_70 k13 k29 u0 x1 x2 x3 x4 post) : pa_At p l e (pa_rm 9) s m args below meth c (MQ below (pa_Qc g D q (fun r => some (.int r)) post A) args s 0 0 A) A D g 6 0 0 q u0 70 [(0, .ref (q 0 0)), (1, .int x1), (2, .int x2), (3, .int x3), (4, .int x4)] [] := by
  refine pa_iinc hE dX6_meet_70 (v := 1) 4 rfl (by decide) (by decide) (lvr := [(0, .ref (q 0 0)), (1, .int x1), (2, .int x2), (3, .int x3)]) rfl (fun v12 ev12 => ?_)
  have hw := hw v12 ev12
  refine pa_goto hE dX6_meet_73 (tgt := 29) (by decide) ?_
  exact pa_sub [1, 2, 3, 4, 0] rfl (hk29 u0 x1 x2 x3 v12 hw)
def wb_X6_meet_29 (k13 : pa_S → Int32 → Int32 → Int32 → Prop) (k29 : pa_S → Int32 → Int32 → Int32 → Int32 → Prop) (u0 : pa_S) (x1 : Int32) (x2 : Int32) (x3 : Int32) (x4 : Int32) (post : Int32 → pa_S → Prop) : Prop :=
  (if (pa_I u0 1 0 6) ≤ x4 then ∀ v6 : Int32, v6 = x3 + 1 → k13 u0 x1 x2 v6 else (wp_X6_ifShaken u0 x3 x4 (fun (u8 : pa_S) => (wp_X3_fortuneOfAll u8 2 (fun (r9 : Int32) (u10 : pa_S) => (if r9 ≤ x1 then wb_X6_meet_70 k13 k29 u10 x1 x2 x3 x4 post else ∀ v13 : Int32, v13 = ((10 * x3) + x4) → wb_X6_meet_70 k13 k29 u10 r9 v13 x3 x4 post))))))
set_option maxRecDepth 100000 in
set_option maxHeartbeats 4000000 in
theorem tb_X6_meet_29 {p : Program} {l : Launch} {e : Env} {s : State} {m : MethodId} {args : Array Value} {below : List Frame} {meth : Method} {c : Code} {A : Nat → Prop} {D : va_G} {g : pa_G} {q : Nat → Nat → Nat} {k13 : pa_S → Int32 → Int32 → Int32 → Prop} {k29 : pa_S → Int32 → Int32 → Int32 → Int32 → Prop} {u0 : pa_S} {x1 : Int32} {x2 : Int32} {x3 : Int32} {x4 : Int32} {post : Int32 → pa_S → Prop} (hE : pa_Fx p s m args meth c A D g 6 cX6_meet RX6) (hr : meth.sig.returnType = (some .int)) (hk13 : ∀ (u : pa_S)  (x1 : Int32) (x2 : Int32) (x3 : Int32), k13 u x1 x2 x3 → pa_At p l e (pa_rm 9) s m args below meth c (MQ below (pa_Qc g D q (fun r => some (.int r)) post A) args s 0 0 A) A D g 6 0 0 q u 13 [(0, .ref (q 0 0)), (1, .int x1), (2, .int x2), (3, .int x3)] []) (hk29 : ∀ (u : pa_S)  (x1 : Int32) (x2 : Int32) (x3 : Int32) (x4 : Int32), k29 u x1 x2 x3 x4 → pa_At p l e (pa_rm 9) s m args below meth c (MQ below (pa_Qc g D q (fun r => some (.int r)) post A) args s 0 0 A) A D g 6 0 0 q u 29 [(0, .ref (q 0 0)), (1, .int x1), (2, .int x2), (3, .int x3), (4, .int x4)] []) (hw : wb_X6_meet_29 k13 k29 u0 x1 x2 x3 x4 post) : pa_At p l e (pa_rm 9) s m args below meth c (MQ below (pa_Qc g D q (fun r => some (.int r)) post A) args s 0 0 A) A D g 6 0 0 q u0 29 [(0, .ref (q 0 0)), (1, .int x1), (2, .int x2), (3, .int x3), (4, .int x4)] [] := by
  refine pa_iload hE dX6_meet_29 4 rfl ?_
  refine pa_aload_n hE dX6_meet_31 rfl 0 rfl ?_
  refine pg_0_0 hE (pa_m1 196 rfl rfl) dX6_meet_32 ?_
  refine pg_1_6 (pa_in1 (by decide)) hE (pa_m1 148 rfl rfl) dX6_meet_35 ?_
  refine pa_icmp_ge hE dX6_meet_38 (tgt := 76) (by decide) (fun h5 => ?_) (fun h5 => ?_)
  · have hw := Eq.mp (if_pos h5) hw
    refine pa_iinc hE dX6_meet_76 (v := 1) 3 rfl (by decide) (by decide) (lvr := [(0, .ref (q 0 0)), (1, .int x1), (2, .int x2), (4, .int x4)]) rfl (fun v6 ev6 => ?_)
    have hw := hw v6 ev6
    refine pa_goto hE dX6_meet_79 (tgt := 13) (by decide) ?_
    exact pa_sub [1, 2, 3, 0] rfl (hk13 u0 x1 x2 v6 hw)
  · have hw := Eq.mp (if_neg h5) hw
    refine pa_aload_n hE dX6_meet_41 rfl 0 rfl ?_
    refine pa_iload_n hE dX6_meet_42 rfl 3 rfl ?_
    refine pa_iload hE dX6_meet_43 4 rfl ?_
    refine pa_callVa hE (ct_X6_ifShaken l g D q u0 x3 x4 _ hw) cv_RX6_202 pa_in0 rfl rfl rfl (pa_hR (by omega) (by decide)) rfl (Nat.le_of_ble_eq_true rfl) dX6_meet_45 (fun u8 hw => ?_)
    refine pa_callVi hE (ct_X3_fortuneOfAll l g D q u8 2 _ (by decide) hw) cv_RX6_184 (pa_in1 (by decide)) rfl rfl rfl (pa_hR (by omega) (by decide)) rfl (Nat.le_of_ble_eq_true rfl) dX6_meet_48 (fun r9 u10 hw => ?_)
    refine pa_istore hE dX6_meet_51 (by decide) (lvr := [(0, .ref (q 0 0)), (1, .int x1), (2, .int x2), (3, .int x3), (4, .int x4)]) rfl ?_
    refine pa_iload hE dX6_meet_53 0 rfl ?_
    refine pa_iload_n hE dX6_meet_55 rfl 2 rfl ?_
    refine pa_icmp_le hE dX6_meet_56 (tgt := 70) (by decide) (fun h11 => ?_) (fun h11 => ?_)
    · have hw := Eq.mp (if_pos h11) hw
      exact pa_sub [1, 2, 3, 4, 5] rfl (tb_X6_meet_70 hE hr hk13 hk29 hw)
    · have hw := Eq.mp (if_neg h11) hw
      refine pa_iload hE dX6_meet_59 0 rfl ?_
      refine pa_istore_n hE dX6_meet_61 rfl (by decide) (lvr := [(5, .int r9), (0, .ref (q 0 0)), (2, .int x2), (3, .int x3), (4, .int x4)]) rfl ?_
      refine pa_bipush hE dX6_meet_62 (v := 10) (by decide) ?_
      refine pa_iload_n hE dX6_meet_64 rfl 4 rfl ?_
      refine pa_imul hE dX6_meet_65 ?_
      refine pa_iload hE dX6_meet_66 5 rfl ?_
      refine pa_iadd hE dX6_meet_68 ?_
      refine pa_namei (fun v13 ev13 => ?_)
      have hw := hw v13 ev13
      refine pa_istore_n hE dX6_meet_69 rfl (by decide) (lvr := [(1, .int r9), (5, .int r9), (0, .ref (q 0 0)), (3, .int x3), (4, .int x4)]) rfl ?_
      exact pa_sub [3, 1, 0, 4, 5] rfl (tb_X6_meet_70 hE hr hk13 hk29 hw)
def wl_X6_meet_29 (k13 : pa_S → Int32 → Int32 → Int32 → Prop) (post : Int32 → pa_S → Prop) : Nat → pa_S → Int32 → Int32 → Int32 → Int32 → Prop
  | 0, _, _, _, _, _ => False
  | n + 1, u0, x1, x2, x3, x4 => wb_X6_meet_29 k13 (fun u0 x1 x2 x3 x4 => wl_X6_meet_29 k13 post n u0 x1 x2 x3 x4) u0 x1 x2 x3 x4 post
set_option maxRecDepth 100000 in
set_option maxHeartbeats 4000000 in
theorem tl_X6_meet_29 {p : Program} {l : Launch} {e : Env} {s : State} {m : MethodId} {args : Array Value} {below : List Frame} {meth : Method} {c : Code} {A : Nat → Prop} {D : va_G} {g : pa_G} {q : Nat → Nat → Nat} {k13 : pa_S → Int32 → Int32 → Int32 → Prop} {post : Int32 → pa_S → Prop} (hE : pa_Fx p s m args meth c A D g 6 cX6_meet RX6) (hr : meth.sig.returnType = (some .int)) (hk13 : ∀ (u : pa_S)  (x1 : Int32) (x2 : Int32) (x3 : Int32), k13 u x1 x2 x3 → pa_At p l e (pa_rm 9) s m args below meth c (MQ below (pa_Qc g D q (fun r => some (.int r)) post A) args s 0 0 A) A D g 6 0 0 q u 13 [(0, .ref (q 0 0)), (1, .int x1), (2, .int x2), (3, .int x3)] []) : ∀ (n : Nat) (u0 : pa_S) (x1 : Int32) (x2 : Int32) (x3 : Int32) (x4 : Int32), wl_X6_meet_29 k13 post n u0 x1 x2 x3 x4 → pa_At p l e (pa_rm 9) s m args below meth c (MQ below (pa_Qc g D q (fun r => some (.int r)) post A) args s 0 0 A) A D g 6 0 0 q u0 29 [(0, .ref (q 0 0)), (1, .int x1), (2, .int x2), (3, .int x3), (4, .int x4)] []
  | 0, _, _, _, _, _, hw => absurd hw (by simp only [wl_X6_meet_29]; exact fun z => z)
  | n + 1, u0, x1, x2, x3, x4, hw => tb_X6_meet_29 hE hr hk13 (fun u0 x1 x2 x3 x4  hw1 => tl_X6_meet_29 hE hr hk13 n u0 x1 x2 x3 x4  hw1) hw
def wb_X6_meet_13 (k13 : pa_S → Int32 → Int32 → Int32 → Prop) (u0 : pa_S) (x1 : Int32) (x2 : Int32) (x3 : Int32) (post : Int32 → pa_S → Prop) : Prop :=
  (if (pa_I u0 1 0 6) ≤ x3 then post x2 u0 else ∀ v4 : Int32, v4 = (x3 + 1) → wl_X6_meet_29 k13 post 5000 u0 x1 x2 x3 v4)
set_option maxRecDepth 100000 in
set_option maxHeartbeats 4000000 in
theorem tb_X6_meet_13 {p : Program} {l : Launch} {e : Env} {s : State} {m : MethodId} {args : Array Value} {below : List Frame} {meth : Method} {c : Code} {A : Nat → Prop} {D : va_G} {g : pa_G} {q : Nat → Nat → Nat} {k13 : pa_S → Int32 → Int32 → Int32 → Prop} {u0 : pa_S} {x1 : Int32} {x2 : Int32} {x3 : Int32} {post : Int32 → pa_S → Prop} (hE : pa_Fx p s m args meth c A D g 6 cX6_meet RX6) (hr : meth.sig.returnType = (some .int)) (hk13 : ∀ (u : pa_S)  (x1 : Int32) (x2 : Int32) (x3 : Int32), k13 u x1 x2 x3 → pa_At p l e (pa_rm 9) s m args below meth c (MQ below (pa_Qc g D q (fun r => some (.int r)) post A) args s 0 0 A) A D g 6 0 0 q u 13 [(0, .ref (q 0 0)), (1, .int x1), (2, .int x2), (3, .int x3)] []) (hw : wb_X6_meet_13 k13 u0 x1 x2 x3 post) : pa_At p l e (pa_rm 9) s m args below meth c (MQ below (pa_Qc g D q (fun r => some (.int r)) post A) args s 0 0 A) A D g 6 0 0 q u0 13 [(0, .ref (q 0 0)), (1, .int x1), (2, .int x2), (3, .int x3)] [] := by
  refine pa_iload_n hE dX6_meet_13 rfl 3 rfl ?_
  refine pa_aload_n hE dX6_meet_14 rfl 0 rfl ?_
  refine pg_0_0 hE (pa_m1 196 rfl rfl) dX6_meet_15 ?_
  refine pg_1_6 (pa_in1 (by decide)) hE (pa_m1 148 rfl rfl) dX6_meet_18 ?_
  refine pa_icmp_ge hE dX6_meet_21 (tgt := 82) (by decide) (fun h3 => ?_) (fun h3 => ?_)
  · have hw := Eq.mp (if_pos h3) hw
    refine pa_iload_n hE dX6_meet_82 rfl 2 rfl ?_
    exact pa_iret hE hr hw rfl dX6_meet_83
  · have hw := Eq.mp (if_neg h3) hw
    refine pa_iload_n hE dX6_meet_24 rfl 3 rfl ?_
    refine pa_iconst hE dX6_meet_25 (v := 1) (by decide) ?_
    refine pa_iadd hE dX6_meet_26 ?_
    refine pa_namei (fun v4 ev4 => ?_)
    have hw := hw v4 ev4
    refine pa_istore hE dX6_meet_27 (by decide) (lvr := [(0, .ref (q 0 0)), (1, .int x1), (2, .int x2), (3, .int x3)]) rfl ?_
    exact pa_sub [1, 2, 3, 4, 0] rfl (tl_X6_meet_29 hE hr hk13 5000 u0 x1 x2 x3 v4 hw)
def wl_X6_meet_13 (post : Int32 → pa_S → Prop) : Nat → pa_S → Int32 → Int32 → Int32 → Prop
  | 0, _, _, _, _ => False
  | n + 1, u0, x1, x2, x3 => wb_X6_meet_13 (fun u0 x1 x2 x3 => wl_X6_meet_13 post n u0 x1 x2 x3) u0 x1 x2 x3 post
set_option maxRecDepth 100000 in
set_option maxHeartbeats 4000000 in
theorem tl_X6_meet_13 {p : Program} {l : Launch} {e : Env} {s : State} {m : MethodId} {args : Array Value} {below : List Frame} {meth : Method} {c : Code} {A : Nat → Prop} {D : va_G} {g : pa_G} {q : Nat → Nat → Nat} {post : Int32 → pa_S → Prop} (hE : pa_Fx p s m args meth c A D g 6 cX6_meet RX6) (hr : meth.sig.returnType = (some .int)) : ∀ (n : Nat) (u0 : pa_S) (x1 : Int32) (x2 : Int32) (x3 : Int32), wl_X6_meet_13 post n u0 x1 x2 x3 → pa_At p l e (pa_rm 9) s m args below meth c (MQ below (pa_Qc g D q (fun r => some (.int r)) post A) args s 0 0 A) A D g 6 0 0 q u0 13 [(0, .ref (q 0 0)), (1, .int x1), (2, .int x2), (3, .int x3)] []
  | 0, _, _, _, _, hw => absurd hw (by simp only [wl_X6_meet_13]; exact fun z => z)
  | n + 1, u0, x1, x2, x3, hw => tb_X6_meet_13 hE hr (fun u0 x1 x2 x3  hw1 => tl_X6_meet_13 hE hr  n u0 x1 x2 x3  hw1) hw
def wb_X6_meet_0 (u0 : pa_S) (post : Int32 → pa_S → Prop) : Prop :=
  (wp_X3_fortuneOfAll u0 0 (fun (r1 : Int32) (u2 : pa_S) => wl_X6_meet_13 post 5000 u2 r1 (-5 : Int32) 0))
set_option maxRecDepth 100000 in
set_option maxHeartbeats 4000000 in
theorem tb_X6_meet_0 {p : Program} {l : Launch} {e : Env} {s : State} {m : MethodId} {args : Array Value} {below : List Frame} {meth : Method} {c : Code} {A : Nat → Prop} {D : va_G} {g : pa_G} {q : Nat → Nat → Nat} {u0 : pa_S} {post : Int32 → pa_S → Prop} (hE : pa_Fx p s m args meth c A D g 6 cX6_meet RX6) (hr : meth.sig.returnType = (some .int)) (hw : wb_X6_meet_0 u0 post) : pa_At p l e (pa_rm 9) s m args below meth c (MQ below (pa_Qc g D q (fun r => some (.int r)) post A) args s 0 0 A) A D g 6 0 0 q u0 0 [(0, .ref (q 0 0))] [] := by
  refine pa_aload_n hE dX6_meet_0 rfl 0 rfl ?_
  refine pg_0_0 hE (pa_m1 196 rfl rfl) dX6_meet_1 ?_
  refine pa_callVi hE (ct_X3_fortuneOfAll l g D q u0 0 _ (by decide) hw) cv_RX6_184 (pa_in1 (by decide)) rfl rfl rfl (pa_hR (by omega) (by decide)) rfl (Nat.le_of_ble_eq_true rfl) dX6_meet_4 (fun r1 u2 hw => ?_)
  refine pa_istore_n hE dX6_meet_7 rfl (by decide) (lvr := [(0, .ref (q 0 0))]) rfl ?_
  refine pa_bipush hE dX6_meet_8 (v := (-5 : Int32)) (by decide) ?_
  refine pa_istore_n hE dX6_meet_10 rfl (by decide) (lvr := [(1, .int r1), (0, .ref (q 0 0))]) rfl ?_
  refine pa_iconst hE dX6_meet_11 (v := 0) (by decide) ?_
  refine pa_istore_n hE dX6_meet_12 rfl (by decide) (lvr := [(2, .int (-5 : Int32)), (1, .int r1), (0, .ref (q 0 0))]) rfl ?_
  exact pa_sub [3, 2, 1, 0] rfl (tl_X6_meet_13 hE hr 5000 u2 r1 (-5 : Int32) 0 hw)
def wp_X6_meet (u0 : pa_S) (post : Int32 → pa_S → Prop) : Prop := wb_X6_meet_0 u0 post
theorem ct_X6_meet (l : Launch) (g : pa_G) (D : va_G) (q : Nat → Nat → Nat) (u0 : pa_S) (post : Int32 → pa_S → Prop)  (hw : wp_X6_meet u0 post) : pa_Ct l yX6_meet cX6_meet 6 (some .int) 9 g D q u0 [.ref (q 0 0)] (fun r => some (.int r)) post := pa_met rfl rfl (Nat.le_of_ble_eq_true rfl) rfl (fun p e s m args below meth c A hE hr => tb_X6_meet_0 hE hr  hw)
def wb_X6_book_0 (u0 : pa_S) (x1 : Int32) (x2 : Int32) (x3 : Int32) (post : Int32 → pa_S → Prop) : Prop :=
  (if x1 = (-1 : Int32) then (wp_X2_clear u0 2 (fun (r9 : Int32) (u10 : pa_S) => post r9 u10)) else (wp_X3_hasLine u0 0 x1 x2 (fun (r2 : Int32) => (if r2 = 0 then post (-1 : Int32) u0 else (wp_X6_within u0 x3 0 60 (fun (r4 : Int32) => (if r4 = 0 then post (-2 : Int32) u0 else (if (pa_I u0 8 2 1) < 8 then (wp_X2_add u0 2 x1 x2 x3 0 (fun (r7 : Int32) (u8 : pa_S) => post r7 u8)) else post (-4 : Int32) u0))))))))
set_option maxRecDepth 100000 in
set_option maxHeartbeats 4000000 in
theorem tb_X6_book_0 {p : Program} {l : Launch} {e : Env} {s : State} {m : MethodId} {args : Array Value} {below : List Frame} {meth : Method} {c : Code} {A : Nat → Prop} {D : va_G} {g : pa_G} {q : Nat → Nat → Nat} {u0 : pa_S} {x1 : Int32} {x2 : Int32} {x3 : Int32} {post : Int32 → pa_S → Prop} (hE : pa_Fx p s m args meth c A D g 4 cX6_book RX6) (hr : meth.sig.returnType = (some .int)) (hw : wb_X6_book_0 u0 x1 x2 x3 post) : pa_At p l e (pa_rm 4) s m args below meth c (MQ below (pa_Qc g D q (fun r => some (.int r)) post A) args s 0 0 A) A D g 4 0 0 q u0 0 [(0, .ref (q 0 0)), (1, .int x1), (2, .int x2), (3, .int x3)] [] := by
  refine pa_iload_n hE dX6_book_0 rfl 1 rfl ?_
  refine pa_iconst hE dX6_book_1 (v := (-1 : Int32)) (by decide) ?_
  refine pa_icmp_ne hE dX6_book_2 (tgt := 13) (by decide) (fun h1 => ?_) (fun h1 => ?_)
  · have hw := Eq.mp (if_neg h1) hw
    refine pa_aload_n hE dX6_book_13 rfl 0 rfl ?_
    refine pg_0_0 hE (pa_m1 196 rfl rfl) dX6_book_14 ?_
    refine pa_iload_n hE dX6_book_17 rfl 1 rfl ?_
    refine pa_iload_n hE dX6_book_18 rfl 2 rfl ?_
    refine pa_callVri hE (ct_X3_hasLine l g D q u0 0 x1 x2 _ (by decide) hw) cv_RX6_118 (pa_in1 (by decide)) rfl rfl rfl (pa_hR (by omega) (by decide)) rfl (Nat.le_of_ble_eq_true rfl) dX6_book_19 (fun r2 hw => ?_)
    refine pa_if_ne hE dX6_book_22 (tgt := 27) (by decide) (fun h3 => ?_) (fun h3 => ?_)
    · have hw := Eq.mp (if_neg h3) hw
      refine pa_iload_n hE dX6_book_27 rfl 3 rfl ?_
      refine pa_iconst hE dX6_book_28 (v := 0) (by decide) ?_
      refine pa_bipush hE dX6_book_29 (v := 60) (by decide) ?_
      refine pa_callSri hE (ct_X6_within l g D q u0 x3 0 60 _ hw) cs_RX6_79 rfl (pa_hR (by omega) (by decide)) rfl (Nat.le_of_ble_eq_true rfl) dX6_book_31 (fun r4 hw => ?_)
      refine pa_if_ne hE dX6_book_34 (tgt := 40) (by decide) (fun h5 => ?_) (fun h5 => ?_)
      · have hw := Eq.mp (if_neg h5) hw
        refine pa_aload_n hE dX6_book_40 rfl 0 rfl ?_
        refine pg_0_6 hE (pa_m1 202 rfl rfl) dX6_book_41 ?_
        refine pg_8_1 (pa_in8 (by decide)) hE (pa_m1 33 rfl rfl) dX6_book_44 ?_
        refine pa_bipush hE dX6_book_47 (v := 8) (by decide) ?_
        refine pa_icmp_lt hE dX6_book_49 (tgt := 55) (by decide) (fun h6 => ?_) (fun h6 => ?_)
        · have hw := Eq.mp (if_pos h6) hw
          refine pa_aload_n hE dX6_book_55 rfl 0 rfl ?_
          refine pg_0_6 hE (pa_m1 202 rfl rfl) dX6_book_56 ?_
          refine pa_iload_n hE dX6_book_59 rfl 1 rfl ?_
          refine pa_iload_n hE dX6_book_60 rfl 2 rfl ?_
          refine pa_iload_n hE dX6_book_61 rfl 3 rfl ?_
          refine pa_iconst hE dX6_book_62 (v := 0) (by decide) ?_
          refine pa_callVi hE (ct_X2_add l g D q u0 2 x1 x2 x3 0 _ (by decide) hw) cv_RX6_211 (pa_in8 (by decide)) rfl rfl rfl (pa_hR (by omega) (by decide)) rfl (Nat.le_of_ble_eq_true rfl) dX6_book_63 (fun r7 u8 hw => ?_)
          exact pa_iret hE hr hw rfl dX6_book_66
        · have hw := Eq.mp (if_neg h6) hw
          refine pa_bipush hE dX6_book_52 (v := (-4 : Int32)) (by decide) ?_
          exact pa_iret hE hr hw rfl dX6_book_54
      · have hw := Eq.mp (if_pos h5) hw
        refine pa_bipush hE dX6_book_37 (v := (-2 : Int32)) (by decide) ?_
        exact pa_iret hE hr hw rfl dX6_book_39
    · have hw := Eq.mp (if_pos h3) hw
      refine pa_iconst hE dX6_book_25 (v := (-1 : Int32)) (by decide) ?_
      exact pa_iret hE hr hw rfl dX6_book_26
  · have hw := Eq.mp (if_pos h1) hw
    refine pa_aload_n hE dX6_book_5 rfl 0 rfl ?_
    refine pg_0_6 hE (pa_m1 202 rfl rfl) dX6_book_6 ?_
    refine pa_callVi hE (ct_X2_clear l g D q u0 2 _ (by decide) hw) cv_RX6_206 (pa_in8 (by decide)) rfl rfl rfl (pa_hR (by omega) (by decide)) rfl (Nat.le_of_ble_eq_true rfl) dX6_book_9 (fun r9 u10 hw => ?_)
    exact pa_iret hE hr hw rfl dX6_book_12
def wp_X6_book (u0 : pa_S) (x1 : Int32) (x2 : Int32) (x3 : Int32) (post : Int32 → pa_S → Prop) : Prop := wb_X6_book_0 u0 x1 x2 x3 post
theorem ct_X6_book (l : Launch) (g : pa_G) (D : va_G) (q : Nat → Nat → Nat) (u0 : pa_S) (x1 : Int32) (x2 : Int32) (x3 : Int32) (post : Int32 → pa_S → Prop)  (hw : wp_X6_book u0 x1 x2 x3 post) : pa_Ct l yX6_book cX6_book 4 (some .int) 4 g D q u0 [.ref (q 0 0), .int x1, .int x2, .int x3] (fun r => some (.int r)) post := pa_met rfl rfl (Nat.le_of_ble_eq_true rfl) rfl (fun p e s m args below meth c A hE hr => tb_X6_book_0 hE hr  hw)
def wb_X6_firstOtherwise_2 (k2 : Int32 → Prop) (u0 : pa_S) (i0 : Nat) (x2 : Int32) (post : Int32 → Prop) : Prop :=
  (if (pa_I u0 8 2 1) ≤ x2 then post (-5 : Int32) else (wp_X2_at u0 2 x2 0 (fun (r2 : Int32) => (wp_X2_at u0 2 x2 1 (fun (r3 : Int32) => (wp_X3_lengthOf u0 i0 r2 r3 (fun (r4 : Int32) => (wp_X2_at u0 2 x2 2 (fun (r5 : Int32) => (if r4 = r5 then ∀ v7 : Int32, v7 = x2 + 1 → k2 v7 else post x2))))))))))
set_option maxRecDepth 100000 in
set_option maxHeartbeats 4000000 in
theorem tb_X6_firstOtherwise_2 {p : Program} {l : Launch} {e : Env} {s : State} {m : MethodId} {args : Array Value} {below : List Frame} {meth : Method} {c : Code} {A : Nat → Prop} {D : va_G} {g : pa_G} {q : Nat → Nat → Nat} {k2 : Int32 → Prop} {u0 : pa_S} {i0 : Nat} {x2 : Int32} {post : Int32 → Prop} (hE : pa_Fx p s m args meth c A D g 3 cX6_firstOtherwise RX6) (hr : meth.sig.returnType = (some .int)) (hi0 : i0 < 6) (hk2 : ∀ (x2 : Int32), k2 x2 → pa_At p l e (pa_rm 5) s m args below meth c (MQ below (pa_Qc g D q (fun r => some (.int r)) (fun r u => u = u0 ∧ post r) A) args s 0 0 A) A D g 3 0 0 q u0 2 [(0, .ref (q 0 0)), (1, .ref (q 1 i0)), (2, .int x2)] []) (hw : wb_X6_firstOtherwise_2 k2 u0 i0 x2 post) : pa_At p l e (pa_rm 5) s m args below meth c (MQ below (pa_Qc g D q (fun r => some (.int r)) (fun r u => u = u0 ∧ post r) A) args s 0 0 A) A D g 3 0 0 q u0 2 [(0, .ref (q 0 0)), (1, .ref (q 1 i0)), (2, .int x2)] [] := by
  refine pa_iload_n hE dX6_firstOtherwise_2 rfl 2 rfl ?_
  refine pa_aload_n hE dX6_firstOtherwise_3 rfl 0 rfl ?_
  refine pg_0_6 hE (pa_m1 202 rfl rfl) dX6_firstOtherwise_4 ?_
  refine pg_8_1 (pa_in8 (by decide)) hE (pa_m1 33 rfl rfl) dX6_firstOtherwise_7 ?_
  refine pa_icmp_ge hE dX6_firstOtherwise_10 (tgt := 55) (by decide) (fun h1 => ?_) (fun h1 => ?_)
  · have hw := Eq.mp (if_pos h1) hw
    refine pa_bipush hE dX6_firstOtherwise_55 (v := (-5 : Int32)) (by decide) ?_
    exact pa_iret hE hr ⟨rfl, hw⟩ rfl dX6_firstOtherwise_57
  · have hw := Eq.mp (if_neg h1) hw
    refine pa_aload_n hE dX6_firstOtherwise_13 rfl 1 rfl ?_
    refine pa_aload_n hE dX6_firstOtherwise_14 rfl 0 rfl ?_
    refine pg_0_6 hE (pa_m1 202 rfl rfl) dX6_firstOtherwise_15 ?_
    refine pa_iload_n hE dX6_firstOtherwise_18 rfl 2 rfl ?_
    refine pa_iconst hE dX6_firstOtherwise_19 (v := 0) (by decide) ?_
    refine pa_callVri hE (ct_X2_at l g D q u0 2 x2 0 _ (by decide) hw) cv_RX6_218 (pa_in8 (by decide)) rfl rfl rfl (pa_hR (by omega) (by decide)) rfl (Nat.le_of_ble_eq_true rfl) dX6_firstOtherwise_20 (fun r2 hw => ?_)
    refine pa_aload_n hE dX6_firstOtherwise_23 rfl 0 rfl ?_
    refine pg_0_6 hE (pa_m1 202 rfl rfl) dX6_firstOtherwise_24 ?_
    refine pa_iload_n hE dX6_firstOtherwise_27 rfl 2 rfl ?_
    refine pa_iconst hE dX6_firstOtherwise_28 (v := 1) (by decide) ?_
    refine pa_callVri hE (ct_X2_at l g D q u0 2 x2 1 _ (by decide) hw) cv_RX6_218 (pa_in8 (by decide)) rfl rfl rfl (pa_hR (by omega) (by decide)) rfl (Nat.le_of_ble_eq_true rfl) dX6_firstOtherwise_29 (fun r3 hw => ?_)
    refine pa_callVri hE (ct_X3_lengthOf l g D q u0 i0 r2 r3 _ hi0 hw) cv_RX6_122 (pa_in1 hi0) rfl rfl rfl (pa_hR (by omega) (by decide)) rfl (Nat.le_of_ble_eq_true rfl) dX6_firstOtherwise_32 (fun r4 hw => ?_)
    refine pa_aload_n hE dX6_firstOtherwise_35 rfl 0 rfl ?_
    refine pg_0_6 hE (pa_m1 202 rfl rfl) dX6_firstOtherwise_36 ?_
    refine pa_iload_n hE dX6_firstOtherwise_39 rfl 2 rfl ?_
    refine pa_iconst hE dX6_firstOtherwise_40 (v := 2) (by decide) ?_
    refine pa_callVri hE (ct_X2_at l g D q u0 2 x2 2 _ (by decide) hw) cv_RX6_218 (pa_in8 (by decide)) rfl rfl rfl (pa_hR (by omega) (by decide)) rfl (Nat.le_of_ble_eq_true rfl) dX6_firstOtherwise_41 (fun r5 hw => ?_)
    refine pa_icmp_eq hE dX6_firstOtherwise_44 (tgt := 49) (by decide) (fun h6 => ?_) (fun h6 => ?_)
    · have hw := Eq.mp (if_pos h6) hw
      refine pa_iinc hE dX6_firstOtherwise_49 (v := 1) 2 rfl (by decide) (by decide) (lvr := [(0, .ref (q 0 0)), (1, .ref (q 1 i0))]) rfl (fun v7 ev7 => ?_)
      have hw := hw v7 ev7
      refine pa_goto hE dX6_firstOtherwise_52 (tgt := 2) (by decide) ?_
      exact pa_sub [1, 2, 0] rfl (hk2 v7 hw)
    · have hw := Eq.mp (if_neg h6) hw
      refine pa_iload_n hE dX6_firstOtherwise_47 rfl 2 rfl ?_
      exact pa_iret hE hr ⟨rfl, hw⟩ rfl dX6_firstOtherwise_48
def wl_X6_firstOtherwise_2 (i0 : Nat) (post : Int32 → Prop) (u0 : pa_S) : Nat → Int32 → Prop
  | 0, _ => False
  | n + 1, x2 => wb_X6_firstOtherwise_2 (fun x2 => wl_X6_firstOtherwise_2 i0 post u0 n x2) u0 i0 x2 post
set_option maxRecDepth 100000 in
set_option maxHeartbeats 4000000 in
theorem tl_X6_firstOtherwise_2 {p : Program} {l : Launch} {e : Env} {s : State} {m : MethodId} {args : Array Value} {below : List Frame} {meth : Method} {c : Code} {A : Nat → Prop} {D : va_G} {g : pa_G} {q : Nat → Nat → Nat} {u0 : pa_S} {i0 : Nat} {post : Int32 → Prop} (hE : pa_Fx p s m args meth c A D g 3 cX6_firstOtherwise RX6) (hr : meth.sig.returnType = (some .int)) (hi0 : i0 < 6) : ∀ (n : Nat) (x2 : Int32), wl_X6_firstOtherwise_2 i0 post u0 n x2 → pa_At p l e (pa_rm 5) s m args below meth c (MQ below (pa_Qc g D q (fun r => some (.int r)) (fun r u => u = u0 ∧ post r) A) args s 0 0 A) A D g 3 0 0 q u0 2 [(0, .ref (q 0 0)), (1, .ref (q 1 i0)), (2, .int x2)] []
  | 0, _, hw => absurd hw (by simp only [wl_X6_firstOtherwise_2]; exact fun z => z)
  | n + 1, x2, hw => tb_X6_firstOtherwise_2 hE hr hi0 (fun x2  hw1 => tl_X6_firstOtherwise_2 hE hr hi0 n x2  hw1) hw
def wb_X6_firstOtherwise_0 (u0 : pa_S) (i0 : Nat) (post : Int32 → Prop) : Prop :=
  wl_X6_firstOtherwise_2 i0 post u0 5000 0
set_option maxRecDepth 100000 in
set_option maxHeartbeats 4000000 in
theorem tb_X6_firstOtherwise_0 {p : Program} {l : Launch} {e : Env} {s : State} {m : MethodId} {args : Array Value} {below : List Frame} {meth : Method} {c : Code} {A : Nat → Prop} {D : va_G} {g : pa_G} {q : Nat → Nat → Nat} {u0 : pa_S} {i0 : Nat} {post : Int32 → Prop} (hE : pa_Fx p s m args meth c A D g 3 cX6_firstOtherwise RX6) (hr : meth.sig.returnType = (some .int)) (hi0 : i0 < 6) (hw : wb_X6_firstOtherwise_0 u0 i0 post) : pa_At p l e (pa_rm 5) s m args below meth c (MQ below (pa_Qc g D q (fun r => some (.int r)) (fun r u => u = u0 ∧ post r) A) args s 0 0 A) A D g 3 0 0 q u0 0 [(0, .ref (q 0 0)), (1, .ref (q 1 i0))] [] := by
  refine pa_iconst hE dX6_firstOtherwise_0 (v := 0) (by decide) ?_
  refine pa_istore_n hE dX6_firstOtherwise_1 rfl (by decide) (lvr := [(0, .ref (q 0 0)), (1, .ref (q 1 i0))]) rfl ?_
  exact pa_sub [1, 2, 0] rfl (tl_X6_firstOtherwise_2 hE hr hi0 5000 0 hw)
def wp_X6_firstOtherwise (u0 : pa_S) (i0 : Nat) (post : Int32 → Prop) : Prop := wb_X6_firstOtherwise_0 u0 i0 post
theorem ct_X6_firstOtherwise (l : Launch) (g : pa_G) (D : va_G) (q : Nat → Nat → Nat) (u0 : pa_S) (i0 : Nat) (post : Int32 → Prop) (hi0 : i0 < 6) (hw : wp_X6_firstOtherwise u0 i0 post) : pa_Ct l yX6_firstOtherwise cX6_firstOtherwise 3 (some .int) 5 g D q u0 [.ref (q 0 0), .ref (q 1 i0)] (fun r => some (.int r)) (fun r u => u = u0 ∧ post r) := pa_met rfl rfl (Nat.le_of_ble_eq_true rfl) rfl (fun p e s m args below meth c A hE hr => tb_X6_firstOtherwise_0 hE hr hi0 hw)
def wb_X6_looked_0 (u0 : pa_S) (post : Int32 → Prop) : Prop :=
  (wp_X6_firstOtherwise u0 0 (fun (r1 : Int32) => post r1))
set_option maxRecDepth 100000 in
set_option maxHeartbeats 4000000 in
theorem tb_X6_looked_0 {p : Program} {l : Launch} {e : Env} {s : State} {m : MethodId} {args : Array Value} {below : List Frame} {meth : Method} {c : Code} {A : Nat → Prop} {D : va_G} {g : pa_G} {q : Nat → Nat → Nat} {u0 : pa_S} {post : Int32 → Prop} (hE : pa_Fx p s m args meth c A D g 1 cX6_looked RX6) (hr : meth.sig.returnType = (some .int)) (hw : wb_X6_looked_0 u0 post) : pa_At p l e (pa_rm 6) s m args below meth c (MQ below (pa_Qc g D q (fun r => some (.int r)) (fun r u => u = u0 ∧ post r) A) args s 0 0 A) A D g 1 0 0 q u0 0 [(0, .ref (q 0 0))] [] := by
  refine pa_aload_n hE dX6_looked_0 rfl 0 rfl ?_
  refine pa_aload_n hE dX6_looked_1 rfl 0 rfl ?_
  refine pg_0_0 hE (pa_m1 196 rfl rfl) dX6_looked_2 ?_
  refine pa_callVri hE (ct_X6_firstOtherwise l g D q u0 0 _ (by decide) hw) cv_RX6_214 pa_in0 rfl rfl rfl (pa_hR (by omega) (by decide)) rfl (Nat.le_of_ble_eq_true rfl) dX6_looked_5 (fun r1 hw => ?_)
  exact pa_iret hE hr ⟨rfl, hw⟩ rfl dX6_looked_8
def wp_X6_looked (u0 : pa_S) (post : Int32 → Prop) : Prop := wb_X6_looked_0 u0 post
theorem ct_X6_looked (l : Launch) (g : pa_G) (D : va_G) (q : Nat → Nat → Nat) (u0 : pa_S) (post : Int32 → Prop)  (hw : wp_X6_looked u0 post) : pa_Ct l yX6_looked cX6_looked 1 (some .int) 6 g D q u0 [.ref (q 0 0)] (fun r => some (.int r)) (fun r u => u = u0 ∧ post r) := pa_met rfl rfl (Nat.le_of_ble_eq_true rfl) rfl (fun p e s m args below meth c A hE hr => tb_X6_looked_0 hE hr  hw)
def wb_X6_isSoAfter_21 (rec_X6_isSoAfter : pa_S → Int32 → Int32 → (Int32 → pa_S → Prop) → Prop) (u0 : pa_S) (x1 : Int32) (post : Int32 → pa_S → Prop) : Prop :=
  (vp_in x1 4) ∧ (wp_X6_firstOtherwise u0 (2 + x1.toNatClampNeg) (fun (r5 : Int32) => (if r5 = (-5 : Int32) then post 1 u0 else post 0 u0)))
set_option maxRecDepth 100000 in
set_option maxHeartbeats 4000000 in
theorem tb_X6_isSoAfter_21 {p : Program} {l : Launch} {e : Env} {s : State} {m : MethodId} {args : Array Value} {below : List Frame} {meth : Method} {c : Code} {A : Nat → Prop} {D : va_G} {g : pa_G} {q : Nat → Nat → Nat} {d : Nat} {rec_X6_isSoAfter : pa_S → Int32 → Int32 → (Int32 → pa_S → Prop) → Prop} {u0 : pa_S} {x1 : Int32} {post : Int32 → pa_S → Prop} (hE : pa_Fx p s m args meth c A D g 6 cX6_isSoAfter RX6) (hr : meth.sig.returnType = (some .boolean)) (hrec_X6_isSoAfter : ∀ (u : pa_S) (x1 : Int32) (x2 : Int32) (po : Int32 → pa_S → Prop), rec_X6_isSoAfter u x1 x2 po → pa_Ct l yX6_isSoAfter cX6_isSoAfter 6 (some .boolean) (7 + d) g D q u [.ref (q 0 0), .int x1, .int x2] (fun r => some (.int r)) po) (hw : wb_X6_isSoAfter_21 rec_X6_isSoAfter u0 x1 post) : pa_At p l e (pa_rm (7 + (d + 1))) s m args below meth c (MQ below (pa_Qc g D q (fun r => some (.int r)) post A) args s 0 0 A) A D g 6 0 0 q u0 21 [(0, .ref (q 0 0)), (1, .int x1)] [] := by
  refine pa_aload_n hE dX6_isSoAfter_21 rfl 0 rfl ?_
  refine pa_aload_n hE dX6_isSoAfter_22 rfl 0 rfl ?_
  refine pg_0_2 hE (pa_m1 198 rfl rfl) dX6_isSoAfter_23 ?_
  refine pa_iload_n hE dX6_isSoAfter_26 rfl 1 rfl ?_
  obtain ⟨h4, hw⟩ := hw
  refine pa_aaldS hE h4 (n := (2 + x1.toNatClampNeg)) rfl dX6_isSoAfter_27 ?_
  refine pa_callVri hE (ct_X6_firstOtherwise l g D q u0 (2 + x1.toNatClampNeg) _ (pa_inlt4 h4) hw) cv_RX6_214 pa_in0 rfl rfl rfl (pa_hR (by omega) (by decide)) rfl (Nat.le_of_ble_eq_true rfl) dX6_isSoAfter_28 (fun r5 hw => ?_)
  refine pa_bipush hE dX6_isSoAfter_31 (v := (-5 : Int32)) (by decide) ?_
  refine pa_icmp_ne hE dX6_isSoAfter_33 (tgt := 40) (by decide) (fun h6 => ?_) (fun h6 => ?_)
  · have hw := Eq.mp (if_neg h6) hw
    refine pa_iconst hE dX6_isSoAfter_40 (v := 0) (by decide) ?_
    exact pa_zret hE hr (by decide) hw rfl dX6_isSoAfter_41
  · have hw := Eq.mp (if_pos h6) hw
    refine pa_iconst hE dX6_isSoAfter_36 (v := 1) (by decide) ?_
    refine pa_goto hE dX6_isSoAfter_37 (tgt := 41) (by decide) ?_
    exact pa_zret hE hr (by decide) hw rfl dX6_isSoAfter_41
def wb_X6_isSoAfter_72 (rec_X6_isSoAfter : pa_S → Int32 → Int32 → (Int32 → pa_S → Prop) → Prop) (k54 : pa_S → Nat → Int32 → Int32 → Int32 → Prop) (k72 : pa_S → Nat → Int32 → Int32 → Int32 → Int32 → Prop) (u0 : pa_S) (j3 : Nat) (x1 : Int32) (x2 : Int32) (x4 : Int32) (x5 : Int32) (post : Int32 → pa_S → Prop) : Prop :=
  (if (pa_I u0 1 0 6) ≤ x5 then ∀ v12 : Int32, v12 = x4 + 1 → k54 u0 j3 x1 x2 v12 else (vp_in x1 4) ∧ (wp_X3_become u0 j3 (2 + x1.toNatClampNeg) (fun (u15 : pa_S) => (wp_X3_shakeHands u15 j3 x4 x5 (fun (r16 : Int32) (u17 : pa_S) => (vp_in x1 3) ∧ ∀ u19 : pa_S, u19 = pa_sA u17 23 0 (upd (pa_A u17 23 0) x1.toNatClampNeg ((10 * x4) + x5)) → (rec_X6_isSoAfter u19 (x1 + 1) x2 (fun (r20 : Int32) (u21 : pa_S) => (if r20 = 0 then ∀ v23 : Int32, v23 = x5 + 1 → k72 u21 j3 x1 x2 x4 v23 else post 1 u21))))))))
set_option maxRecDepth 100000 in
set_option maxHeartbeats 4000000 in
theorem tb_X6_isSoAfter_72 {p : Program} {l : Launch} {e : Env} {s : State} {m : MethodId} {args : Array Value} {below : List Frame} {meth : Method} {c : Code} {A : Nat → Prop} {D : va_G} {g : pa_G} {q : Nat → Nat → Nat} {d : Nat} {rec_X6_isSoAfter : pa_S → Int32 → Int32 → (Int32 → pa_S → Prop) → Prop} {k54 : pa_S → Nat → Int32 → Int32 → Int32 → Prop} {k72 : pa_S → Nat → Int32 → Int32 → Int32 → Int32 → Prop} {u0 : pa_S} {j3 : Nat} {x1 : Int32} {x2 : Int32} {x4 : Int32} {x5 : Int32} {post : Int32 → pa_S → Prop} (hE : pa_Fx p s m args meth c A D g 6 cX6_isSoAfter RX6) (hr : meth.sig.returnType = (some .boolean)) (hj3 : j3 < 6) (hrec_X6_isSoAfter : ∀ (u : pa_S) (x1 : Int32) (x2 : Int32) (po : Int32 → pa_S → Prop), rec_X6_isSoAfter u x1 x2 po → pa_Ct l yX6_isSoAfter cX6_isSoAfter 6 (some .boolean) (7 + d) g D q u [.ref (q 0 0), .int x1, .int x2] (fun r => some (.int r)) po) (hk54 : ∀ (u : pa_S) (j3 : Nat) (x1 : Int32) (x2 : Int32) (x4 : Int32), j3 < 6 → k54 u j3 x1 x2 x4 → pa_At p l e (pa_rm (7 + (d + 1))) s m args below meth c (MQ below (pa_Qc g D q (fun r => some (.int r)) post A) args s 0 0 A) A D g 6 0 0 q u 54 [(0, .ref (q 0 0)), (1, .int x1), (2, .int x2), (3, .ref (q 1 j3)), (4, .int x4)] []) (hk72 : ∀ (u : pa_S) (j3 : Nat) (x1 : Int32) (x2 : Int32) (x4 : Int32) (x5 : Int32), j3 < 6 → k72 u j3 x1 x2 x4 x5 → pa_At p l e (pa_rm (7 + (d + 1))) s m args below meth c (MQ below (pa_Qc g D q (fun r => some (.int r)) post A) args s 0 0 A) A D g 6 0 0 q u 72 [(0, .ref (q 0 0)), (1, .int x1), (2, .int x2), (3, .ref (q 1 j3)), (4, .int x4), (5, .int x5)] []) (hw : wb_X6_isSoAfter_72 rec_X6_isSoAfter k54 k72 u0 j3 x1 x2 x4 x5 post) : pa_At p l e (pa_rm (7 + (d + 1))) s m args below meth c (MQ below (pa_Qc g D q (fun r => some (.int r)) post A) args s 0 0 A) A D g 6 0 0 q u0 72 [(0, .ref (q 0 0)), (1, .int x1), (2, .int x2), (3, .ref (q 1 j3)), (4, .int x4), (5, .int x5)] [] := by
  refine pa_iload hE dX6_isSoAfter_72 5 rfl ?_
  refine pa_aload_n hE dX6_isSoAfter_74 rfl 0 rfl ?_
  refine pg_0_0 hE (pa_m1 196 rfl rfl) dX6_isSoAfter_75 ?_
  refine pg_1_6 (pa_in1 (by decide)) hE (pa_m1 148 rfl rfl) dX6_isSoAfter_78 ?_
  refine pa_icmp_ge hE dX6_isSoAfter_81 (tgt := 136) (by decide) (fun h11 => ?_) (fun h11 => ?_)
  · have hw := Eq.mp (if_pos h11) hw
    refine pa_iinc hE dX6_isSoAfter_136 (v := 1) 4 rfl (by decide) (by decide) (lvr := [(0, .ref (q 0 0)), (1, .int x1), (2, .int x2), (3, .ref (q 1 j3)), (5, .int x5)]) rfl (fun v12 ev12 => ?_)
    have hw := hw v12 ev12
    refine pa_goto hE dX6_isSoAfter_139 (tgt := 54) (by decide) ?_
    exact pa_sub [1, 2, 3, 4, 0] rfl (hk54 u0 j3 x1 x2 v12 hj3 hw)
  · have hw := Eq.mp (if_neg h11) hw
    refine pa_aload_n hE dX6_isSoAfter_84 rfl 3 rfl ?_
    refine pa_aload_n hE dX6_isSoAfter_85 rfl 0 rfl ?_
    refine pg_0_2 hE (pa_m1 198 rfl rfl) dX6_isSoAfter_86 ?_
    refine pa_iload_n hE dX6_isSoAfter_89 rfl 1 rfl ?_
    obtain ⟨h13, hw⟩ := hw
    refine pa_aaldS hE h13 (n := (2 + x1.toNatClampNeg)) rfl dX6_isSoAfter_90 ?_
    refine pa_callVv hE (ct_X3_become l g D q u0 j3 (2 + x1.toNatClampNeg) _ hj3 (pa_inlt4 h13) hw) cv_RX6_194 (pa_in1 hj3) rfl rfl rfl (pa_hR (by omega) (by decide)) rfl (Nat.le_of_ble_eq_true rfl) dX6_isSoAfter_91 (fun u15 hw => ?_)
    refine pa_aload_n hE dX6_isSoAfter_94 rfl 3 rfl ?_
    refine pa_iload hE dX6_isSoAfter_95 4 rfl ?_
    refine pa_iload hE dX6_isSoAfter_97 5 rfl ?_
    refine pa_callVi hE (ct_X3_shakeHands l g D q u15 j3 x4 x5 _ hj3 hw) cv_RX6_147 (pa_in1 hj3) rfl rfl rfl (pa_hR (by omega) (by decide)) rfl (Nat.le_of_ble_eq_true rfl) dX6_isSoAfter_99 (fun r16 u17 hw => ?_)
    refine pa_pop hE dX6_isSoAfter_102 rfl ?_
    refine pa_aload_n hE dX6_isSoAfter_103 rfl 0 rfl ?_
    refine pg_0_10 hE (pa_m1 206 rfl rfl) dX6_isSoAfter_104 ?_
    refine pa_iload_n hE dX6_isSoAfter_107 rfl 1 rfl ?_
    refine pa_bipush hE dX6_isSoAfter_108 (v := 10) (by decide) ?_
    refine pa_iload hE dX6_isSoAfter_110 4 rfl ?_
    refine pa_imul hE dX6_isSoAfter_112 ?_
    refine pa_iload hE dX6_isSoAfter_113 5 rfl ?_
    refine pa_iadd hE dX6_isSoAfter_115 ?_
    obtain ⟨h18, hw⟩ := hw
    refine ps_23 hE h18 dX6_isSoAfter_116 (fun u19 eu19 => ?_)
    have hw := hw u19 eu19
    refine pa_aload_n hE dX6_isSoAfter_117 rfl 0 rfl ?_
    refine pa_iload_n hE dX6_isSoAfter_118 rfl 1 rfl ?_
    refine pa_iconst hE dX6_isSoAfter_119 (v := 1) (by decide) ?_
    refine pa_iadd hE dX6_isSoAfter_120 ?_
    refine pa_iload_n hE dX6_isSoAfter_121 rfl 2 rfl ?_
    refine pa_callVi hE (hrec_X6_isSoAfter u19 (x1 + 1) x2 _ hw) cv_RX6_221 pa_in0 rfl rfl rfl (pa_hR (by omega) (by decide)) rfl (Nat.le_of_ble_eq_true rfl) dX6_isSoAfter_122 (fun r20 u21 hw => ?_)
    refine pa_if_eq hE dX6_isSoAfter_125 (tgt := 130) (by decide) (fun h22 => ?_) (fun h22 => ?_)
    · have hw := Eq.mp (if_pos h22) hw
      refine pa_iinc hE dX6_isSoAfter_130 (v := 1) 5 rfl (by decide) (by decide) (lvr := [(0, .ref (q 0 0)), (1, .int x1), (2, .int x2), (3, .ref (q 1 j3)), (4, .int x4)]) rfl (fun v23 ev23 => ?_)
      have hw := hw v23 ev23
      refine pa_goto hE dX6_isSoAfter_133 (tgt := 72) (by decide) ?_
      exact pa_sub [1, 2, 3, 4, 5, 0] rfl (hk72 u21 j3 x1 x2 x4 v23 hj3 hw)
    · have hw := Eq.mp (if_neg h22) hw
      refine pa_iconst hE dX6_isSoAfter_128 (v := 1) (by decide) ?_
      exact pa_zret hE hr (by decide) hw rfl dX6_isSoAfter_129
def wl_X6_isSoAfter_72 (rec_X6_isSoAfter : pa_S → Int32 → Int32 → (Int32 → pa_S → Prop) → Prop) (k54 : pa_S → Nat → Int32 → Int32 → Int32 → Prop) (post : Int32 → pa_S → Prop) : Nat → pa_S → Nat → Int32 → Int32 → Int32 → Int32 → Prop
  | 0, _, _, _, _, _, _ => False
  | n + 1, u0, j3, x1, x2, x4, x5 => wb_X6_isSoAfter_72 rec_X6_isSoAfter k54 (fun u0 j3 x1 x2 x4 x5 => wl_X6_isSoAfter_72 rec_X6_isSoAfter k54 post n u0 j3 x1 x2 x4 x5) u0 j3 x1 x2 x4 x5 post
set_option maxRecDepth 100000 in
set_option maxHeartbeats 4000000 in
theorem tl_X6_isSoAfter_72 {p : Program} {l : Launch} {e : Env} {s : State} {m : MethodId} {args : Array Value} {below : List Frame} {meth : Method} {c : Code} {A : Nat → Prop} {D : va_G} {g : pa_G} {q : Nat → Nat → Nat} {d : Nat} {rec_X6_isSoAfter : pa_S → Int32 → Int32 → (Int32 → pa_S → Prop) → Prop} {k54 : pa_S → Nat → Int32 → Int32 → Int32 → Prop} {post : Int32 → pa_S → Prop} (hE : pa_Fx p s m args meth c A D g 6 cX6_isSoAfter RX6) (hr : meth.sig.returnType = (some .boolean)) (hrec_X6_isSoAfter : ∀ (u : pa_S) (x1 : Int32) (x2 : Int32) (po : Int32 → pa_S → Prop), rec_X6_isSoAfter u x1 x2 po → pa_Ct l yX6_isSoAfter cX6_isSoAfter 6 (some .boolean) (7 + d) g D q u [.ref (q 0 0), .int x1, .int x2] (fun r => some (.int r)) po) (hk54 : ∀ (u : pa_S) (j3 : Nat) (x1 : Int32) (x2 : Int32) (x4 : Int32), j3 < 6 → k54 u j3 x1 x2 x4 → pa_At p l e (pa_rm (7 + (d + 1))) s m args below meth c (MQ below (pa_Qc g D q (fun r => some (.int r)) post A) args s 0 0 A) A D g 6 0 0 q u 54 [(0, .ref (q 0 0)), (1, .int x1), (2, .int x2), (3, .ref (q 1 j3)), (4, .int x4)] []) : ∀ (n : Nat) (u0 : pa_S) (j3 : Nat) (x1 : Int32) (x2 : Int32) (x4 : Int32) (x5 : Int32), j3 < 6 → wl_X6_isSoAfter_72 rec_X6_isSoAfter k54 post n u0 j3 x1 x2 x4 x5 → pa_At p l e (pa_rm (7 + (d + 1))) s m args below meth c (MQ below (pa_Qc g D q (fun r => some (.int r)) post A) args s 0 0 A) A D g 6 0 0 q u0 72 [(0, .ref (q 0 0)), (1, .int x1), (2, .int x2), (3, .ref (q 1 j3)), (4, .int x4), (5, .int x5)] []
  | 0, _, _, _, _, _, _, _, hw => absurd hw (by simp only [wl_X6_isSoAfter_72]; exact fun z => z)
  | n + 1, u0, j3, x1, x2, x4, x5, hj3, hw => tb_X6_isSoAfter_72 hE hr hj3 hrec_X6_isSoAfter hk54 (fun u0 j3 x1 x2 x4 x5 hj3 hw1 => tl_X6_isSoAfter_72 hE hr hrec_X6_isSoAfter hk54 n u0 j3 x1 x2 x4 x5 hj3 hw1) hw
def wb_X6_isSoAfter_54 (rec_X6_isSoAfter : pa_S → Int32 → Int32 → (Int32 → pa_S → Prop) → Prop) (k54 : pa_S → Nat → Int32 → Int32 → Int32 → Prop) (u0 : pa_S) (j3 : Nat) (x1 : Int32) (x2 : Int32) (x4 : Int32) (post : Int32 → pa_S → Prop) : Prop :=
  (if (pa_I u0 1 0 6) ≤ x4 then post 0 u0 else ∀ v10 : Int32, v10 = (x4 + 1) → wl_X6_isSoAfter_72 rec_X6_isSoAfter k54 post 5000 u0 j3 x1 x2 x4 v10)
set_option maxRecDepth 100000 in
set_option maxHeartbeats 4000000 in
theorem tb_X6_isSoAfter_54 {p : Program} {l : Launch} {e : Env} {s : State} {m : MethodId} {args : Array Value} {below : List Frame} {meth : Method} {c : Code} {A : Nat → Prop} {D : va_G} {g : pa_G} {q : Nat → Nat → Nat} {d : Nat} {rec_X6_isSoAfter : pa_S → Int32 → Int32 → (Int32 → pa_S → Prop) → Prop} {k54 : pa_S → Nat → Int32 → Int32 → Int32 → Prop} {u0 : pa_S} {j3 : Nat} {x1 : Int32} {x2 : Int32} {x4 : Int32} {post : Int32 → pa_S → Prop} (hE : pa_Fx p s m args meth c A D g 6 cX6_isSoAfter RX6) (hr : meth.sig.returnType = (some .boolean)) (hj3 : j3 < 6) (hrec_X6_isSoAfter : ∀ (u : pa_S) (x1 : Int32) (x2 : Int32) (po : Int32 → pa_S → Prop), rec_X6_isSoAfter u x1 x2 po → pa_Ct l yX6_isSoAfter cX6_isSoAfter 6 (some .boolean) (7 + d) g D q u [.ref (q 0 0), .int x1, .int x2] (fun r => some (.int r)) po) (hk54 : ∀ (u : pa_S) (j3 : Nat) (x1 : Int32) (x2 : Int32) (x4 : Int32), j3 < 6 → k54 u j3 x1 x2 x4 → pa_At p l e (pa_rm (7 + (d + 1))) s m args below meth c (MQ below (pa_Qc g D q (fun r => some (.int r)) post A) args s 0 0 A) A D g 6 0 0 q u 54 [(0, .ref (q 0 0)), (1, .int x1), (2, .int x2), (3, .ref (q 1 j3)), (4, .int x4)] []) (hw : wb_X6_isSoAfter_54 rec_X6_isSoAfter k54 u0 j3 x1 x2 x4 post) : pa_At p l e (pa_rm (7 + (d + 1))) s m args below meth c (MQ below (pa_Qc g D q (fun r => some (.int r)) post A) args s 0 0 A) A D g 6 0 0 q u0 54 [(0, .ref (q 0 0)), (1, .int x1), (2, .int x2), (3, .ref (q 1 j3)), (4, .int x4)] [] := by
  refine pa_iload hE dX6_isSoAfter_54 4 rfl ?_
  refine pa_aload_n hE dX6_isSoAfter_56 rfl 0 rfl ?_
  refine pg_0_0 hE (pa_m1 196 rfl rfl) dX6_isSoAfter_57 ?_
  refine pg_1_6 (pa_in1 (by decide)) hE (pa_m1 148 rfl rfl) dX6_isSoAfter_60 ?_
  refine pa_icmp_ge hE dX6_isSoAfter_63 (tgt := 142) (by decide) (fun h9 => ?_) (fun h9 => ?_)
  · have hw := Eq.mp (if_pos h9) hw
    refine pa_iconst hE dX6_isSoAfter_142 (v := 0) (by decide) ?_
    exact pa_zret hE hr (by decide) hw rfl dX6_isSoAfter_143
  · have hw := Eq.mp (if_neg h9) hw
    refine pa_iload hE dX6_isSoAfter_66 4 rfl ?_
    refine pa_iconst hE dX6_isSoAfter_68 (v := 1) (by decide) ?_
    refine pa_iadd hE dX6_isSoAfter_69 ?_
    refine pa_namei (fun v10 ev10 => ?_)
    have hw := hw v10 ev10
    refine pa_istore hE dX6_isSoAfter_70 (by decide) (lvr := [(0, .ref (q 0 0)), (1, .int x1), (2, .int x2), (3, .ref (q 1 j3)), (4, .int x4)]) rfl ?_
    exact pa_sub [1, 2, 3, 4, 5, 0] rfl (tl_X6_isSoAfter_72 hE hr hrec_X6_isSoAfter hk54 5000 u0 j3 x1 x2 x4 v10 hj3 hw)
def wl_X6_isSoAfter_54 (rec_X6_isSoAfter : pa_S → Int32 → Int32 → (Int32 → pa_S → Prop) → Prop) (post : Int32 → pa_S → Prop) : Nat → pa_S → Nat → Int32 → Int32 → Int32 → Prop
  | 0, _, _, _, _, _ => False
  | n + 1, u0, j3, x1, x2, x4 => wb_X6_isSoAfter_54 rec_X6_isSoAfter (fun u0 j3 x1 x2 x4 => wl_X6_isSoAfter_54 rec_X6_isSoAfter post n u0 j3 x1 x2 x4) u0 j3 x1 x2 x4 post
set_option maxRecDepth 100000 in
set_option maxHeartbeats 4000000 in
theorem tl_X6_isSoAfter_54 {p : Program} {l : Launch} {e : Env} {s : State} {m : MethodId} {args : Array Value} {below : List Frame} {meth : Method} {c : Code} {A : Nat → Prop} {D : va_G} {g : pa_G} {q : Nat → Nat → Nat} {d : Nat} {rec_X6_isSoAfter : pa_S → Int32 → Int32 → (Int32 → pa_S → Prop) → Prop} {post : Int32 → pa_S → Prop} (hE : pa_Fx p s m args meth c A D g 6 cX6_isSoAfter RX6) (hr : meth.sig.returnType = (some .boolean)) (hrec_X6_isSoAfter : ∀ (u : pa_S) (x1 : Int32) (x2 : Int32) (po : Int32 → pa_S → Prop), rec_X6_isSoAfter u x1 x2 po → pa_Ct l yX6_isSoAfter cX6_isSoAfter 6 (some .boolean) (7 + d) g D q u [.ref (q 0 0), .int x1, .int x2] (fun r => some (.int r)) po) : ∀ (n : Nat) (u0 : pa_S) (j3 : Nat) (x1 : Int32) (x2 : Int32) (x4 : Int32), j3 < 6 → wl_X6_isSoAfter_54 rec_X6_isSoAfter post n u0 j3 x1 x2 x4 → pa_At p l e (pa_rm (7 + (d + 1))) s m args below meth c (MQ below (pa_Qc g D q (fun r => some (.int r)) post A) args s 0 0 A) A D g 6 0 0 q u0 54 [(0, .ref (q 0 0)), (1, .int x1), (2, .int x2), (3, .ref (q 1 j3)), (4, .int x4)] []
  | 0, _, _, _, _, _, _, hw => absurd hw (by simp only [wl_X6_isSoAfter_54]; exact fun z => z)
  | n + 1, u0, j3, x1, x2, x4, hj3, hw => tb_X6_isSoAfter_54 hE hr hj3 hrec_X6_isSoAfter (fun u0 j3 x1 x2 x4 hj3 hw1 => tl_X6_isSoAfter_54 hE hr hrec_X6_isSoAfter n u0 j3 x1 x2 x4 hj3 hw1) hw
def wb_X6_isSoAfter_0 (rec_X6_isSoAfter : pa_S → Int32 → Int32 → (Int32 → pa_S → Prop) → Prop) (u0 : pa_S) (x1 : Int32) (x2 : Int32) (post : Int32 → pa_S → Prop) : Prop :=
  (if x1 < 0 then post 0 u0 else (if x1 ≤ 3 then (if x2 ≤ x1 then wb_X6_isSoAfter_21 rec_X6_isSoAfter u0 x1 post else (if x1 = 3 then wb_X6_isSoAfter_21 rec_X6_isSoAfter u0 x1 post else (vp_in (x1 + 1) 4) ∧ wl_X6_isSoAfter_54 rec_X6_isSoAfter post 5000 u0 (2 + (x1 + 1).toNatClampNeg) x1 x2 0)) else post 0 u0))
set_option maxRecDepth 100000 in
set_option maxHeartbeats 4000000 in
theorem tb_X6_isSoAfter_0 {p : Program} {l : Launch} {e : Env} {s : State} {m : MethodId} {args : Array Value} {below : List Frame} {meth : Method} {c : Code} {A : Nat → Prop} {D : va_G} {g : pa_G} {q : Nat → Nat → Nat} {d : Nat} {rec_X6_isSoAfter : pa_S → Int32 → Int32 → (Int32 → pa_S → Prop) → Prop} {u0 : pa_S} {x1 : Int32} {x2 : Int32} {post : Int32 → pa_S → Prop} (hE : pa_Fx p s m args meth c A D g 6 cX6_isSoAfter RX6) (hr : meth.sig.returnType = (some .boolean)) (hrec_X6_isSoAfter : ∀ (u : pa_S) (x1 : Int32) (x2 : Int32) (po : Int32 → pa_S → Prop), rec_X6_isSoAfter u x1 x2 po → pa_Ct l yX6_isSoAfter cX6_isSoAfter 6 (some .boolean) (7 + d) g D q u [.ref (q 0 0), .int x1, .int x2] (fun r => some (.int r)) po) (hw : wb_X6_isSoAfter_0 rec_X6_isSoAfter u0 x1 x2 post) : pa_At p l e (pa_rm (7 + (d + 1))) s m args below meth c (MQ below (pa_Qc g D q (fun r => some (.int r)) post A) args s 0 0 A) A D g 6 0 0 q u0 0 [(0, .ref (q 0 0)), (1, .int x1), (2, .int x2)] [] := by
  refine pa_iload_n hE dX6_isSoAfter_0 rfl 1 rfl ?_
  refine pa_if_lt hE dX6_isSoAfter_1 (tgt := 9) (by decide) (fun h1 => ?_) (fun h1 => ?_)
  · have hw := Eq.mp (if_pos h1) hw
    refine pa_iconst hE dX6_isSoAfter_9 (v := 0) (by decide) ?_
    exact pa_zret hE hr (by decide) hw rfl dX6_isSoAfter_10
  · have hw := Eq.mp (if_neg h1) hw
    refine pa_iload_n hE dX6_isSoAfter_4 rfl 1 rfl ?_
    refine pa_iconst hE dX6_isSoAfter_5 (v := 3) (by decide) ?_
    refine pa_icmp_le hE dX6_isSoAfter_6 (tgt := 11) (by decide) (fun h2 => ?_) (fun h2 => ?_)
    · have hw := Eq.mp (if_pos h2) hw
      refine pa_iload_n hE dX6_isSoAfter_11 rfl 1 rfl ?_
      refine pa_iload_n hE dX6_isSoAfter_12 rfl 2 rfl ?_
      refine pa_icmp_ge hE dX6_isSoAfter_13 (tgt := 21) (by decide) (fun h3 => ?_) (fun h3 => ?_)
      · have hw := Eq.mp (if_pos h3) hw
        exact pa_sub [0, 1] rfl (tb_X6_isSoAfter_21 hE hr hrec_X6_isSoAfter hw)
      · have hw := Eq.mp (if_neg h3) hw
        refine pa_iload_n hE dX6_isSoAfter_16 rfl 1 rfl ?_
        refine pa_iconst hE dX6_isSoAfter_17 (v := 3) (by decide) ?_
        refine pa_icmp_ne hE dX6_isSoAfter_18 (tgt := 42) (by decide) (fun h7 => ?_) (fun h7 => ?_)
        · have hw := Eq.mp (if_neg h7) hw
          refine pa_aload_n hE dX6_isSoAfter_42 rfl 0 rfl ?_
          refine pg_0_2 hE (pa_m1 198 rfl rfl) dX6_isSoAfter_43 ?_
          refine pa_iload_n hE dX6_isSoAfter_46 rfl 1 rfl ?_
          refine pa_iconst hE dX6_isSoAfter_47 (v := 1) (by decide) ?_
          refine pa_iadd hE dX6_isSoAfter_48 ?_
          obtain ⟨h8, hw⟩ := hw
          refine pa_aaldS hE h8 (n := (2 + (x1 + 1).toNatClampNeg)) rfl dX6_isSoAfter_49 ?_
          refine pa_astore_n hE dX6_isSoAfter_50 rfl (by decide) (lvr := [(0, .ref (q 0 0)), (1, .int x1), (2, .int x2)]) rfl ?_
          refine pa_iconst hE dX6_isSoAfter_51 (v := 0) (by decide) ?_
          refine pa_istore hE dX6_isSoAfter_52 (by decide) (lvr := [(3, .ref (q 1 (2 + (x1 + 1).toNatClampNeg))), (0, .ref (q 0 0)), (1, .int x1), (2, .int x2)]) rfl ?_
          exact pa_sub [2, 3, 4, 1, 0] rfl (tl_X6_isSoAfter_54 hE hr hrec_X6_isSoAfter 5000 u0 (2 + (x1 + 1).toNatClampNeg) x1 x2 0 (pa_inlt4 h8) hw)
        · have hw := Eq.mp (if_pos h7) hw
          exact pa_sub [0, 1] rfl (tb_X6_isSoAfter_21 hE hr hrec_X6_isSoAfter hw)
    · have hw := Eq.mp (if_neg h2) hw
      refine pa_iconst hE dX6_isSoAfter_9 (v := 0) (by decide) ?_
      exact pa_zret hE hr (by decide) hw rfl dX6_isSoAfter_10
def wg_2 : Nat → Nat → pa_S → Int32 → Int32 → (Int32 → pa_S → Prop) → Prop
  | 0, _, _, _, _, _ => False
  | d + 1, k, u, a0, a1, po => wb_X6_isSoAfter_0 (fun u x1 x2 po => wg_2 d 0 u x1 x2 po) u a0 a1 po
theorem wge_2_0 {d : Nat} {u : pa_S} {x1 : Int32} {x2 : Int32} {po : Int32 → pa_S → Prop} : wg_2 (d + 1) 0 u x1 x2 po = wb_X6_isSoAfter_0 (fun u x1 x2 po => wg_2 d 0 u x1 x2 po) u x1 x2 po := by
  rw [wg_2]
  
set_option maxRecDepth 100000 in
set_option maxHeartbeats 4000000 in
theorem cg_2 (l : Launch) (g : pa_G) (D : va_G) (q : Nat → Nat → Nat) : ∀ d : Nat, (∀ (u : pa_S) (x1 : Int32) (x2 : Int32) (po : Int32 → pa_S → Prop), wg_2 d 0 u x1 x2 po → pa_Ct l yX6_isSoAfter cX6_isSoAfter 6 (some .boolean) (7 + d) g D q u [.ref (q 0 0), .int x1, .int x2] (fun r => some (.int r)) po) := by
  intro d
  induction d with
  | zero => exact fun _ _ _ _ hw => absurd hw (by simp only [wg_2]; exact fun z => z)
  | succ d ih =>
    have h0 := ih
    intro u x1 x2 po hw
    exact pa_met rfl rfl (Nat.le_of_ble_eq_true rfl) rfl (fun p e s m args below meth c A hE hr => tb_X6_isSoAfter_0 (d := d) hE hr h0 (Eq.mp wge_2_0 hw))

def wp_X6_isSoAfter (u0 : pa_S) (x1 : Int32) (x2 : Int32) (post : Int32 → pa_S → Prop) : Prop := wg_2 8 0 u0 x1 x2 post
theorem ct_X6_isSoAfter (l : Launch) (g : pa_G) (D : va_G) (q : Nat → Nat → Nat) (u0 : pa_S) (x1 : Int32) (x2 : Int32) (post : Int32 → pa_S → Prop) (hw : wp_X6_isSoAfter u0 x1 x2 post) : pa_Ct l yX6_isSoAfter cX6_isSoAfter 6 (some .boolean) 15 g D q u0 [.ref (q 0 0), .int x1, .int x2] (fun r => some (.int r)) post := (cg_2 l g D q 8) u0 x1 x2 post hw
def wb_X6_shaken_26 (k26 : pa_S → Int32 → Int32 → Prop) (u0 : pa_S) (x1 : Int32) (x2 : Int32) (post : Int32 → pa_S → Prop) : Prop :=
  (if 3 < x2 then post (-5 : Int32) u0 else (wp_X6_isSoAfter u0 0 x2 (fun (r6 : Int32) (u7 : pa_S) => (if r6 = 0 then ∀ v9 : Int32, v9 = x2 + 1 → k26 u7 x1 v9 else (if 0 ≤ x1 then (if x2 ≤ x1 then post (-5 : Int32) u7 else (vp_in x1 3) ∧ post (pa_A u7 23 0 x1.toNatClampNeg) u7) else post x2 u7)))))
set_option maxRecDepth 100000 in
set_option maxHeartbeats 4000000 in
theorem tb_X6_shaken_26 {p : Program} {l : Launch} {e : Env} {s : State} {m : MethodId} {args : Array Value} {below : List Frame} {meth : Method} {c : Code} {A : Nat → Prop} {D : va_G} {g : pa_G} {q : Nat → Nat → Nat} {k26 : pa_S → Int32 → Int32 → Prop} {u0 : pa_S} {x1 : Int32} {x2 : Int32} {post : Int32 → pa_S → Prop} (hE : pa_Fx p s m args meth c A D g 3 cX6_shaken RX6) (hr : meth.sig.returnType = (some .int)) (hk26 : ∀ (u : pa_S)  (x1 : Int32) (x2 : Int32), k26 u x1 x2 → pa_At p l e (pa_rm 16) s m args below meth c (MQ below (pa_Qc g D q (fun r => some (.int r)) post A) args s 0 0 A) A D g 3 0 0 q u 26 [(0, .ref (q 0 0)), (1, .int x1), (2, .int x2)] []) (hw : wb_X6_shaken_26 k26 u0 x1 x2 post) : pa_At p l e (pa_rm 16) s m args below meth c (MQ below (pa_Qc g D q (fun r => some (.int r)) post A) args s 0 0 A) A D g 3 0 0 q u0 26 [(0, .ref (q 0 0)), (1, .int x1), (2, .int x2)] [] := by
  refine pa_iload_n hE dX6_shaken_26 rfl 2 rfl ?_
  refine pa_iconst hE dX6_shaken_27 (v := 3) (by decide) ?_
  refine pa_icmp_gt hE dX6_shaken_28 (tgt := 71) (by decide) (fun h5 => ?_) (fun h5 => ?_)
  · have hw := Eq.mp (if_pos h5) hw
    refine pa_bipush hE dX6_shaken_71 (v := (-5 : Int32)) (by decide) ?_
    exact pa_iret hE hr hw rfl dX6_shaken_73
  · have hw := Eq.mp (if_neg h5) hw
    refine pa_aload_n hE dX6_shaken_31 rfl 0 rfl ?_
    refine pa_iconst hE dX6_shaken_32 (v := 0) (by decide) ?_
    refine pa_iload_n hE dX6_shaken_33 rfl 2 rfl ?_
    refine pa_callVi hE (ct_X6_isSoAfter l g D q u0 0 x2 _ hw) cv_RX6_221 pa_in0 rfl rfl rfl (pa_hR (by omega) (by decide)) rfl (Nat.le_of_ble_eq_true rfl) dX6_shaken_34 (fun r6 u7 hw => ?_)
    refine pa_if_eq hE dX6_shaken_37 (tgt := 65) (by decide) (fun h8 => ?_) (fun h8 => ?_)
    · have hw := Eq.mp (if_pos h8) hw
      refine pa_iinc hE dX6_shaken_65 (v := 1) 2 rfl (by decide) (by decide) (lvr := [(0, .ref (q 0 0)), (1, .int x1)]) rfl (fun v9 ev9 => ?_)
      have hw := hw v9 ev9
      refine pa_goto hE dX6_shaken_68 (tgt := 26) (by decide) ?_
      exact pa_sub [1, 2, 0] rfl (hk26 u7 x1 v9 hw)
    · have hw := Eq.mp (if_neg h8) hw
      refine pa_iload_n hE dX6_shaken_40 rfl 1 rfl ?_
      refine pa_if_ge hE dX6_shaken_41 (tgt := 48) (by decide) (fun h10 => ?_) (fun h10 => ?_)
      · have hw := Eq.mp (if_pos h10) hw
        refine pa_iload_n hE dX6_shaken_48 rfl 1 rfl ?_
        refine pa_iload_n hE dX6_shaken_49 rfl 2 rfl ?_
        refine pa_icmp_ge hE dX6_shaken_50 (tgt := 62) (by decide) (fun h11 => ?_) (fun h11 => ?_)
        · have hw := Eq.mp (if_pos h11) hw
          refine pa_bipush hE dX6_shaken_62 (v := (-5 : Int32)) (by decide) ?_
          exact pa_iret hE hr hw rfl dX6_shaken_64
        · have hw := Eq.mp (if_neg h11) hw
          refine pa_aload_n hE dX6_shaken_53 rfl 0 rfl ?_
          refine pg_0_10 hE (pa_m1 206 rfl rfl) dX6_shaken_54 ?_
          refine pa_iload_n hE dX6_shaken_57 rfl 1 rfl ?_
          obtain ⟨h12, hw⟩ := hw
          refine pl_23 hE h12 dX6_shaken_58 ?_
          refine pa_goto hE dX6_shaken_59 (tgt := 64) (by decide) ?_
          exact pa_iret hE hr hw rfl dX6_shaken_64
      · have hw := Eq.mp (if_neg h10) hw
        refine pa_iload_n hE dX6_shaken_44 rfl 2 rfl ?_
        refine pa_goto hE dX6_shaken_45 (tgt := 64) (by decide) ?_
        exact pa_iret hE hr hw rfl dX6_shaken_64
def wl_X6_shaken_26 (post : Int32 → pa_S → Prop) : Nat → pa_S → Int32 → Int32 → Prop
  | 0, _, _, _ => False
  | n + 1, u0, x1, x2 => wb_X6_shaken_26 (fun u0 x1 x2 => wl_X6_shaken_26 post n u0 x1 x2) u0 x1 x2 post
set_option maxRecDepth 100000 in
set_option maxHeartbeats 4000000 in
theorem tl_X6_shaken_26 {p : Program} {l : Launch} {e : Env} {s : State} {m : MethodId} {args : Array Value} {below : List Frame} {meth : Method} {c : Code} {A : Nat → Prop} {D : va_G} {g : pa_G} {q : Nat → Nat → Nat} {post : Int32 → pa_S → Prop} (hE : pa_Fx p s m args meth c A D g 3 cX6_shaken RX6) (hr : meth.sig.returnType = (some .int)) : ∀ (n : Nat) (u0 : pa_S) (x1 : Int32) (x2 : Int32), wl_X6_shaken_26 post n u0 x1 x2 → pa_At p l e (pa_rm 16) s m args below meth c (MQ below (pa_Qc g D q (fun r => some (.int r)) post A) args s 0 0 A) A D g 3 0 0 q u0 26 [(0, .ref (q 0 0)), (1, .int x1), (2, .int x2)] []
  | 0, _, _, _, hw => absurd hw (by simp only [wl_X6_shaken_26]; exact fun z => z)
  | n + 1, u0, x1, x2, hw => tb_X6_shaken_26 hE hr (fun u0 x1 x2  hw1 => tl_X6_shaken_26 hE hr  n u0 x1 x2  hw1) hw
def wb_X6_shaken_0 (u0 : pa_S) (x1 : Int32) (post : Int32 → pa_S → Prop) : Prop :=
  (wp_X6_within u0 x1 (-1 : Int32) 2 (fun (r1 : Int32) => (if r1 = 0 then post (-1 : Int32) u0 else (wp_X3_become u0 2 0 (fun (u4 : pa_S) => wl_X6_shaken_26 post 5000 u4 x1 0)))))
set_option maxRecDepth 100000 in
set_option maxHeartbeats 4000000 in
theorem tb_X6_shaken_0 {p : Program} {l : Launch} {e : Env} {s : State} {m : MethodId} {args : Array Value} {below : List Frame} {meth : Method} {c : Code} {A : Nat → Prop} {D : va_G} {g : pa_G} {q : Nat → Nat → Nat} {u0 : pa_S} {x1 : Int32} {post : Int32 → pa_S → Prop} (hE : pa_Fx p s m args meth c A D g 3 cX6_shaken RX6) (hr : meth.sig.returnType = (some .int)) (hw : wb_X6_shaken_0 u0 x1 post) : pa_At p l e (pa_rm 16) s m args below meth c (MQ below (pa_Qc g D q (fun r => some (.int r)) post A) args s 0 0 A) A D g 3 0 0 q u0 0 [(0, .ref (q 0 0)), (1, .int x1)] [] := by
  refine pa_iload_n hE dX6_shaken_0 rfl 1 rfl ?_
  refine pa_iconst hE dX6_shaken_1 (v := (-1 : Int32)) (by decide) ?_
  refine pa_iconst hE dX6_shaken_2 (v := 2) (by decide) ?_
  refine pa_callSri hE (ct_X6_within l g D q u0 x1 (-1 : Int32) 2 _ hw) cs_RX6_79 rfl (pa_hR (by omega) (by decide)) rfl (Nat.le_of_ble_eq_true rfl) dX6_shaken_3 (fun r1 hw => ?_)
  refine pa_if_ne hE dX6_shaken_6 (tgt := 11) (by decide) (fun h2 => ?_) (fun h2 => ?_)
  · have hw := Eq.mp (if_neg h2) hw
    refine pa_aload_n hE dX6_shaken_11 rfl 0 rfl ?_
    refine pg_0_2 hE (pa_m1 198 rfl rfl) dX6_shaken_12 ?_
    refine pa_iconst hE dX6_shaken_15 (v := 0) (by decide) ?_
    refine pa_aaldS hE (by unfold vp_in; decide) (n := 2) (by decide) dX6_shaken_16 ?_
    refine pa_aload_n hE dX6_shaken_17 rfl 0 rfl ?_
    refine pg_0_0 hE (pa_m1 196 rfl rfl) dX6_shaken_18 ?_
    refine pa_callVv hE (ct_X3_become l g D q u0 2 0 _ (by decide) (by decide) hw) cv_RX6_194 (pa_in1 (by decide)) rfl rfl rfl (pa_hR (by omega) (by decide)) rfl (Nat.le_of_ble_eq_true rfl) dX6_shaken_21 (fun u4 hw => ?_)
    refine pa_iconst hE dX6_shaken_24 (v := 0) (by decide) ?_
    refine pa_istore_n hE dX6_shaken_25 rfl (by decide) (lvr := [(0, .ref (q 0 0)), (1, .int x1)]) rfl ?_
    exact pa_sub [1, 2, 0] rfl (tl_X6_shaken_26 hE hr 5000 u4 x1 0 hw)
  · have hw := Eq.mp (if_pos h2) hw
    refine pa_iconst hE dX6_shaken_9 (v := (-1 : Int32)) (by decide) ?_
    exact pa_iret hE hr hw rfl dX6_shaken_10
def wp_X6_shaken (u0 : pa_S) (x1 : Int32) (post : Int32 → pa_S → Prop) : Prop := wb_X6_shaken_0 u0 x1 post
theorem ct_X6_shaken (l : Launch) (g : pa_G) (D : va_G) (q : Nat → Nat → Nat) (u0 : pa_S) (x1 : Int32) (post : Int32 → pa_S → Prop)  (hw : wp_X6_shaken u0 x1 post) : pa_Ct l yX6_shaken cX6_shaken 3 (some .int) 16 g D q u0 [.ref (q 0 0), .int x1] (fun r => some (.int r)) post := pa_met rfl rfl (Nat.le_of_ble_eq_true rfl) rfl (fun p e s m args below meth c A hE hr => tb_X6_shaken_0 hE hr  hw)
def wb_X6_see_0 (u0 : pa_S) (x1 : Int32) (x2 : Int32) (x3 : Int32) (x4 : Int32) (post : Int32 → pa_S → Prop) : Prop :=
  (if x1 = (-1 : Int32) then (wp_X2_clear u0 0 (fun (r11 : Int32) (u12 : pa_S) => post r11 u12)) else (wp_X3_hasLine u0 0 x1 x2 (fun (r2 : Int32) => (if r2 = 0 then post (-1 : Int32) u0 else (wp_X6_within u0 x3 0 60 (fun (r4 : Int32) => (if r4 = 0 then post (-2 : Int32) u0 else (wp_X6_within u0 x4 0 20 (fun (r6 : Int32) => (if r6 = 0 then post (-2 : Int32) u0 else (if (pa_I u0 8 0 1) < 5 then (wp_X2_add u0 0 x1 x2 x3 x4 (fun (r9 : Int32) (u10 : pa_S) => post r9 u10)) else post (-4 : Int32) u0)))))))))))
set_option maxRecDepth 100000 in
set_option maxHeartbeats 4000000 in
theorem tb_X6_see_0 {p : Program} {l : Launch} {e : Env} {s : State} {m : MethodId} {args : Array Value} {below : List Frame} {meth : Method} {c : Code} {A : Nat → Prop} {D : va_G} {g : pa_G} {q : Nat → Nat → Nat} {u0 : pa_S} {x1 : Int32} {x2 : Int32} {x3 : Int32} {x4 : Int32} {post : Int32 → pa_S → Prop} (hE : pa_Fx p s m args meth c A D g 5 cX6_see RX6) (hr : meth.sig.returnType = (some .int)) (hw : wb_X6_see_0 u0 x1 x2 x3 x4 post) : pa_At p l e (pa_rm 4) s m args below meth c (MQ below (pa_Qc g D q (fun r => some (.int r)) post A) args s 0 0 A) A D g 5 0 0 q u0 0 [(0, .ref (q 0 0)), (1, .int x1), (2, .int x2), (3, .int x3), (4, .int x4)] [] := by
  refine pa_iload_n hE dX6_see_0 rfl 1 rfl ?_
  refine pa_iconst hE dX6_see_1 (v := (-1 : Int32)) (by decide) ?_
  refine pa_icmp_ne hE dX6_see_2 (tgt := 13) (by decide) (fun h1 => ?_) (fun h1 => ?_)
  · have hw := Eq.mp (if_neg h1) hw
    refine pa_aload_n hE dX6_see_13 rfl 0 rfl ?_
    refine pg_0_0 hE (pa_m1 196 rfl rfl) dX6_see_14 ?_
    refine pa_iload_n hE dX6_see_17 rfl 1 rfl ?_
    refine pa_iload_n hE dX6_see_18 rfl 2 rfl ?_
    refine pa_callVri hE (ct_X3_hasLine l g D q u0 0 x1 x2 _ (by decide) hw) cv_RX6_118 (pa_in1 (by decide)) rfl rfl rfl (pa_hR (by omega) (by decide)) rfl (Nat.le_of_ble_eq_true rfl) dX6_see_19 (fun r2 hw => ?_)
    refine pa_if_ne hE dX6_see_22 (tgt := 27) (by decide) (fun h3 => ?_) (fun h3 => ?_)
    · have hw := Eq.mp (if_neg h3) hw
      refine pa_iload_n hE dX6_see_27 rfl 3 rfl ?_
      refine pa_iconst hE dX6_see_28 (v := 0) (by decide) ?_
      refine pa_bipush hE dX6_see_29 (v := 60) (by decide) ?_
      refine pa_callSri hE (ct_X6_within l g D q u0 x3 0 60 _ hw) cs_RX6_79 rfl (pa_hR (by omega) (by decide)) rfl (Nat.le_of_ble_eq_true rfl) dX6_see_31 (fun r4 hw => ?_)
      refine pa_if_eq hE dX6_see_34 (tgt := 48) (by decide) (fun h5 => ?_) (fun h5 => ?_)
      · have hw := Eq.mp (if_pos h5) hw
        refine pa_bipush hE dX6_see_48 (v := (-2 : Int32)) (by decide) ?_
        exact pa_iret hE hr hw rfl dX6_see_50
      · have hw := Eq.mp (if_neg h5) hw
        refine pa_iload hE dX6_see_37 4 rfl ?_
        refine pa_iconst hE dX6_see_39 (v := 0) (by decide) ?_
        refine pa_bipush hE dX6_see_40 (v := 20) (by decide) ?_
        refine pa_callSri hE (ct_X6_within l g D q u0 x4 0 20 _ hw) cs_RX6_79 rfl (pa_hR (by omega) (by decide)) rfl (Nat.le_of_ble_eq_true rfl) dX6_see_42 (fun r6 hw => ?_)
        refine pa_if_ne hE dX6_see_45 (tgt := 51) (by decide) (fun h7 => ?_) (fun h7 => ?_)
        · have hw := Eq.mp (if_neg h7) hw
          refine pa_aload_n hE dX6_see_51 rfl 0 rfl ?_
          refine pg_0_4 hE (pa_m1 200 rfl rfl) dX6_see_52 ?_
          refine pg_8_1 (pa_in8 (by decide)) hE (pa_m1 33 rfl rfl) dX6_see_55 ?_
          refine pa_iconst hE dX6_see_58 (v := 5) (by decide) ?_
          refine pa_icmp_lt hE dX6_see_59 (tgt := 65) (by decide) (fun h8 => ?_) (fun h8 => ?_)
          · have hw := Eq.mp (if_pos h8) hw
            refine pa_aload_n hE dX6_see_65 rfl 0 rfl ?_
            refine pg_0_4 hE (pa_m1 200 rfl rfl) dX6_see_66 ?_
            refine pa_iload_n hE dX6_see_69 rfl 1 rfl ?_
            refine pa_iload_n hE dX6_see_70 rfl 2 rfl ?_
            refine pa_iload_n hE dX6_see_71 rfl 3 rfl ?_
            refine pa_iload hE dX6_see_72 4 rfl ?_
            refine pa_callVi hE (ct_X2_add l g D q u0 0 x1 x2 x3 x4 _ (by decide) hw) cv_RX6_211 (pa_in8 (by decide)) rfl rfl rfl (pa_hR (by omega) (by decide)) rfl (Nat.le_of_ble_eq_true rfl) dX6_see_74 (fun r9 u10 hw => ?_)
            exact pa_iret hE hr hw rfl dX6_see_77
          · have hw := Eq.mp (if_neg h8) hw
            refine pa_bipush hE dX6_see_62 (v := (-4 : Int32)) (by decide) ?_
            exact pa_iret hE hr hw rfl dX6_see_64
        · have hw := Eq.mp (if_pos h7) hw
          refine pa_bipush hE dX6_see_48 (v := (-2 : Int32)) (by decide) ?_
          exact pa_iret hE hr hw rfl dX6_see_50
    · have hw := Eq.mp (if_pos h3) hw
      refine pa_iconst hE dX6_see_25 (v := (-1 : Int32)) (by decide) ?_
      exact pa_iret hE hr hw rfl dX6_see_26
  · have hw := Eq.mp (if_pos h1) hw
    refine pa_aload_n hE dX6_see_5 rfl 0 rfl ?_
    refine pg_0_4 hE (pa_m1 200 rfl rfl) dX6_see_6 ?_
    refine pa_callVi hE (ct_X2_clear l g D q u0 0 _ (by decide) hw) cv_RX6_206 (pa_in8 (by decide)) rfl rfl rfl (pa_hR (by omega) (by decide)) rfl (Nat.le_of_ble_eq_true rfl) dX6_see_9 (fun r11 u12 hw => ?_)
    exact pa_iret hE hr hw rfl dX6_see_12
def wp_X6_see (u0 : pa_S) (x1 : Int32) (x2 : Int32) (x3 : Int32) (x4 : Int32) (post : Int32 → pa_S → Prop) : Prop := wb_X6_see_0 u0 x1 x2 x3 x4 post
theorem ct_X6_see (l : Launch) (g : pa_G) (D : va_G) (q : Nat → Nat → Nat) (u0 : pa_S) (x1 : Int32) (x2 : Int32) (x3 : Int32) (x4 : Int32) (post : Int32 → pa_S → Prop)  (hw : wp_X6_see u0 x1 x2 x3 x4 post) : pa_Ct l yX6_see cX6_see 5 (some .int) 4 g D q u0 [.ref (q 0 0), .int x1, .int x2, .int x3, .int x4] (fun r => some (.int r)) post := pa_met rfl rfl (Nat.le_of_ble_eq_true rfl) rfl (fun p e s m args below meth c A hE hr => tb_X6_see_0 hE hr  hw)
def wb_X6_isAllSeenSo_2 (k2 : Int32 → Prop) (u0 : pa_S) (i0 : Nat) (x2 : Int32) (post : Int32 → Prop) : Prop :=
  (if (pa_I u0 8 0 1) ≤ x2 then post 1 else (wp_X2_at u0 0 x2 0 (fun (r2 : Int32) => (wp_X2_at u0 0 x2 1 (fun (r3 : Int32) => (wp_X2_at u0 0 x2 3 (fun (r4 : Int32) => (wp_X3_lengthBehind u0 i0 r2 r3 r4 (fun (r5 : Int32) => (wp_X2_at u0 0 x2 2 (fun (r6 : Int32) => (if r5 = r6 then ∀ v8 : Int32, v8 = x2 + 1 → k2 v8 else post 0))))))))))))
set_option maxRecDepth 100000 in
set_option maxHeartbeats 4000000 in
theorem tb_X6_isAllSeenSo_2 {p : Program} {l : Launch} {e : Env} {s : State} {m : MethodId} {args : Array Value} {below : List Frame} {meth : Method} {c : Code} {A : Nat → Prop} {D : va_G} {g : pa_G} {q : Nat → Nat → Nat} {k2 : Int32 → Prop} {u0 : pa_S} {i0 : Nat} {x2 : Int32} {post : Int32 → Prop} (hE : pa_Fx p s m args meth c A D g 4 cX6_isAllSeenSo RX6) (hr : meth.sig.returnType = (some .boolean)) (hi0 : i0 < 6) (hk2 : ∀ (x2 : Int32), k2 x2 → pa_At p l e (pa_rm 8) s m args below meth c (MQ below (pa_Qc g D q (fun r => some (.int r)) (fun r u => u = u0 ∧ post r) A) args s 0 0 A) A D g 4 0 0 q u0 2 [(0, .ref (q 0 0)), (1, .ref (q 1 i0)), (2, .int x2)] []) (hw : wb_X6_isAllSeenSo_2 k2 u0 i0 x2 post) : pa_At p l e (pa_rm 8) s m args below meth c (MQ below (pa_Qc g D q (fun r => some (.int r)) (fun r u => u = u0 ∧ post r) A) args s 0 0 A) A D g 4 0 0 q u0 2 [(0, .ref (q 0 0)), (1, .ref (q 1 i0)), (2, .int x2)] [] := by
  refine pa_iload_n hE dX6_isAllSeenSo_2 rfl 2 rfl ?_
  refine pa_aload_n hE dX6_isAllSeenSo_3 rfl 0 rfl ?_
  refine pg_0_4 hE (pa_m1 200 rfl rfl) dX6_isAllSeenSo_4 ?_
  refine pg_8_1 (pa_in8 (by decide)) hE (pa_m1 33 rfl rfl) dX6_isAllSeenSo_7 ?_
  refine pa_icmp_ge hE dX6_isAllSeenSo_10 (tgt := 66) (by decide) (fun h1 => ?_) (fun h1 => ?_)
  · have hw := Eq.mp (if_pos h1) hw
    refine pa_iconst hE dX6_isAllSeenSo_66 (v := 1) (by decide) ?_
    exact pa_zret hE hr (by decide) ⟨rfl, hw⟩ rfl dX6_isAllSeenSo_67
  · have hw := Eq.mp (if_neg h1) hw
    refine pa_aload_n hE dX6_isAllSeenSo_13 rfl 1 rfl ?_
    refine pa_aload_n hE dX6_isAllSeenSo_14 rfl 0 rfl ?_
    refine pg_0_4 hE (pa_m1 200 rfl rfl) dX6_isAllSeenSo_15 ?_
    refine pa_iload_n hE dX6_isAllSeenSo_18 rfl 2 rfl ?_
    refine pa_iconst hE dX6_isAllSeenSo_19 (v := 0) (by decide) ?_
    refine pa_callVri hE (ct_X2_at l g D q u0 0 x2 0 _ (by decide) hw) cv_RX6_218 (pa_in8 (by decide)) rfl rfl rfl (pa_hR (by omega) (by decide)) rfl (Nat.le_of_ble_eq_true rfl) dX6_isAllSeenSo_20 (fun r2 hw => ?_)
    refine pa_aload_n hE dX6_isAllSeenSo_23 rfl 0 rfl ?_
    refine pg_0_4 hE (pa_m1 200 rfl rfl) dX6_isAllSeenSo_24 ?_
    refine pa_iload_n hE dX6_isAllSeenSo_27 rfl 2 rfl ?_
    refine pa_iconst hE dX6_isAllSeenSo_28 (v := 1) (by decide) ?_
    refine pa_callVri hE (ct_X2_at l g D q u0 0 x2 1 _ (by decide) hw) cv_RX6_218 (pa_in8 (by decide)) rfl rfl rfl (pa_hR (by omega) (by decide)) rfl (Nat.le_of_ble_eq_true rfl) dX6_isAllSeenSo_29 (fun r3 hw => ?_)
    refine pa_aload_n hE dX6_isAllSeenSo_32 rfl 0 rfl ?_
    refine pg_0_4 hE (pa_m1 200 rfl rfl) dX6_isAllSeenSo_33 ?_
    refine pa_iload_n hE dX6_isAllSeenSo_36 rfl 2 rfl ?_
    refine pa_iconst hE dX6_isAllSeenSo_37 (v := 3) (by decide) ?_
    refine pa_callVri hE (ct_X2_at l g D q u0 0 x2 3 _ (by decide) hw) cv_RX6_218 (pa_in8 (by decide)) rfl rfl rfl (pa_hR (by omega) (by decide)) rfl (Nat.le_of_ble_eq_true rfl) dX6_isAllSeenSo_38 (fun r4 hw => ?_)
    refine pa_callVri hE (ct_X3_lengthBehind l g D q u0 i0 r2 r3 r4 _ hi0 hw) cv_RX6_224 (pa_in1 hi0) rfl rfl rfl (pa_hR (by omega) (by decide)) rfl (Nat.le_of_ble_eq_true rfl) dX6_isAllSeenSo_41 (fun r5 hw => ?_)
    refine pa_istore_n hE dX6_isAllSeenSo_44 rfl (by decide) (lvr := [(0, .ref (q 0 0)), (1, .ref (q 1 i0)), (2, .int x2)]) rfl ?_
    refine pa_iload_n hE dX6_isAllSeenSo_45 rfl 0 rfl ?_
    refine pa_aload_n hE dX6_isAllSeenSo_46 rfl 1 rfl ?_
    refine pg_0_4 hE (pa_m1 200 rfl rfl) dX6_isAllSeenSo_47 ?_
    refine pa_iload_n hE dX6_isAllSeenSo_50 rfl 3 rfl ?_
    refine pa_iconst hE dX6_isAllSeenSo_51 (v := 2) (by decide) ?_
    refine pa_callVri hE (ct_X2_at l g D q u0 0 x2 2 _ (by decide) hw) cv_RX6_218 (pa_in8 (by decide)) rfl rfl rfl (pa_hR (by omega) (by decide)) rfl (Nat.le_of_ble_eq_true rfl) dX6_isAllSeenSo_52 (fun r6 hw => ?_)
    refine pa_icmp_eq hE dX6_isAllSeenSo_55 (tgt := 60) (by decide) (fun h7 => ?_) (fun h7 => ?_)
    · have hw := Eq.mp (if_pos h7) hw
      refine pa_iinc hE dX6_isAllSeenSo_60 (v := 1) 3 rfl (by decide) (by decide) (lvr := [(3, .int r5), (0, .ref (q 0 0)), (1, .ref (q 1 i0))]) rfl (fun v8 ev8 => ?_)
      have hw := hw v8 ev8
      refine pa_goto hE dX6_isAllSeenSo_63 (tgt := 2) (by decide) ?_
      exact pa_sub [2, 3, 0] rfl (hk2 v8 hw)
    · have hw := Eq.mp (if_neg h7) hw
      refine pa_iconst hE dX6_isAllSeenSo_58 (v := 0) (by decide) ?_
      exact pa_zret hE hr (by decide) ⟨rfl, hw⟩ rfl dX6_isAllSeenSo_59
def wl_X6_isAllSeenSo_2 (i0 : Nat) (post : Int32 → Prop) (u0 : pa_S) : Nat → Int32 → Prop
  | 0, _ => False
  | n + 1, x2 => wb_X6_isAllSeenSo_2 (fun x2 => wl_X6_isAllSeenSo_2 i0 post u0 n x2) u0 i0 x2 post
set_option maxRecDepth 100000 in
set_option maxHeartbeats 4000000 in
theorem tl_X6_isAllSeenSo_2 {p : Program} {l : Launch} {e : Env} {s : State} {m : MethodId} {args : Array Value} {below : List Frame} {meth : Method} {c : Code} {A : Nat → Prop} {D : va_G} {g : pa_G} {q : Nat → Nat → Nat} {u0 : pa_S} {i0 : Nat} {post : Int32 → Prop} (hE : pa_Fx p s m args meth c A D g 4 cX6_isAllSeenSo RX6) (hr : meth.sig.returnType = (some .boolean)) (hi0 : i0 < 6) : ∀ (n : Nat) (x2 : Int32), wl_X6_isAllSeenSo_2 i0 post u0 n x2 → pa_At p l e (pa_rm 8) s m args below meth c (MQ below (pa_Qc g D q (fun r => some (.int r)) (fun r u => u = u0 ∧ post r) A) args s 0 0 A) A D g 4 0 0 q u0 2 [(0, .ref (q 0 0)), (1, .ref (q 1 i0)), (2, .int x2)] []
  | 0, _, hw => absurd hw (by simp only [wl_X6_isAllSeenSo_2]; exact fun z => z)
  | n + 1, x2, hw => tb_X6_isAllSeenSo_2 hE hr hi0 (fun x2  hw1 => tl_X6_isAllSeenSo_2 hE hr hi0 n x2  hw1) hw
def wb_X6_isAllSeenSo_0 (u0 : pa_S) (i0 : Nat) (post : Int32 → Prop) : Prop :=
  wl_X6_isAllSeenSo_2 i0 post u0 5000 0
set_option maxRecDepth 100000 in
set_option maxHeartbeats 4000000 in
theorem tb_X6_isAllSeenSo_0 {p : Program} {l : Launch} {e : Env} {s : State} {m : MethodId} {args : Array Value} {below : List Frame} {meth : Method} {c : Code} {A : Nat → Prop} {D : va_G} {g : pa_G} {q : Nat → Nat → Nat} {u0 : pa_S} {i0 : Nat} {post : Int32 → Prop} (hE : pa_Fx p s m args meth c A D g 4 cX6_isAllSeenSo RX6) (hr : meth.sig.returnType = (some .boolean)) (hi0 : i0 < 6) (hw : wb_X6_isAllSeenSo_0 u0 i0 post) : pa_At p l e (pa_rm 8) s m args below meth c (MQ below (pa_Qc g D q (fun r => some (.int r)) (fun r u => u = u0 ∧ post r) A) args s 0 0 A) A D g 4 0 0 q u0 0 [(0, .ref (q 0 0)), (1, .ref (q 1 i0))] [] := by
  refine pa_iconst hE dX6_isAllSeenSo_0 (v := 0) (by decide) ?_
  refine pa_istore_n hE dX6_isAllSeenSo_1 rfl (by decide) (lvr := [(0, .ref (q 0 0)), (1, .ref (q 1 i0))]) rfl ?_
  exact pa_sub [1, 2, 0] rfl (tl_X6_isAllSeenSo_2 hE hr hi0 5000 0 hw)
def wp_X6_isAllSeenSo (u0 : pa_S) (i0 : Nat) (post : Int32 → Prop) : Prop := wb_X6_isAllSeenSo_0 u0 i0 post
theorem ct_X6_isAllSeenSo (l : Launch) (g : pa_G) (D : va_G) (q : Nat → Nat → Nat) (u0 : pa_S) (i0 : Nat) (post : Int32 → Prop) (hi0 : i0 < 6) (hw : wp_X6_isAllSeenSo u0 i0 post) : pa_Ct l yX6_isAllSeenSo cX6_isAllSeenSo 4 (some .boolean) 8 g D q u0 [.ref (q 0 0), .ref (q 1 i0)] (fun r => some (.int r)) (fun r u => u = u0 ∧ post r) := pa_met rfl rfl (Nat.le_of_ble_eq_true rfl) rfl (fun p e s m args below meth c A hE hr => tb_X6_isAllSeenSo_0 hE hr hi0 hw)
def wb_X6_was_81 (k51 : pa_S → Int32 → Int32 → Int32 → Int32 → Int32 → Int32 → Prop) (u0 : pa_S) (x1 : Int32) (x2 : Int32) (x3 : Int32) (x5 : Int32) (x6 : Int32) (x7 : Int32) (post : Int32 → pa_S → Prop) : Prop :=
  ∀ v13 : Int32, v13 = x7 + (-1 : Int32) → k51 u0 x1 x2 x3 x5 x6 v13
set_option maxRecDepth 100000 in
set_option maxHeartbeats 4000000 in
theorem tb_X6_was_81 {p : Program} {l : Launch} {e : Env} {s : State} {m : MethodId} {args : Array Value} {below : List Frame} {meth : Method} {c : Code} {A : Nat → Prop} {D : va_G} {g : pa_G} {q : Nat → Nat → Nat} {k51 : pa_S → Int32 → Int32 → Int32 → Int32 → Int32 → Int32 → Prop} {u0 : pa_S} {x1 : Int32} {x2 : Int32} {x3 : Int32} {x5 : Int32} {x6 : Int32} {x7 : Int32} {post : Int32 → pa_S → Prop} (hE : pa_Fx p s m args meth c A D g 8 cX6_was RX6) (hr : meth.sig.returnType = (some .int)) (hk51 : ∀ (u : pa_S)  (x1 : Int32) (x2 : Int32) (x3 : Int32) (x5 : Int32) (x6 : Int32) (x7 : Int32), k51 u x1 x2 x3 x5 x6 x7 → pa_At p l e (pa_rm 9) s m args below meth c (MQ below (pa_Qc g D q (fun r => some (.int r)) post A) args s 0 0 A) A D g 8 0 0 q u 51 [(0, .ref (q 0 0)), (1, .int x1), (2, .int x2), (3, .int x3), (4, .ref (q 1 2)), (5, .int x5), (6, .int x6), (7, .int x7)] []) (hw : wb_X6_was_81 k51 u0 x1 x2 x3 x5 x6 x7 post) : pa_At p l e (pa_rm 9) s m args below meth c (MQ below (pa_Qc g D q (fun r => some (.int r)) post A) args s 0 0 A) A D g 8 0 0 q u0 81 [(0, .ref (q 0 0)), (1, .int x1), (2, .int x2), (3, .int x3), (4, .ref (q 1 2)), (5, .int x5), (6, .int x6), (7, .int x7)] [] := by
  refine pa_iinc hE dX6_was_81 (v := (-1 : Int32)) 7 rfl (by decide) (by decide) (lvr := [(0, .ref (q 0 0)), (1, .int x1), (2, .int x2), (3, .int x3), (4, .ref (q 1 2)), (5, .int x5), (6, .int x6)]) rfl (fun v13 ev13 => ?_)
  have hw := hw v13 ev13
  refine pa_goto hE dX6_was_84 (tgt := 51) (by decide) ?_
  exact pa_sub [1, 2, 3, 4, 5, 6, 7, 0] rfl (hk51 u0 x1 x2 x3 x5 x6 v13 hw)
def wb_X6_was_51 (k51 : pa_S → Int32 → Int32 → Int32 → Int32 → Int32 → Int32 → Prop) (u0 : pa_S) (x1 : Int32) (x2 : Int32) (x3 : Int32) (x5 : Int32) (x6 : Int32) (x7 : Int32) (post : Int32 → pa_S → Prop) : Prop :=
  (if x7 < 0 then (if x3 = 0 then post x5 u0 else post x6 u0) else (wp_X3_putLength u0 2 x1 x2 x7 (fun (u10 : pa_S) => (wp_X6_isAllSeenSo u10 2 (fun (r11 : Int32) => (if r11 = 0 then wb_X6_was_81 k51 u10 x1 x2 x3 x5 x6 x7 post else ∀ v14 : Int32, v14 = x5 + 1 → wb_X6_was_81 k51 u10 x1 x2 x3 v14 x7 x7 post))))))
set_option maxRecDepth 100000 in
set_option maxHeartbeats 4000000 in
theorem tb_X6_was_51 {p : Program} {l : Launch} {e : Env} {s : State} {m : MethodId} {args : Array Value} {below : List Frame} {meth : Method} {c : Code} {A : Nat → Prop} {D : va_G} {g : pa_G} {q : Nat → Nat → Nat} {k51 : pa_S → Int32 → Int32 → Int32 → Int32 → Int32 → Int32 → Prop} {u0 : pa_S} {x1 : Int32} {x2 : Int32} {x3 : Int32} {x5 : Int32} {x6 : Int32} {x7 : Int32} {post : Int32 → pa_S → Prop} (hE : pa_Fx p s m args meth c A D g 8 cX6_was RX6) (hr : meth.sig.returnType = (some .int)) (hk51 : ∀ (u : pa_S)  (x1 : Int32) (x2 : Int32) (x3 : Int32) (x5 : Int32) (x6 : Int32) (x7 : Int32), k51 u x1 x2 x3 x5 x6 x7 → pa_At p l e (pa_rm 9) s m args below meth c (MQ below (pa_Qc g D q (fun r => some (.int r)) post A) args s 0 0 A) A D g 8 0 0 q u 51 [(0, .ref (q 0 0)), (1, .int x1), (2, .int x2), (3, .int x3), (4, .ref (q 1 2)), (5, .int x5), (6, .int x6), (7, .int x7)] []) (hw : wb_X6_was_51 k51 u0 x1 x2 x3 x5 x6 x7 post) : pa_At p l e (pa_rm 9) s m args below meth c (MQ below (pa_Qc g D q (fun r => some (.int r)) post A) args s 0 0 A) A D g 8 0 0 q u0 51 [(0, .ref (q 0 0)), (1, .int x1), (2, .int x2), (3, .int x3), (4, .ref (q 1 2)), (5, .int x5), (6, .int x6), (7, .int x7)] [] := by
  refine pa_iload hE dX6_was_51 7 rfl ?_
  refine pa_if_lt hE dX6_was_53 (tgt := 87) (by decide) (fun h7 => ?_) (fun h7 => ?_)
  · have hw := Eq.mp (if_pos h7) hw
    refine pa_iload_n hE dX6_was_87 rfl 3 rfl ?_
    refine pa_if_ne hE dX6_was_88 (tgt := 96) (by decide) (fun h8 => ?_) (fun h8 => ?_)
    · have hw := Eq.mp (if_neg h8) hw
      refine pa_iload hE dX6_was_96 6 rfl ?_
      exact pa_iret hE hr hw rfl dX6_was_98
    · have hw := Eq.mp (if_pos h8) hw
      refine pa_iload hE dX6_was_91 5 rfl ?_
      refine pa_goto hE dX6_was_93 (tgt := 98) (by decide) ?_
      exact pa_iret hE hr hw rfl dX6_was_98
  · have hw := Eq.mp (if_neg h7) hw
    refine pa_aload hE dX6_was_56 4 rfl ?_
    refine pa_iload_n hE dX6_was_58 rfl 1 rfl ?_
    refine pa_iload_n hE dX6_was_59 rfl 2 rfl ?_
    refine pa_iload hE dX6_was_60 7 rfl ?_
    refine pa_callVv hE (ct_X3_putLength l g D q u0 2 x1 x2 x7 _ (by decide) hw) cv_RX6_131 (pa_in1 (by decide)) rfl rfl rfl (pa_hR (by omega) (by decide)) rfl (Nat.le_of_ble_eq_true rfl) dX6_was_62 (fun u10 hw => ?_)
    refine pa_aload_n hE dX6_was_65 rfl 0 rfl ?_
    refine pa_aload hE dX6_was_66 4 rfl ?_
    refine pa_callVri hE (ct_X6_isAllSeenSo l g D q u10 2 _ (by decide) hw) cv_RX6_227 pa_in0 rfl rfl rfl (pa_hR (by omega) (by decide)) rfl (Nat.le_of_ble_eq_true rfl) dX6_was_68 (fun r11 hw => ?_)
    refine pa_if_eq hE dX6_was_71 (tgt := 81) (by decide) (fun h12 => ?_) (fun h12 => ?_)
    · have hw := Eq.mp (if_pos h12) hw
      exact pa_sub [0, 1, 2, 3, 4, 5, 6, 7] rfl (tb_X6_was_81 hE hr hk51 hw)
    · have hw := Eq.mp (if_neg h12) hw
      refine pa_iinc hE dX6_was_74 (v := 1) 5 rfl (by decide) (by decide) (lvr := [(0, .ref (q 0 0)), (1, .int x1), (2, .int x2), (3, .int x3), (4, .ref (q 1 2)), (6, .int x6), (7, .int x7)]) rfl (fun v14 ev14 => ?_)
      have hw := hw v14 ev14
      refine pa_iload hE dX6_was_77 7 rfl ?_
      refine pa_istore hE dX6_was_79 (by decide) (lvr := [(5, .int v14), (0, .ref (q 0 0)), (1, .int x1), (2, .int x2), (3, .int x3), (4, .ref (q 1 2)), (7, .int x7)]) rfl ?_
      exact pa_sub [2, 3, 4, 5, 6, 1, 0, 7] rfl (tb_X6_was_81 hE hr hk51 hw)
def wl_X6_was_51 (post : Int32 → pa_S → Prop) : Nat → pa_S → Int32 → Int32 → Int32 → Int32 → Int32 → Int32 → Prop
  | 0, _, _, _, _, _, _, _ => False
  | n + 1, u0, x1, x2, x3, x5, x6, x7 => wb_X6_was_51 (fun u0 x1 x2 x3 x5 x6 x7 => wl_X6_was_51 post n u0 x1 x2 x3 x5 x6 x7) u0 x1 x2 x3 x5 x6 x7 post
set_option maxRecDepth 100000 in
set_option maxHeartbeats 4000000 in
theorem tl_X6_was_51 {p : Program} {l : Launch} {e : Env} {s : State} {m : MethodId} {args : Array Value} {below : List Frame} {meth : Method} {c : Code} {A : Nat → Prop} {D : va_G} {g : pa_G} {q : Nat → Nat → Nat} {post : Int32 → pa_S → Prop} (hE : pa_Fx p s m args meth c A D g 8 cX6_was RX6) (hr : meth.sig.returnType = (some .int)) : ∀ (n : Nat) (u0 : pa_S) (x1 : Int32) (x2 : Int32) (x3 : Int32) (x5 : Int32) (x6 : Int32) (x7 : Int32), wl_X6_was_51 post n u0 x1 x2 x3 x5 x6 x7 → pa_At p l e (pa_rm 9) s m args below meth c (MQ below (pa_Qc g D q (fun r => some (.int r)) post A) args s 0 0 A) A D g 8 0 0 q u0 51 [(0, .ref (q 0 0)), (1, .int x1), (2, .int x2), (3, .int x3), (4, .ref (q 1 2)), (5, .int x5), (6, .int x6), (7, .int x7)] []
  | 0, _, _, _, _, _, _, _, hw => absurd hw (by simp only [wl_X6_was_51]; exact fun z => z)
  | n + 1, u0, x1, x2, x3, x5, x6, x7, hw => tb_X6_was_51 hE hr (fun u0 x1 x2 x3 x5 x6 x7  hw1 => tl_X6_was_51 hE hr  n u0 x1 x2 x3 x5 x6 x7  hw1) hw
def wb_X6_was_0 (u0 : pa_S) (x1 : Int32) (x2 : Int32) (x3 : Int32) (post : Int32 → pa_S → Prop) : Prop :=
  (wp_X3_hasLine u0 0 x1 x2 (fun (r1 : Int32) => (if r1 = 0 then post (-1 : Int32) u0 else (wp_X6_within u0 x3 0 1 (fun (r3 : Int32) => (if r3 = 0 then post (-1 : Int32) u0 else (wp_X3_become u0 2 0 (fun (u6 : pa_S) => wl_X6_was_51 post 5000 u6 x1 x2 x3 0 (-5 : Int32) 60))))))))
set_option maxRecDepth 100000 in
set_option maxHeartbeats 4000000 in
theorem tb_X6_was_0 {p : Program} {l : Launch} {e : Env} {s : State} {m : MethodId} {args : Array Value} {below : List Frame} {meth : Method} {c : Code} {A : Nat → Prop} {D : va_G} {g : pa_G} {q : Nat → Nat → Nat} {u0 : pa_S} {x1 : Int32} {x2 : Int32} {x3 : Int32} {post : Int32 → pa_S → Prop} (hE : pa_Fx p s m args meth c A D g 8 cX6_was RX6) (hr : meth.sig.returnType = (some .int)) (hw : wb_X6_was_0 u0 x1 x2 x3 post) : pa_At p l e (pa_rm 9) s m args below meth c (MQ below (pa_Qc g D q (fun r => some (.int r)) post A) args s 0 0 A) A D g 8 0 0 q u0 0 [(0, .ref (q 0 0)), (1, .int x1), (2, .int x2), (3, .int x3)] [] := by
  refine pa_aload_n hE dX6_was_0 rfl 0 rfl ?_
  refine pg_0_0 hE (pa_m1 196 rfl rfl) dX6_was_1 ?_
  refine pa_iload_n hE dX6_was_4 rfl 1 rfl ?_
  refine pa_iload_n hE dX6_was_5 rfl 2 rfl ?_
  refine pa_callVri hE (ct_X3_hasLine l g D q u0 0 x1 x2 _ (by decide) hw) cv_RX6_118 (pa_in1 (by decide)) rfl rfl rfl (pa_hR (by omega) (by decide)) rfl (Nat.le_of_ble_eq_true rfl) dX6_was_6 (fun r1 hw => ?_)
  refine pa_if_eq hE dX6_was_9 (tgt := 21) (by decide) (fun h2 => ?_) (fun h2 => ?_)
  · have hw := Eq.mp (if_pos h2) hw
    refine pa_iconst hE dX6_was_21 (v := (-1 : Int32)) (by decide) ?_
    exact pa_iret hE hr hw rfl dX6_was_22
  · have hw := Eq.mp (if_neg h2) hw
    refine pa_iload_n hE dX6_was_12 rfl 3 rfl ?_
    refine pa_iconst hE dX6_was_13 (v := 0) (by decide) ?_
    refine pa_iconst hE dX6_was_14 (v := 1) (by decide) ?_
    refine pa_callSri hE (ct_X6_within l g D q u0 x3 0 1 _ hw) cs_RX6_79 rfl (pa_hR (by omega) (by decide)) rfl (Nat.le_of_ble_eq_true rfl) dX6_was_15 (fun r3 hw => ?_)
    refine pa_if_ne hE dX6_was_18 (tgt := 23) (by decide) (fun h4 => ?_) (fun h4 => ?_)
    · have hw := Eq.mp (if_neg h4) hw
      refine pa_aload_n hE dX6_was_23 rfl 0 rfl ?_
      refine pg_0_2 hE (pa_m1 198 rfl rfl) dX6_was_24 ?_
      refine pa_iconst hE dX6_was_27 (v := 0) (by decide) ?_
      refine pa_aaldS hE (by unfold vp_in; decide) (n := 2) (by decide) dX6_was_28 ?_
      refine pa_astore hE dX6_was_29 (by decide) (lvr := [(0, .ref (q 0 0)), (1, .int x1), (2, .int x2), (3, .int x3)]) rfl ?_
      refine pa_aload hE dX6_was_31 0 rfl ?_
      refine pa_aload_n hE dX6_was_33 rfl 1 rfl ?_
      refine pg_0_0 hE (pa_m1 196 rfl rfl) dX6_was_34 ?_
      refine pa_callVv hE (ct_X3_become l g D q u0 2 0 _ (by decide) (by decide) hw) cv_RX6_194 (pa_in1 (by decide)) rfl rfl rfl (pa_hR (by omega) (by decide)) rfl (Nat.le_of_ble_eq_true rfl) dX6_was_37 (fun u6 hw => ?_)
      refine pa_iconst hE dX6_was_40 (v := 0) (by decide) ?_
      refine pa_istore hE dX6_was_41 (by decide) (lvr := [(4, .ref (q 1 2)), (0, .ref (q 0 0)), (1, .int x1), (2, .int x2), (3, .int x3)]) rfl ?_
      refine pa_bipush hE dX6_was_43 (v := (-5 : Int32)) (by decide) ?_
      refine pa_istore hE dX6_was_45 (by decide) (lvr := [(5, .int 0), (4, .ref (q 1 2)), (0, .ref (q 0 0)), (1, .int x1), (2, .int x2), (3, .int x3)]) rfl ?_
      refine pa_bipush hE dX6_was_47 (v := 60) (by decide) ?_
      refine pa_istore hE dX6_was_49 (by decide) (lvr := [(6, .int (-5 : Int32)), (5, .int 0), (4, .ref (q 1 2)), (0, .ref (q 0 0)), (1, .int x1), (2, .int x2), (3, .int x3)]) rfl ?_
      exact pa_sub [4, 5, 6, 7, 3, 2, 1, 0] rfl (tl_X6_was_51 hE hr 5000 u6 x1 x2 x3 0 (-5 : Int32) 60 hw)
    · have hw := Eq.mp (if_pos h4) hw
      refine pa_iconst hE dX6_was_21 (v := (-1 : Int32)) (by decide) ?_
      exact pa_iret hE hr hw rfl dX6_was_22
def wp_X6_was (u0 : pa_S) (x1 : Int32) (x2 : Int32) (x3 : Int32) (post : Int32 → pa_S → Prop) : Prop := wb_X6_was_0 u0 x1 x2 x3 post
theorem ct_X6_was (l : Launch) (g : pa_G) (D : va_G) (q : Nat → Nat → Nat) (u0 : pa_S) (x1 : Int32) (x2 : Int32) (x3 : Int32) (post : Int32 → pa_S → Prop)  (hw : wp_X6_was u0 x1 x2 x3 post) : pa_Ct l yX6_was cX6_was 8 (some .int) 9 g D q u0 [.ref (q 0 0), .int x1, .int x2, .int x3] (fun r => some (.int r)) post := pa_met rfl rfl (Nat.le_of_ble_eq_true rfl) rfl (fun p e s m args below meth c A hE hr => tb_X6_was_0 hE hr  hw)
def wb_X6_can_75 (k48 : pa_S → Int32 → Int32 → Int32 → Int32 → Int32 → Prop) (u0 : pa_S) (x1 : Int32) (x2 : Int32) (x4 : Int32) (x5 : Int32) (x6 : Int32) (post : Int32 → pa_S → Prop) : Prop :=
  ∀ v13 : Int32, v13 = x6 + (-1 : Int32) → k48 u0 x1 x2 x4 x5 v13
set_option maxRecDepth 100000 in
set_option maxHeartbeats 4000000 in
theorem tb_X6_can_75 {p : Program} {l : Launch} {e : Env} {s : State} {m : MethodId} {args : Array Value} {below : List Frame} {meth : Method} {c : Code} {A : Nat → Prop} {D : va_G} {g : pa_G} {q : Nat → Nat → Nat} {k48 : pa_S → Int32 → Int32 → Int32 → Int32 → Int32 → Prop} {u0 : pa_S} {x1 : Int32} {x2 : Int32} {x4 : Int32} {x5 : Int32} {x6 : Int32} {post : Int32 → pa_S → Prop} (hE : pa_Fx p s m args meth c A D g 7 cX6_can RX6) (hr : meth.sig.returnType = (some .int)) (hk48 : ∀ (u : pa_S)  (x1 : Int32) (x2 : Int32) (x4 : Int32) (x5 : Int32) (x6 : Int32), k48 u x1 x2 x4 x5 x6 → pa_At p l e (pa_rm 9) s m args below meth c (MQ below (pa_Qc g D q (fun r => some (.int r)) post A) args s 0 0 A) A D g 7 0 0 q u 48 [(0, .ref (q 0 0)), (1, .int x1), (2, .int x2), (3, .ref (q 1 2)), (4, .int x4), (5, .int x5), (6, .int x6)] []) (hw : wb_X6_can_75 k48 u0 x1 x2 x4 x5 x6 post) : pa_At p l e (pa_rm 9) s m args below meth c (MQ below (pa_Qc g D q (fun r => some (.int r)) post A) args s 0 0 A) A D g 7 0 0 q u0 75 [(0, .ref (q 0 0)), (1, .int x1), (2, .int x2), (3, .ref (q 1 2)), (4, .int x4), (5, .int x5), (6, .int x6)] [] := by
  refine pa_iinc hE dX6_can_75 (v := (-1 : Int32)) 6 rfl (by decide) (by decide) (lvr := [(0, .ref (q 0 0)), (1, .int x1), (2, .int x2), (3, .ref (q 1 2)), (4, .int x4), (5, .int x5)]) rfl (fun v13 ev13 => ?_)
  have hw := hw v13 ev13
  refine pa_goto hE dX6_can_78 (tgt := 48) (by decide) ?_
  exact pa_sub [1, 2, 3, 4, 5, 6, 0] rfl (hk48 u0 x1 x2 x4 x5 v13 hw)
def wb_X6_can_48 (k48 : pa_S → Int32 → Int32 → Int32 → Int32 → Int32 → Prop) (u0 : pa_S) (x1 : Int32) (x2 : Int32) (x4 : Int32) (x5 : Int32) (x6 : Int32) (post : Int32 → pa_S → Prop) : Prop :=
  (if x6 < 0 then (if x2 = 0 then post x4 u0 else post x5 u0) else (wp_X3_putV u0 2 x1 x6 (fun (u10 : pa_S) => (wp_X6_isAllSeenSo u10 2 (fun (r11 : Int32) => (if r11 = 0 then wb_X6_can_75 k48 u10 x1 x2 x4 x5 x6 post else ∀ v14 : Int32, v14 = x4 + 1 → wb_X6_can_75 k48 u10 x1 x2 v14 x6 x6 post))))))
set_option maxRecDepth 100000 in
set_option maxHeartbeats 4000000 in
theorem tb_X6_can_48 {p : Program} {l : Launch} {e : Env} {s : State} {m : MethodId} {args : Array Value} {below : List Frame} {meth : Method} {c : Code} {A : Nat → Prop} {D : va_G} {g : pa_G} {q : Nat → Nat → Nat} {k48 : pa_S → Int32 → Int32 → Int32 → Int32 → Int32 → Prop} {u0 : pa_S} {x1 : Int32} {x2 : Int32} {x4 : Int32} {x5 : Int32} {x6 : Int32} {post : Int32 → pa_S → Prop} (hE : pa_Fx p s m args meth c A D g 7 cX6_can RX6) (hr : meth.sig.returnType = (some .int)) (hk48 : ∀ (u : pa_S)  (x1 : Int32) (x2 : Int32) (x4 : Int32) (x5 : Int32) (x6 : Int32), k48 u x1 x2 x4 x5 x6 → pa_At p l e (pa_rm 9) s m args below meth c (MQ below (pa_Qc g D q (fun r => some (.int r)) post A) args s 0 0 A) A D g 7 0 0 q u 48 [(0, .ref (q 0 0)), (1, .int x1), (2, .int x2), (3, .ref (q 1 2)), (4, .int x4), (5, .int x5), (6, .int x6)] []) (hw : wb_X6_can_48 k48 u0 x1 x2 x4 x5 x6 post) : pa_At p l e (pa_rm 9) s m args below meth c (MQ below (pa_Qc g D q (fun r => some (.int r)) post A) args s 0 0 A) A D g 7 0 0 q u0 48 [(0, .ref (q 0 0)), (1, .int x1), (2, .int x2), (3, .ref (q 1 2)), (4, .int x4), (5, .int x5), (6, .int x6)] [] := by
  refine pa_iload hE dX6_can_48 6 rfl ?_
  refine pa_if_lt hE dX6_can_50 (tgt := 81) (by decide) (fun h7 => ?_) (fun h7 => ?_)
  · have hw := Eq.mp (if_pos h7) hw
    refine pa_iload_n hE dX6_can_81 rfl 2 rfl ?_
    refine pa_if_ne hE dX6_can_82 (tgt := 90) (by decide) (fun h8 => ?_) (fun h8 => ?_)
    · have hw := Eq.mp (if_neg h8) hw
      refine pa_iload hE dX6_can_90 5 rfl ?_
      exact pa_iret hE hr hw rfl dX6_can_92
    · have hw := Eq.mp (if_pos h8) hw
      refine pa_iload hE dX6_can_85 4 rfl ?_
      refine pa_goto hE dX6_can_87 (tgt := 92) (by decide) ?_
      exact pa_iret hE hr hw rfl dX6_can_92
  · have hw := Eq.mp (if_neg h7) hw
    refine pa_aload_n hE dX6_can_53 rfl 3 rfl ?_
    refine pa_iload_n hE dX6_can_54 rfl 1 rfl ?_
    refine pa_iload hE dX6_can_55 6 rfl ?_
    refine pa_callVv hE (ct_X3_putV l g D q u0 2 x1 x6 _ (by decide) hw) cv_RX6_231 (pa_in1 (by decide)) rfl rfl rfl (pa_hR (by omega) (by decide)) rfl (Nat.le_of_ble_eq_true rfl) dX6_can_57 (fun u10 hw => ?_)
    refine pa_aload_n hE dX6_can_60 rfl 0 rfl ?_
    refine pa_aload_n hE dX6_can_61 rfl 3 rfl ?_
    refine pa_callVri hE (ct_X6_isAllSeenSo l g D q u10 2 _ (by decide) hw) cv_RX6_227 pa_in0 rfl rfl rfl (pa_hR (by omega) (by decide)) rfl (Nat.le_of_ble_eq_true rfl) dX6_can_62 (fun r11 hw => ?_)
    refine pa_if_eq hE dX6_can_65 (tgt := 75) (by decide) (fun h12 => ?_) (fun h12 => ?_)
    · have hw := Eq.mp (if_pos h12) hw
      exact pa_sub [0, 1, 2, 3, 4, 5, 6] rfl (tb_X6_can_75 hE hr hk48 hw)
    · have hw := Eq.mp (if_neg h12) hw
      refine pa_iinc hE dX6_can_68 (v := 1) 4 rfl (by decide) (by decide) (lvr := [(0, .ref (q 0 0)), (1, .int x1), (2, .int x2), (3, .ref (q 1 2)), (5, .int x5), (6, .int x6)]) rfl (fun v14 ev14 => ?_)
      have hw := hw v14 ev14
      refine pa_iload hE dX6_can_71 6 rfl ?_
      refine pa_istore hE dX6_can_73 (by decide) (lvr := [(4, .int v14), (0, .ref (q 0 0)), (1, .int x1), (2, .int x2), (3, .ref (q 1 2)), (6, .int x6)]) rfl ?_
      exact pa_sub [2, 3, 4, 5, 1, 0, 6] rfl (tb_X6_can_75 hE hr hk48 hw)
def wl_X6_can_48 (post : Int32 → pa_S → Prop) : Nat → pa_S → Int32 → Int32 → Int32 → Int32 → Int32 → Prop
  | 0, _, _, _, _, _, _ => False
  | n + 1, u0, x1, x2, x4, x5, x6 => wb_X6_can_48 (fun u0 x1 x2 x4 x5 x6 => wl_X6_can_48 post n u0 x1 x2 x4 x5 x6) u0 x1 x2 x4 x5 x6 post
set_option maxRecDepth 100000 in
set_option maxHeartbeats 4000000 in
theorem tl_X6_can_48 {p : Program} {l : Launch} {e : Env} {s : State} {m : MethodId} {args : Array Value} {below : List Frame} {meth : Method} {c : Code} {A : Nat → Prop} {D : va_G} {g : pa_G} {q : Nat → Nat → Nat} {post : Int32 → pa_S → Prop} (hE : pa_Fx p s m args meth c A D g 7 cX6_can RX6) (hr : meth.sig.returnType = (some .int)) : ∀ (n : Nat) (u0 : pa_S) (x1 : Int32) (x2 : Int32) (x4 : Int32) (x5 : Int32) (x6 : Int32), wl_X6_can_48 post n u0 x1 x2 x4 x5 x6 → pa_At p l e (pa_rm 9) s m args below meth c (MQ below (pa_Qc g D q (fun r => some (.int r)) post A) args s 0 0 A) A D g 7 0 0 q u0 48 [(0, .ref (q 0 0)), (1, .int x1), (2, .int x2), (3, .ref (q 1 2)), (4, .int x4), (5, .int x5), (6, .int x6)] []
  | 0, _, _, _, _, _, _, hw => absurd hw (by simp only [wl_X6_can_48]; exact fun z => z)
  | n + 1, u0, x1, x2, x4, x5, x6, hw => tb_X6_can_48 hE hr (fun u0 x1 x2 x4 x5 x6  hw1 => tl_X6_can_48 hE hr  n u0 x1 x2 x4 x5 x6  hw1) hw
def wb_X6_can_0 (u0 : pa_S) (x1 : Int32) (x2 : Int32) (post : Int32 → pa_S → Prop) : Prop :=
  (wp_X3_has u0 0 x1 (fun (r1 : Int32) => (if r1 = 0 then post (-1 : Int32) u0 else (wp_X6_within u0 x2 0 1 (fun (r3 : Int32) => (if r3 = 0 then post (-1 : Int32) u0 else (wp_X3_become u0 2 0 (fun (u6 : pa_S) => wl_X6_can_48 post 5000 u6 x1 x2 0 (-5 : Int32) 9))))))))
set_option maxRecDepth 100000 in
set_option maxHeartbeats 4000000 in
theorem tb_X6_can_0 {p : Program} {l : Launch} {e : Env} {s : State} {m : MethodId} {args : Array Value} {below : List Frame} {meth : Method} {c : Code} {A : Nat → Prop} {D : va_G} {g : pa_G} {q : Nat → Nat → Nat} {u0 : pa_S} {x1 : Int32} {x2 : Int32} {post : Int32 → pa_S → Prop} (hE : pa_Fx p s m args meth c A D g 7 cX6_can RX6) (hr : meth.sig.returnType = (some .int)) (hw : wb_X6_can_0 u0 x1 x2 post) : pa_At p l e (pa_rm 9) s m args below meth c (MQ below (pa_Qc g D q (fun r => some (.int r)) post A) args s 0 0 A) A D g 7 0 0 q u0 0 [(0, .ref (q 0 0)), (1, .int x1), (2, .int x2)] [] := by
  refine pa_aload_n hE dX6_can_0 rfl 0 rfl ?_
  refine pg_0_0 hE (pa_m1 196 rfl rfl) dX6_can_1 ?_
  refine pa_iload_n hE dX6_can_4 rfl 1 rfl ?_
  refine pa_callVri hE (ct_X3_has l g D q u0 0 x1 _ (by decide) hw) cv_RX6_91 (pa_in1 (by decide)) rfl rfl rfl (pa_hR (by omega) (by decide)) rfl (Nat.le_of_ble_eq_true rfl) dX6_can_5 (fun r1 hw => ?_)
  refine pa_if_eq hE dX6_can_8 (tgt := 20) (by decide) (fun h2 => ?_) (fun h2 => ?_)
  · have hw := Eq.mp (if_pos h2) hw
    refine pa_iconst hE dX6_can_20 (v := (-1 : Int32)) (by decide) ?_
    exact pa_iret hE hr hw rfl dX6_can_21
  · have hw := Eq.mp (if_neg h2) hw
    refine pa_iload_n hE dX6_can_11 rfl 2 rfl ?_
    refine pa_iconst hE dX6_can_12 (v := 0) (by decide) ?_
    refine pa_iconst hE dX6_can_13 (v := 1) (by decide) ?_
    refine pa_callSri hE (ct_X6_within l g D q u0 x2 0 1 _ hw) cs_RX6_79 rfl (pa_hR (by omega) (by decide)) rfl (Nat.le_of_ble_eq_true rfl) dX6_can_14 (fun r3 hw => ?_)
    refine pa_if_ne hE dX6_can_17 (tgt := 22) (by decide) (fun h4 => ?_) (fun h4 => ?_)
    · have hw := Eq.mp (if_neg h4) hw
      refine pa_aload_n hE dX6_can_22 rfl 0 rfl ?_
      refine pg_0_2 hE (pa_m1 198 rfl rfl) dX6_can_23 ?_
      refine pa_iconst hE dX6_can_26 (v := 0) (by decide) ?_
      refine pa_aaldS hE (by unfold vp_in; decide) (n := 2) (by decide) dX6_can_27 ?_
      refine pa_astore_n hE dX6_can_28 rfl (by decide) (lvr := [(0, .ref (q 0 0)), (1, .int x1), (2, .int x2)]) rfl ?_
      refine pa_aload_n hE dX6_can_29 rfl 0 rfl ?_
      refine pa_aload_n hE dX6_can_30 rfl 1 rfl ?_
      refine pg_0_0 hE (pa_m1 196 rfl rfl) dX6_can_31 ?_
      refine pa_callVv hE (ct_X3_become l g D q u0 2 0 _ (by decide) (by decide) hw) cv_RX6_194 (pa_in1 (by decide)) rfl rfl rfl (pa_hR (by omega) (by decide)) rfl (Nat.le_of_ble_eq_true rfl) dX6_can_34 (fun u6 hw => ?_)
      refine pa_iconst hE dX6_can_37 (v := 0) (by decide) ?_
      refine pa_istore hE dX6_can_38 (by decide) (lvr := [(3, .ref (q 1 2)), (0, .ref (q 0 0)), (1, .int x1), (2, .int x2)]) rfl ?_
      refine pa_bipush hE dX6_can_40 (v := (-5 : Int32)) (by decide) ?_
      refine pa_istore hE dX6_can_42 (by decide) (lvr := [(4, .int 0), (3, .ref (q 1 2)), (0, .ref (q 0 0)), (1, .int x1), (2, .int x2)]) rfl ?_
      refine pa_bipush hE dX6_can_44 (v := 9) (by decide) ?_
      refine pa_istore hE dX6_can_46 (by decide) (lvr := [(5, .int (-5 : Int32)), (4, .int 0), (3, .ref (q 1 2)), (0, .ref (q 0 0)), (1, .int x1), (2, .int x2)]) rfl ?_
      exact pa_sub [4, 5, 6, 3, 2, 1, 0] rfl (tl_X6_can_48 hE hr 5000 u6 x1 x2 0 (-5 : Int32) 9 hw)
    · have hw := Eq.mp (if_pos h4) hw
      refine pa_iconst hE dX6_can_20 (v := (-1 : Int32)) (by decide) ?_
      exact pa_iret hE hr hw rfl dX6_can_21
def wp_X6_can (u0 : pa_S) (x1 : Int32) (x2 : Int32) (post : Int32 → pa_S → Prop) : Prop := wb_X6_can_0 u0 x1 x2 post
theorem ct_X6_can (l : Launch) (g : pa_G) (D : va_G) (q : Nat → Nat → Nat) (u0 : pa_S) (x1 : Int32) (x2 : Int32) (post : Int32 → pa_S → Prop)  (hw : wp_X6_can u0 x1 x2 post) : pa_Ct l yX6_can cX6_can 7 (some .int) 9 g D q u0 [.ref (q 0 0), .int x1, .int x2] (fun r => some (.int r)) post := pa_met rfl rfl (Nat.le_of_ble_eq_true rfl) rfl (fun p e s m args below meth c A hE hr => tb_X6_can_0 hE hr  hw)
def wb_X6_lowestTerm_49 (u0 : pa_S) (x3 : Int32) (y0 : Int32) (post : Int32 → Prop) : Prop :=
  (if x3 = 0 then post y0 else (¬ x3 = 0) ∧ post (y0 / x3))
set_option maxRecDepth 100000 in
set_option maxHeartbeats 4000000 in
theorem tb_X6_lowestTerm_49 {p : Program} {l : Launch} {e : Env} {s : State} {m : MethodId} {args : Array Value} {below : List Frame} {meth : Method} {c : Code} {A : Nat → Prop} {D : va_G} {g : pa_G} {q : Nat → Nat → Nat} {u0 : pa_S} {x3 : Int32} {y0 : Int32} {post : Int32 → Prop} (hE : pa_Fx p s m args meth c A D g 7 cX6_lowestTerm RX6) (hr : meth.sig.returnType = (some .int)) (hw : wb_X6_lowestTerm_49 u0 x3 y0 post) : pa_At p l e (pa_rm 2) s m args below meth c (MQ below (pa_Qc g D q (fun r => some (.int r)) (fun r u => u = u0 ∧ post r) A) args s 0 0 A) A D g 7 0 0 q u0 49 [(3, .int x3)] [.int y0] := by
  refine pa_istore hE dX6_lowestTerm_49 (by decide) (lvr := [(3, .int x3)]) rfl ?_
  refine pa_iload_n hE dX6_lowestTerm_51 rfl 1 rfl ?_
  refine pa_if_ne hE dX6_lowestTerm_52 (tgt := 60) (by decide) (fun h3 => ?_) (fun h3 => ?_)
  · have hw := Eq.mp (if_neg h3) hw
    refine pa_iload hE dX6_lowestTerm_60 0 rfl ?_
    refine pa_iload_n hE dX6_lowestTerm_62 rfl 1 rfl ?_
    obtain ⟨h4, hw⟩ := hw
    refine pa_idiv hE dX6_lowestTerm_63 h4 ?_
    exact pa_iret hE hr ⟨rfl, hw⟩ rfl dX6_lowestTerm_64
  · have hw := Eq.mp (if_pos h3) hw
    refine pa_iload hE dX6_lowestTerm_55 0 rfl ?_
    refine pa_goto hE dX6_lowestTerm_57 (tgt := 64) (by decide) ?_
    exact pa_iret hE hr ⟨rfl, hw⟩ rfl dX6_lowestTerm_64
def wb_X6_lowestTerm_40 (u0 : pa_S) (x0 : Int32) (x1 : Int32) (x2 : Int32) (x3 : Int32) (post : Int32 → Prop) : Prop :=
  (if x2 = 0 then wb_X6_lowestTerm_49 u0 x3 x0 post else wb_X6_lowestTerm_49 u0 x3 x1 post)
set_option maxRecDepth 100000 in
set_option maxHeartbeats 4000000 in
theorem tb_X6_lowestTerm_40 {p : Program} {l : Launch} {e : Env} {s : State} {m : MethodId} {args : Array Value} {below : List Frame} {meth : Method} {c : Code} {A : Nat → Prop} {D : va_G} {g : pa_G} {q : Nat → Nat → Nat} {u0 : pa_S} {x0 : Int32} {x1 : Int32} {x2 : Int32} {x3 : Int32} {post : Int32 → Prop} (hE : pa_Fx p s m args meth c A D g 7 cX6_lowestTerm RX6) (hr : meth.sig.returnType = (some .int)) (hw : wb_X6_lowestTerm_40 u0 x0 x1 x2 x3 post) : pa_At p l e (pa_rm 2) s m args below meth c (MQ below (pa_Qc g D q (fun r => some (.int r)) (fun r u => u = u0 ∧ post r) A) args s 0 0 A) A D g 7 0 0 q u0 40 [(0, .int x0), (1, .int x1), (2, .int x2), (3, .int x3)] [] := by
  refine pa_iload_n hE dX6_lowestTerm_40 rfl 2 rfl ?_
  refine pa_if_ne hE dX6_lowestTerm_41 (tgt := 48) (by decide) (fun h2 => ?_) (fun h2 => ?_)
  · have hw := Eq.mp (if_neg h2) hw
    refine pa_iload_n hE dX6_lowestTerm_48 rfl 1 rfl ?_
    exact pa_sub [3] rfl (tb_X6_lowestTerm_49 hE hr hw)
  · have hw := Eq.mp (if_pos h2) hw
    refine pa_iload_n hE dX6_lowestTerm_44 rfl 0 rfl ?_
    refine pa_goto hE dX6_lowestTerm_45 (tgt := 49) (by decide) ?_
    exact pa_sub [3] rfl (tb_X6_lowestTerm_49 hE hr hw)
def wb_X6_lowestTerm_8 (k8 : Int32 → Int32 → Int32 → Int32 → Int32 → Int32 → Prop) (u0 : pa_S) (x0 : Int32) (x1 : Int32) (x2 : Int32) (x3 : Int32) (x4 : Int32) (x5 : Int32) (post : Int32 → Prop) : Prop :=
  (if 1000 ≤ x5 then wb_X6_lowestTerm_40 u0 x0 x1 x2 x3 post else (if x4 = 0 then wb_X6_lowestTerm_40 u0 x0 x1 x2 x3 post else (¬ x4 = 0) ∧ ∀ v7 : Int32, v7 = (pa_rem x3 x4) → ∀ v8 : Int32, v8 = x5 + 1 → k8 x0 x1 x2 x4 v7 v8))
set_option maxRecDepth 100000 in
set_option maxHeartbeats 4000000 in
theorem tb_X6_lowestTerm_8 {p : Program} {l : Launch} {e : Env} {s : State} {m : MethodId} {args : Array Value} {below : List Frame} {meth : Method} {c : Code} {A : Nat → Prop} {D : va_G} {g : pa_G} {q : Nat → Nat → Nat} {k8 : Int32 → Int32 → Int32 → Int32 → Int32 → Int32 → Prop} {u0 : pa_S} {x0 : Int32} {x1 : Int32} {x2 : Int32} {x3 : Int32} {x4 : Int32} {x5 : Int32} {post : Int32 → Prop} (hE : pa_Fx p s m args meth c A D g 7 cX6_lowestTerm RX6) (hr : meth.sig.returnType = (some .int)) (hk8 : ∀ (x0 : Int32) (x1 : Int32) (x2 : Int32) (x3 : Int32) (x4 : Int32) (x5 : Int32), k8 x0 x1 x2 x3 x4 x5 → pa_At p l e (pa_rm 2) s m args below meth c (MQ below (pa_Qc g D q (fun r => some (.int r)) (fun r u => u = u0 ∧ post r) A) args s 0 0 A) A D g 7 0 0 q u0 8 [(0, .int x0), (1, .int x1), (2, .int x2), (3, .int x3), (4, .int x4), (5, .int x5)] []) (hw : wb_X6_lowestTerm_8 k8 u0 x0 x1 x2 x3 x4 x5 post) : pa_At p l e (pa_rm 2) s m args below meth c (MQ below (pa_Qc g D q (fun r => some (.int r)) (fun r u => u = u0 ∧ post r) A) args s 0 0 A) A D g 7 0 0 q u0 8 [(0, .int x0), (1, .int x1), (2, .int x2), (3, .int x3), (4, .int x4), (5, .int x5)] [] := by
  refine pa_iload hE dX6_lowestTerm_8 5 rfl ?_
  refine pa_sipush hE dX6_lowestTerm_10 (v := 1000) (by decide) ?_
  refine pa_icmp_ge hE dX6_lowestTerm_13 (tgt := 40) (by decide) (fun h1 => ?_) (fun h1 => ?_)
  · have hw := Eq.mp (if_pos h1) hw
    exact pa_sub [0, 1, 2, 3] rfl (tb_X6_lowestTerm_40 hE hr hw)
  · have hw := Eq.mp (if_neg h1) hw
    refine pa_iload hE dX6_lowestTerm_16 4 rfl ?_
    refine pa_if_eq hE dX6_lowestTerm_18 (tgt := 40) (by decide) (fun h5 => ?_) (fun h5 => ?_)
    · have hw := Eq.mp (if_pos h5) hw
      exact pa_sub [0, 1, 2, 3] rfl (tb_X6_lowestTerm_40 hE hr hw)
    · have hw := Eq.mp (if_neg h5) hw
      refine pa_iload_n hE dX6_lowestTerm_21 rfl 3 rfl ?_
      refine pa_iload hE dX6_lowestTerm_22 4 rfl ?_
      obtain ⟨h6, hw⟩ := hw
      refine pa_irem hE dX6_lowestTerm_24 h6 ?_
      refine pa_namei (fun v7 ev7 => ?_)
      have hw := hw v7 ev7
      refine pa_istore hE dX6_lowestTerm_25 (by decide) (lvr := [(0, .int x0), (1, .int x1), (2, .int x2), (3, .int x3), (4, .int x4), (5, .int x5)]) rfl ?_
      refine pa_iload hE dX6_lowestTerm_27 5 rfl ?_
      refine pa_istore_n hE dX6_lowestTerm_29 rfl (by decide) (lvr := [(6, .int v7), (0, .int x0), (1, .int x1), (2, .int x2), (4, .int x4), (5, .int x5)]) rfl ?_
      refine pa_iload hE dX6_lowestTerm_30 1 rfl ?_
      refine pa_istore hE dX6_lowestTerm_32 (by decide) (lvr := [(3, .int x4), (6, .int v7), (0, .int x0), (1, .int x1), (2, .int x2), (5, .int x5)]) rfl ?_
      refine pa_iinc hE dX6_lowestTerm_34 (v := 1) 6 rfl (by decide) (by decide) (lvr := [(4, .int v7), (3, .int x4), (6, .int v7), (0, .int x0), (1, .int x1), (2, .int x2)]) rfl (fun v8 ev8 => ?_)
      have hw := hw v8 ev8
      refine pa_goto hE dX6_lowestTerm_37 (tgt := 8) (by decide) ?_
      exact pa_sub [4, 5, 6, 2, 1, 0] rfl (hk8 x0 x1 x2 x4 v7 v8 hw)
def wl_X6_lowestTerm_8 (post : Int32 → Prop) (u0 : pa_S) : Nat → Int32 → Int32 → Int32 → Int32 → Int32 → Int32 → Prop
  | 0, _, _, _, _, _, _ => False
  | n + 1, x0, x1, x2, x3, x4, x5 => wb_X6_lowestTerm_8 (fun x0 x1 x2 x3 x4 x5 => wl_X6_lowestTerm_8 post u0 n x0 x1 x2 x3 x4 x5) u0 x0 x1 x2 x3 x4 x5 post
set_option maxRecDepth 100000 in
set_option maxHeartbeats 4000000 in
theorem tl_X6_lowestTerm_8 {p : Program} {l : Launch} {e : Env} {s : State} {m : MethodId} {args : Array Value} {below : List Frame} {meth : Method} {c : Code} {A : Nat → Prop} {D : va_G} {g : pa_G} {q : Nat → Nat → Nat} {u0 : pa_S} {post : Int32 → Prop} (hE : pa_Fx p s m args meth c A D g 7 cX6_lowestTerm RX6) (hr : meth.sig.returnType = (some .int)) : ∀ (n : Nat) (x0 : Int32) (x1 : Int32) (x2 : Int32) (x3 : Int32) (x4 : Int32) (x5 : Int32), wl_X6_lowestTerm_8 post u0 n x0 x1 x2 x3 x4 x5 → pa_At p l e (pa_rm 2) s m args below meth c (MQ below (pa_Qc g D q (fun r => some (.int r)) (fun r u => u = u0 ∧ post r) A) args s 0 0 A) A D g 7 0 0 q u0 8 [(0, .int x0), (1, .int x1), (2, .int x2), (3, .int x3), (4, .int x4), (5, .int x5)] []
  | 0, _, _, _, _, _, _, hw => absurd hw (by simp only [wl_X6_lowestTerm_8]; exact fun z => z)
  | n + 1, x0, x1, x2, x3, x4, x5, hw => tb_X6_lowestTerm_8 hE hr (fun x0 x1 x2 x3 x4 x5  hw1 => tl_X6_lowestTerm_8 hE hr  n x0 x1 x2 x3 x4 x5  hw1) hw
def wb_X6_lowestTerm_0 (u0 : pa_S) (x0 : Int32) (x1 : Int32) (x2 : Int32) (post : Int32 → Prop) : Prop :=
  wl_X6_lowestTerm_8 post u0 5000 x0 x1 x2 x0 x1 0
set_option maxRecDepth 100000 in
set_option maxHeartbeats 4000000 in
theorem tb_X6_lowestTerm_0 {p : Program} {l : Launch} {e : Env} {s : State} {m : MethodId} {args : Array Value} {below : List Frame} {meth : Method} {c : Code} {A : Nat → Prop} {D : va_G} {g : pa_G} {q : Nat → Nat → Nat} {u0 : pa_S} {x0 : Int32} {x1 : Int32} {x2 : Int32} {post : Int32 → Prop} (hE : pa_Fx p s m args meth c A D g 7 cX6_lowestTerm RX6) (hr : meth.sig.returnType = (some .int)) (hw : wb_X6_lowestTerm_0 u0 x0 x1 x2 post) : pa_At p l e (pa_rm 2) s m args below meth c (MQ below (pa_Qc g D q (fun r => some (.int r)) (fun r u => u = u0 ∧ post r) A) args s 0 0 A) A D g 7 0 0 q u0 0 [(0, .int x0), (1, .int x1), (2, .int x2)] [] := by
  refine pa_iload_n hE dX6_lowestTerm_0 rfl 0 rfl ?_
  refine pa_istore_n hE dX6_lowestTerm_1 rfl (by decide) (lvr := [(0, .int x0), (1, .int x1), (2, .int x2)]) rfl ?_
  refine pa_iload_n hE dX6_lowestTerm_2 rfl 2 rfl ?_
  refine pa_istore hE dX6_lowestTerm_3 (by decide) (lvr := [(3, .int x0), (0, .int x0), (1, .int x1), (2, .int x2)]) rfl ?_
  refine pa_iconst hE dX6_lowestTerm_5 (v := 0) (by decide) ?_
  refine pa_istore hE dX6_lowestTerm_6 (by decide) (lvr := [(4, .int x1), (3, .int x0), (0, .int x0), (1, .int x1), (2, .int x2)]) rfl ?_
  exact pa_sub [3, 4, 5, 2, 1, 0] rfl (tl_X6_lowestTerm_8 hE hr 5000 x0 x1 x2 x0 x1 0 hw)
def wp_X6_lowestTerm (u0 : pa_S) (x0 : Int32) (x1 : Int32) (x2 : Int32) (post : Int32 → Prop) : Prop := wb_X6_lowestTerm_0 u0 x0 x1 x2 post
theorem ct_X6_lowestTerm (l : Launch) (g : pa_G) (D : va_G) (q : Nat → Nat → Nat) (u0 : pa_S) (x0 : Int32) (x1 : Int32) (x2 : Int32) (post : Int32 → Prop)  (hw : wp_X6_lowestTerm u0 x0 x1 x2 post) : pa_Ct l yX6_lowestTerm cX6_lowestTerm 7 (some .int) 2 g D q u0 [.int x0, .int x1, .int x2] (fun r => some (.int r)) (fun r u => u = u0 ∧ post r) := pa_met rfl rfl (Nat.le_of_ble_eq_true rfl) rfl (fun p e s m args below meth c A hE hr => tb_X6_lowestTerm_0 hE hr  hw)
def wb_X6_odds_94 (k43 : pa_S → Int32 → Int32 → Int32 → Int32 → Int32 → Prop) (k61 : pa_S → Int32 → Int32 → Int32 → Int32 → Int32 → Int32 → Prop) (u0 : pa_S) (x1 : Int32) (x2 : Int32) (x3 : Int32) (x4 : Int32) (x5 : Int32) (x6 : Int32) (post : Int64 → pa_S → Prop) : Prop :=
  ∀ v17 : Int32, v17 = x6 + 1 → k61 u0 x1 x2 x3 x4 x5 v17
set_option maxRecDepth 100000 in
set_option maxHeartbeats 4000000 in
theorem tb_X6_odds_94 {p : Program} {l : Launch} {e : Env} {s : State} {m : MethodId} {args : Array Value} {below : List Frame} {meth : Method} {c : Code} {A : Nat → Prop} {D : va_G} {g : pa_G} {q : Nat → Nat → Nat} {k43 : pa_S → Int32 → Int32 → Int32 → Int32 → Int32 → Prop} {k61 : pa_S → Int32 → Int32 → Int32 → Int32 → Int32 → Int32 → Prop} {u0 : pa_S} {x1 : Int32} {x2 : Int32} {x3 : Int32} {x4 : Int32} {x5 : Int32} {x6 : Int32} {post : Int64 → pa_S → Prop} (hE : pa_Fx p s m args meth c A D g 7 cX6_odds RX6) (hr : meth.sig.returnType = (some .long)) (hk43 : ∀ (u : pa_S)  (x1 : Int32) (x2 : Int32) (x3 : Int32) (x4 : Int32) (x5 : Int32), k43 u x1 x2 x3 x4 x5 → pa_At p l e (pa_rm 9) s m args below meth c (MQ below (pa_Qc g D q (fun r => some (.long r)) post A) args s 0 0 A) A D g 7 0 0 q u 43 [(0, .ref (q 0 0)), (1, .int x1), (2, .int x2), (3, .int x3), (4, .int x4), (5, .int x5)] []) (hk61 : ∀ (u : pa_S)  (x1 : Int32) (x2 : Int32) (x3 : Int32) (x4 : Int32) (x5 : Int32) (x6 : Int32), k61 u x1 x2 x3 x4 x5 x6 → pa_At p l e (pa_rm 9) s m args below meth c (MQ below (pa_Qc g D q (fun r => some (.long r)) post A) args s 0 0 A) A D g 7 0 0 q u 61 [(0, .ref (q 0 0)), (1, .int x1), (2, .int x2), (3, .int x3), (4, .int x4), (5, .int x5), (6, .int x6)] []) (hw : wb_X6_odds_94 k43 k61 u0 x1 x2 x3 x4 x5 x6 post) : pa_At p l e (pa_rm 9) s m args below meth c (MQ below (pa_Qc g D q (fun r => some (.long r)) post A) args s 0 0 A) A D g 7 0 0 q u0 94 [(0, .ref (q 0 0)), (1, .int x1), (2, .int x2), (3, .int x3), (4, .int x4), (5, .int x5), (6, .int x6)] [] := by
  refine pa_iinc hE dX6_odds_94 (v := 1) 6 rfl (by decide) (by decide) (lvr := [(0, .ref (q 0 0)), (1, .int x1), (2, .int x2), (3, .int x3), (4, .int x4), (5, .int x5)]) rfl (fun v17 ev17 => ?_)
  have hw := hw v17 ev17
  refine pa_goto hE dX6_odds_97 (tgt := 61) (by decide) ?_
  exact pa_sub [1, 2, 3, 4, 5, 6, 0] rfl (hk61 u0 x1 x2 x3 x4 x5 v17 hw)
def wb_X6_odds_61 (k43 : pa_S → Int32 → Int32 → Int32 → Int32 → Int32 → Prop) (k61 : pa_S → Int32 → Int32 → Int32 → Int32 → Int32 → Int32 → Prop) (u0 : pa_S) (x1 : Int32) (x2 : Int32) (x3 : Int32) (x4 : Int32) (x5 : Int32) (x6 : Int32) (post : Int64 → pa_S → Prop) : Prop :=
  (if (pa_I u0 1 0 6) ≤ x6 then ∀ v10 : Int32, v10 = x5 + 1 → k43 u0 x1 x2 x3 x4 v10 else ∀ v11 : Int32, v11 = x3 + 1 → (wp_X6_ifShaken u0 x5 x6 (fun (u13 : pa_S) => (wp_X3_fortuneOfAll u13 2 (fun (r14 : Int32) (u15 : pa_S) => (if r14 < x1 then wb_X6_odds_94 k43 k61 u15 x1 x2 v11 x4 x5 x6 post else ∀ v18 : Int32, v18 = x4 + 1 → wb_X6_odds_94 k43 k61 u15 x1 x2 v11 v18 x5 x6 post))))))
set_option maxRecDepth 100000 in
set_option maxHeartbeats 4000000 in
theorem tb_X6_odds_61 {p : Program} {l : Launch} {e : Env} {s : State} {m : MethodId} {args : Array Value} {below : List Frame} {meth : Method} {c : Code} {A : Nat → Prop} {D : va_G} {g : pa_G} {q : Nat → Nat → Nat} {k43 : pa_S → Int32 → Int32 → Int32 → Int32 → Int32 → Prop} {k61 : pa_S → Int32 → Int32 → Int32 → Int32 → Int32 → Int32 → Prop} {u0 : pa_S} {x1 : Int32} {x2 : Int32} {x3 : Int32} {x4 : Int32} {x5 : Int32} {x6 : Int32} {post : Int64 → pa_S → Prop} (hE : pa_Fx p s m args meth c A D g 7 cX6_odds RX6) (hr : meth.sig.returnType = (some .long)) (hk43 : ∀ (u : pa_S)  (x1 : Int32) (x2 : Int32) (x3 : Int32) (x4 : Int32) (x5 : Int32), k43 u x1 x2 x3 x4 x5 → pa_At p l e (pa_rm 9) s m args below meth c (MQ below (pa_Qc g D q (fun r => some (.long r)) post A) args s 0 0 A) A D g 7 0 0 q u 43 [(0, .ref (q 0 0)), (1, .int x1), (2, .int x2), (3, .int x3), (4, .int x4), (5, .int x5)] []) (hk61 : ∀ (u : pa_S)  (x1 : Int32) (x2 : Int32) (x3 : Int32) (x4 : Int32) (x5 : Int32) (x6 : Int32), k61 u x1 x2 x3 x4 x5 x6 → pa_At p l e (pa_rm 9) s m args below meth c (MQ below (pa_Qc g D q (fun r => some (.long r)) post A) args s 0 0 A) A D g 7 0 0 q u 61 [(0, .ref (q 0 0)), (1, .int x1), (2, .int x2), (3, .int x3), (4, .int x4), (5, .int x5), (6, .int x6)] []) (hw : wb_X6_odds_61 k43 k61 u0 x1 x2 x3 x4 x5 x6 post) : pa_At p l e (pa_rm 9) s m args below meth c (MQ below (pa_Qc g D q (fun r => some (.long r)) post A) args s 0 0 A) A D g 7 0 0 q u0 61 [(0, .ref (q 0 0)), (1, .int x1), (2, .int x2), (3, .int x3), (4, .int x4), (5, .int x5), (6, .int x6)] [] := by
  refine pa_iload hE dX6_odds_61 6 rfl ?_
  refine pa_aload_n hE dX6_odds_63 rfl 0 rfl ?_
  refine pg_0_0 hE (pa_m1 196 rfl rfl) dX6_odds_64 ?_
  refine pg_1_6 (pa_in1 (by decide)) hE (pa_m1 148 rfl rfl) dX6_odds_67 ?_
  refine pa_icmp_ge hE dX6_odds_70 (tgt := 100) (by decide) (fun h9 => ?_) (fun h9 => ?_)
  · have hw := Eq.mp (if_pos h9) hw
    refine pa_iinc hE dX6_odds_100 (v := 1) 5 rfl (by decide) (by decide) (lvr := [(0, .ref (q 0 0)), (1, .int x1), (2, .int x2), (3, .int x3), (4, .int x4), (6, .int x6)]) rfl (fun v10 ev10 => ?_)
    have hw := hw v10 ev10
    refine pa_goto hE dX6_odds_103 (tgt := 43) (by decide) ?_
    exact pa_sub [1, 2, 3, 4, 5, 0] rfl (hk43 u0 x1 x2 x3 x4 v10 hw)
  · have hw := Eq.mp (if_neg h9) hw
    refine pa_iinc hE dX6_odds_73 (v := 1) 3 rfl (by decide) (by decide) (lvr := [(0, .ref (q 0 0)), (1, .int x1), (2, .int x2), (4, .int x4), (5, .int x5), (6, .int x6)]) rfl (fun v11 ev11 => ?_)
    have hw := hw v11 ev11
    refine pa_aload_n hE dX6_odds_76 rfl 1 rfl ?_
    refine pa_iload hE dX6_odds_77 5 rfl ?_
    refine pa_iload hE dX6_odds_79 6 rfl ?_
    refine pa_callVa hE (ct_X6_ifShaken l g D q u0 x5 x6 _ hw) cv_RX6_202 pa_in0 rfl rfl rfl (pa_hR (by omega) (by decide)) rfl (Nat.le_of_ble_eq_true rfl) dX6_odds_81 (fun u13 hw => ?_)
    refine pa_callVi hE (ct_X3_fortuneOfAll l g D q u13 2 _ (by decide) hw) cv_RX6_184 (pa_in1 (by decide)) rfl rfl rfl (pa_hR (by omega) (by decide)) rfl (Nat.le_of_ble_eq_true rfl) dX6_odds_84 (fun r14 u15 hw => ?_)
    refine pa_iload_n hE dX6_odds_87 rfl 2 rfl ?_
    refine pa_icmp_lt hE dX6_odds_88 (tgt := 94) (by decide) (fun h16 => ?_) (fun h16 => ?_)
    · have hw := Eq.mp (if_pos h16) hw
      exact pa_sub [1, 2, 3, 0, 4, 5, 6] rfl (tb_X6_odds_94 hE hr hk43 hk61 hw)
    · have hw := Eq.mp (if_neg h16) hw
      refine pa_iinc hE dX6_odds_91 (v := 1) 4 rfl (by decide) (by decide) (lvr := [(3, .int v11), (0, .ref (q 0 0)), (1, .int x1), (2, .int x2), (5, .int x5), (6, .int x6)]) rfl (fun v18 ev18 => ?_)
      have hw := hw v18 ev18
      exact pa_sub [2, 3, 4, 1, 0, 5, 6] rfl (tb_X6_odds_94 hE hr hk43 hk61 hw)
def wl_X6_odds_61 (k43 : pa_S → Int32 → Int32 → Int32 → Int32 → Int32 → Prop) (post : Int64 → pa_S → Prop) : Nat → pa_S → Int32 → Int32 → Int32 → Int32 → Int32 → Int32 → Prop
  | 0, _, _, _, _, _, _, _ => False
  | n + 1, u0, x1, x2, x3, x4, x5, x6 => wb_X6_odds_61 k43 (fun u0 x1 x2 x3 x4 x5 x6 => wl_X6_odds_61 k43 post n u0 x1 x2 x3 x4 x5 x6) u0 x1 x2 x3 x4 x5 x6 post
set_option maxRecDepth 100000 in
set_option maxHeartbeats 4000000 in
theorem tl_X6_odds_61 {p : Program} {l : Launch} {e : Env} {s : State} {m : MethodId} {args : Array Value} {below : List Frame} {meth : Method} {c : Code} {A : Nat → Prop} {D : va_G} {g : pa_G} {q : Nat → Nat → Nat} {k43 : pa_S → Int32 → Int32 → Int32 → Int32 → Int32 → Prop} {post : Int64 → pa_S → Prop} (hE : pa_Fx p s m args meth c A D g 7 cX6_odds RX6) (hr : meth.sig.returnType = (some .long)) (hk43 : ∀ (u : pa_S)  (x1 : Int32) (x2 : Int32) (x3 : Int32) (x4 : Int32) (x5 : Int32), k43 u x1 x2 x3 x4 x5 → pa_At p l e (pa_rm 9) s m args below meth c (MQ below (pa_Qc g D q (fun r => some (.long r)) post A) args s 0 0 A) A D g 7 0 0 q u 43 [(0, .ref (q 0 0)), (1, .int x1), (2, .int x2), (3, .int x3), (4, .int x4), (5, .int x5)] []) : ∀ (n : Nat) (u0 : pa_S) (x1 : Int32) (x2 : Int32) (x3 : Int32) (x4 : Int32) (x5 : Int32) (x6 : Int32), wl_X6_odds_61 k43 post n u0 x1 x2 x3 x4 x5 x6 → pa_At p l e (pa_rm 9) s m args below meth c (MQ below (pa_Qc g D q (fun r => some (.long r)) post A) args s 0 0 A) A D g 7 0 0 q u0 61 [(0, .ref (q 0 0)), (1, .int x1), (2, .int x2), (3, .int x3), (4, .int x4), (5, .int x5), (6, .int x6)] []
  | 0, _, _, _, _, _, _, _, hw => absurd hw (by simp only [wl_X6_odds_61]; exact fun z => z)
  | n + 1, u0, x1, x2, x3, x4, x5, x6, hw => tb_X6_odds_61 hE hr hk43 (fun u0 x1 x2 x3 x4 x5 x6  hw1 => tl_X6_odds_61 hE hr hk43 n u0 x1 x2 x3 x4 x5 x6  hw1) hw
def wb_X6_odds_43 (k43 : pa_S → Int32 → Int32 → Int32 → Int32 → Int32 → Prop) (u0 : pa_S) (x1 : Int32) (x2 : Int32) (x3 : Int32) (x4 : Int32) (x5 : Int32) (post : Int64 → pa_S → Prop) : Prop :=
  (if (pa_I u0 1 0 6) ≤ x5 then (wp_X6_lowestTerm u0 x4 x3 x2 (fun (r7 : Int32) => post (r7.toInt64) u0)) else ∀ v8 : Int32, v8 = (x5 + 1) → wl_X6_odds_61 k43 post 5000 u0 x1 x2 x3 x4 x5 v8)
set_option maxRecDepth 100000 in
set_option maxHeartbeats 4000000 in
theorem tb_X6_odds_43 {p : Program} {l : Launch} {e : Env} {s : State} {m : MethodId} {args : Array Value} {below : List Frame} {meth : Method} {c : Code} {A : Nat → Prop} {D : va_G} {g : pa_G} {q : Nat → Nat → Nat} {k43 : pa_S → Int32 → Int32 → Int32 → Int32 → Int32 → Prop} {u0 : pa_S} {x1 : Int32} {x2 : Int32} {x3 : Int32} {x4 : Int32} {x5 : Int32} {post : Int64 → pa_S → Prop} (hE : pa_Fx p s m args meth c A D g 7 cX6_odds RX6) (hr : meth.sig.returnType = (some .long)) (hk43 : ∀ (u : pa_S)  (x1 : Int32) (x2 : Int32) (x3 : Int32) (x4 : Int32) (x5 : Int32), k43 u x1 x2 x3 x4 x5 → pa_At p l e (pa_rm 9) s m args below meth c (MQ below (pa_Qc g D q (fun r => some (.long r)) post A) args s 0 0 A) A D g 7 0 0 q u 43 [(0, .ref (q 0 0)), (1, .int x1), (2, .int x2), (3, .int x3), (4, .int x4), (5, .int x5)] []) (hw : wb_X6_odds_43 k43 u0 x1 x2 x3 x4 x5 post) : pa_At p l e (pa_rm 9) s m args below meth c (MQ below (pa_Qc g D q (fun r => some (.long r)) post A) args s 0 0 A) A D g 7 0 0 q u0 43 [(0, .ref (q 0 0)), (1, .int x1), (2, .int x2), (3, .int x3), (4, .int x4), (5, .int x5)] [] := by
  refine pa_iload hE dX6_odds_43 5 rfl ?_
  refine pa_aload_n hE dX6_odds_45 rfl 0 rfl ?_
  refine pg_0_0 hE (pa_m1 196 rfl rfl) dX6_odds_46 ?_
  refine pg_1_6 (pa_in1 (by decide)) hE (pa_m1 148 rfl rfl) dX6_odds_49 ?_
  refine pa_icmp_ge hE dX6_odds_52 (tgt := 106) (by decide) (fun h6 => ?_) (fun h6 => ?_)
  · have hw := Eq.mp (if_pos h6) hw
    refine pa_iload hE dX6_odds_106 4 rfl ?_
    refine pa_iload_n hE dX6_odds_108 rfl 3 rfl ?_
    refine pa_iload_n hE dX6_odds_109 rfl 2 rfl ?_
    refine pa_callSri hE (ct_X6_lowestTerm l g D q u0 x4 x3 x2 _ hw) cs_RX6_237 rfl (pa_hR (by omega) (by decide)) rfl (Nat.le_of_ble_eq_true rfl) dX6_odds_110 (fun r7 hw => ?_)
    refine pa_i2l hE dX6_odds_113 ?_
    exact pa_lret hE hr hw rfl dX6_odds_114
  · have hw := Eq.mp (if_neg h6) hw
    refine pa_iload hE dX6_odds_55 5 rfl ?_
    refine pa_iconst hE dX6_odds_57 (v := 1) (by decide) ?_
    refine pa_iadd hE dX6_odds_58 ?_
    refine pa_namei (fun v8 ev8 => ?_)
    have hw := hw v8 ev8
    refine pa_istore hE dX6_odds_59 (by decide) (lvr := [(0, .ref (q 0 0)), (1, .int x1), (2, .int x2), (3, .int x3), (4, .int x4), (5, .int x5)]) rfl ?_
    exact pa_sub [1, 2, 3, 4, 5, 6, 0] rfl (tl_X6_odds_61 hE hr hk43 5000 u0 x1 x2 x3 x4 x5 v8 hw)
def wl_X6_odds_43 (post : Int64 → pa_S → Prop) : Nat → pa_S → Int32 → Int32 → Int32 → Int32 → Int32 → Prop
  | 0, _, _, _, _, _, _ => False
  | n + 1, u0, x1, x2, x3, x4, x5 => wb_X6_odds_43 (fun u0 x1 x2 x3 x4 x5 => wl_X6_odds_43 post n u0 x1 x2 x3 x4 x5) u0 x1 x2 x3 x4 x5 post
set_option maxRecDepth 100000 in
set_option maxHeartbeats 4000000 in
theorem tl_X6_odds_43 {p : Program} {l : Launch} {e : Env} {s : State} {m : MethodId} {args : Array Value} {below : List Frame} {meth : Method} {c : Code} {A : Nat → Prop} {D : va_G} {g : pa_G} {q : Nat → Nat → Nat} {post : Int64 → pa_S → Prop} (hE : pa_Fx p s m args meth c A D g 7 cX6_odds RX6) (hr : meth.sig.returnType = (some .long)) : ∀ (n : Nat) (u0 : pa_S) (x1 : Int32) (x2 : Int32) (x3 : Int32) (x4 : Int32) (x5 : Int32), wl_X6_odds_43 post n u0 x1 x2 x3 x4 x5 → pa_At p l e (pa_rm 9) s m args below meth c (MQ below (pa_Qc g D q (fun r => some (.long r)) post A) args s 0 0 A) A D g 7 0 0 q u0 43 [(0, .ref (q 0 0)), (1, .int x1), (2, .int x2), (3, .int x3), (4, .int x4), (5, .int x5)] []
  | 0, _, _, _, _, _, _, hw => absurd hw (by simp only [wl_X6_odds_43]; exact fun z => z)
  | n + 1, u0, x1, x2, x3, x4, x5, hw => tb_X6_odds_43 hE hr (fun u0 x1 x2 x3 x4 x5  hw1 => tl_X6_odds_43 hE hr  n u0 x1 x2 x3 x4 x5  hw1) hw
def wb_X6_odds_0 (u0 : pa_S) (x1 : Int32) (x2 : Int32) (post : Int64 → pa_S → Prop) : Prop :=
  (wp_X6_within u0 x1 0 999 (fun (r1 : Int32) => (if r1 = 0 then post (-9223372036854775808 : Int64) u0 else (wp_X6_within u0 x2 0 1 (fun (r3 : Int32) => (if r3 = 0 then post (-9223372036854775808 : Int64) u0 else (if 2 ≤ (pa_I u0 1 0 6) then wl_X6_odds_43 post 5000 u0 x1 x2 0 0 0 else post (-9223372036854775808 : Int64) u0)))))))
set_option maxRecDepth 100000 in
set_option maxHeartbeats 4000000 in
theorem tb_X6_odds_0 {p : Program} {l : Launch} {e : Env} {s : State} {m : MethodId} {args : Array Value} {below : List Frame} {meth : Method} {c : Code} {A : Nat → Prop} {D : va_G} {g : pa_G} {q : Nat → Nat → Nat} {u0 : pa_S} {x1 : Int32} {x2 : Int32} {post : Int64 → pa_S → Prop} (hE : pa_Fx p s m args meth c A D g 7 cX6_odds RX6) (hr : meth.sig.returnType = (some .long)) (hw : wb_X6_odds_0 u0 x1 x2 post) : pa_At p l e (pa_rm 9) s m args below meth c (MQ below (pa_Qc g D q (fun r => some (.long r)) post A) args s 0 0 A) A D g 7 0 0 q u0 0 [(0, .ref (q 0 0)), (1, .int x1), (2, .int x2)] [] := by
  refine pa_iload_n hE dX6_odds_0 rfl 1 rfl ?_
  refine pa_iconst hE dX6_odds_1 (v := 0) (by decide) ?_
  refine pa_sipush hE dX6_odds_2 (v := 999) (by decide) ?_
  refine pa_callSri hE (ct_X6_within l g D q u0 x1 0 999 _ hw) cs_RX6_79 rfl (pa_hR (by omega) (by decide)) rfl (Nat.le_of_ble_eq_true rfl) dX6_odds_5 (fun r1 hw => ?_)
  refine pa_if_eq hE dX6_odds_8 (tgt := 31) (by decide) (fun h2 => ?_) (fun h2 => ?_)
  · have hw := Eq.mp (if_pos h2) hw
    refine pa_ldc2 hE dX6_odds_31 (v := (-9223372036854775808 : Int64)) (pa_m3 203 rfl rfl) ?_
    exact pa_lret hE hr hw rfl dX6_odds_34
  · have hw := Eq.mp (if_neg h2) hw
    refine pa_iload_n hE dX6_odds_11 rfl 2 rfl ?_
    refine pa_iconst hE dX6_odds_12 (v := 0) (by decide) ?_
    refine pa_iconst hE dX6_odds_13 (v := 1) (by decide) ?_
    refine pa_callSri hE (ct_X6_within l g D q u0 x2 0 1 _ hw) cs_RX6_79 rfl (pa_hR (by omega) (by decide)) rfl (Nat.le_of_ble_eq_true rfl) dX6_odds_14 (fun r3 hw => ?_)
    refine pa_if_eq hE dX6_odds_17 (tgt := 31) (by decide) (fun h4 => ?_) (fun h4 => ?_)
    · have hw := Eq.mp (if_pos h4) hw
      refine pa_ldc2 hE dX6_odds_31 (v := (-9223372036854775808 : Int64)) (pa_m3 203 rfl rfl) ?_
      exact pa_lret hE hr hw rfl dX6_odds_34
    · have hw := Eq.mp (if_neg h4) hw
      refine pa_aload_n hE dX6_odds_20 rfl 0 rfl ?_
      refine pg_0_0 hE (pa_m1 196 rfl rfl) dX6_odds_21 ?_
      refine pg_1_6 (pa_in1 (by decide)) hE (pa_m1 148 rfl rfl) dX6_odds_24 ?_
      refine pa_iconst hE dX6_odds_27 (v := 2) (by decide) ?_
      refine pa_icmp_ge hE dX6_odds_28 (tgt := 35) (by decide) (fun h5 => ?_) (fun h5 => ?_)
      · have hw := Eq.mp (if_pos h5) hw
        refine pa_iconst hE dX6_odds_35 (v := 0) (by decide) ?_
        refine pa_istore_n hE dX6_odds_36 rfl (by decide) (lvr := [(0, .ref (q 0 0)), (1, .int x1), (2, .int x2)]) rfl ?_
        refine pa_iconst hE dX6_odds_37 (v := 0) (by decide) ?_
        refine pa_istore hE dX6_odds_38 (by decide) (lvr := [(3, .int 0), (0, .ref (q 0 0)), (1, .int x1), (2, .int x2)]) rfl ?_
        refine pa_iconst hE dX6_odds_40 (v := 0) (by decide) ?_
        refine pa_istore hE dX6_odds_41 (by decide) (lvr := [(4, .int 0), (3, .int 0), (0, .ref (q 0 0)), (1, .int x1), (2, .int x2)]) rfl ?_
        exact pa_sub [3, 4, 5, 2, 1, 0] rfl (tl_X6_odds_43 hE hr 5000 u0 x1 x2 0 0 0 hw)
      · have hw := Eq.mp (if_neg h5) hw
        refine pa_ldc2 hE dX6_odds_31 (v := (-9223372036854775808 : Int64)) (pa_m3 203 rfl rfl) ?_
        exact pa_lret hE hr hw rfl dX6_odds_34
def wp_X6_odds (u0 : pa_S) (x1 : Int32) (x2 : Int32) (post : Int64 → pa_S → Prop) : Prop := wb_X6_odds_0 u0 x1 x2 post
theorem ct_X6_odds (l : Launch) (g : pa_G) (D : va_G) (q : Nat → Nat → Nat) (u0 : pa_S) (x1 : Int32) (x2 : Int32) (post : Int64 → pa_S → Prop)  (hw : wp_X6_odds u0 x1 x2 post) : pa_Ct l yX6_odds cX6_odds 7 (some .long) 9 g D q u0 [.ref (q 0 0), .int x1, .int x2] (fun r => some (.long r)) post := pa_met rfl rfl (Nat.le_of_ble_eq_true rfl) rfl (fun p e s m args below meth c A hE hr => tb_X6_odds_0 hE hr  hw)
def wb_X6_mean_0 (u0 : pa_S) (x1 : Int32) (x2 : Int32) (post : Int64 → pa_S → Prop) : Prop :=
  (wp_X6_within u0 x1 0 60 (fun (r1 : Int32) => (if r1 = 0 then post (-9223372036854775808 : Int64) u0 else (wp_X6_within u0 x2 0 1 (fun (r3 : Int32) => (if r3 = 0 then post (-9223372036854775808 : Int64) u0 else (if 1 ≤ (pa_I u0 1 0 6) then (wp_X3_become u0 2 0 (fun (u7 : pa_S) => (wp_X3_goDays u7 2 x1 (fun (u9 : pa_S) => (wp_X3_fortuneOfAll u9 2 (fun (r10 : Int32) (u11 : pa_S) => (wp_X6_lowestTerm u11 r10 (pa_I u11 1 0 6) x2 (fun (r12 : Int32) => post (r12.toInt64) u11)))))))) else post (-9223372036854775808 : Int64) u0)))))))
set_option maxRecDepth 100000 in
set_option maxHeartbeats 4000000 in
theorem tb_X6_mean_0 {p : Program} {l : Launch} {e : Env} {s : State} {m : MethodId} {args : Array Value} {below : List Frame} {meth : Method} {c : Code} {A : Nat → Prop} {D : va_G} {g : pa_G} {q : Nat → Nat → Nat} {u0 : pa_S} {x1 : Int32} {x2 : Int32} {post : Int64 → pa_S → Prop} (hE : pa_Fx p s m args meth c A D g 4 cX6_mean RX6) (hr : meth.sig.returnType = (some .long)) (hw : wb_X6_mean_0 u0 x1 x2 post) : pa_At p l e (pa_rm 9) s m args below meth c (MQ below (pa_Qc g D q (fun r => some (.long r)) post A) args s 0 0 A) A D g 4 0 0 q u0 0 [(0, .ref (q 0 0)), (1, .int x1), (2, .int x2)] [] := by
  refine pa_iload_n hE dX6_mean_0 rfl 1 rfl ?_
  refine pa_iconst hE dX6_mean_1 (v := 0) (by decide) ?_
  refine pa_bipush hE dX6_mean_2 (v := 60) (by decide) ?_
  refine pa_callSri hE (ct_X6_within l g D q u0 x1 0 60 _ hw) cs_RX6_79 rfl (pa_hR (by omega) (by decide)) rfl (Nat.le_of_ble_eq_true rfl) dX6_mean_4 (fun r1 hw => ?_)
  refine pa_if_eq hE dX6_mean_7 (tgt := 30) (by decide) (fun h2 => ?_) (fun h2 => ?_)
  · have hw := Eq.mp (if_pos h2) hw
    refine pa_ldc2 hE dX6_mean_30 (v := (-9223372036854775808 : Int64)) (pa_m3 203 rfl rfl) ?_
    exact pa_lret hE hr hw rfl dX6_mean_33
  · have hw := Eq.mp (if_neg h2) hw
    refine pa_iload_n hE dX6_mean_10 rfl 2 rfl ?_
    refine pa_iconst hE dX6_mean_11 (v := 0) (by decide) ?_
    refine pa_iconst hE dX6_mean_12 (v := 1) (by decide) ?_
    refine pa_callSri hE (ct_X6_within l g D q u0 x2 0 1 _ hw) cs_RX6_79 rfl (pa_hR (by omega) (by decide)) rfl (Nat.le_of_ble_eq_true rfl) dX6_mean_13 (fun r3 hw => ?_)
    refine pa_if_eq hE dX6_mean_16 (tgt := 30) (by decide) (fun h4 => ?_) (fun h4 => ?_)
    · have hw := Eq.mp (if_pos h4) hw
      refine pa_ldc2 hE dX6_mean_30 (v := (-9223372036854775808 : Int64)) (pa_m3 203 rfl rfl) ?_
      exact pa_lret hE hr hw rfl dX6_mean_33
    · have hw := Eq.mp (if_neg h4) hw
      refine pa_aload_n hE dX6_mean_19 rfl 0 rfl ?_
      refine pg_0_0 hE (pa_m1 196 rfl rfl) dX6_mean_20 ?_
      refine pg_1_6 (pa_in1 (by decide)) hE (pa_m1 148 rfl rfl) dX6_mean_23 ?_
      refine pa_iconst hE dX6_mean_26 (v := 1) (by decide) ?_
      refine pa_icmp_ge hE dX6_mean_27 (tgt := 34) (by decide) (fun h5 => ?_) (fun h5 => ?_)
      · have hw := Eq.mp (if_pos h5) hw
        refine pa_aload_n hE dX6_mean_34 rfl 0 rfl ?_
        refine pg_0_2 hE (pa_m1 198 rfl rfl) dX6_mean_35 ?_
        refine pa_iconst hE dX6_mean_38 (v := 0) (by decide) ?_
        refine pa_aaldS hE (by unfold vp_in; decide) (n := 2) (by decide) dX6_mean_39 ?_
        refine pa_astore_n hE dX6_mean_40 rfl (by decide) (lvr := [(0, .ref (q 0 0)), (1, .int x1), (2, .int x2)]) rfl ?_
        refine pa_aload_n hE dX6_mean_41 rfl 0 rfl ?_
        refine pa_aload_n hE dX6_mean_42 rfl 1 rfl ?_
        refine pg_0_0 hE (pa_m1 196 rfl rfl) dX6_mean_43 ?_
        refine pa_callVv hE (ct_X3_become l g D q u0 2 0 _ (by decide) (by decide) hw) cv_RX6_194 (pa_in1 (by decide)) rfl rfl rfl (pa_hR (by omega) (by decide)) rfl (Nat.le_of_ble_eq_true rfl) dX6_mean_46 (fun u7 hw => ?_)
        refine pa_aload_n hE dX6_mean_49 rfl 0 rfl ?_
        refine pa_iload_n hE dX6_mean_50 rfl 2 rfl ?_
        refine pa_callVv hE (ct_X3_goDays l g D q u7 2 x1 _ (by decide) hw) cv_RX6_190 (pa_in1 (by decide)) rfl rfl rfl (pa_hR (by omega) (by decide)) rfl (Nat.le_of_ble_eq_true rfl) dX6_mean_51 (fun u9 hw => ?_)
        refine pa_aload_n hE dX6_mean_54 rfl 0 rfl ?_
        refine pa_callVi hE (ct_X3_fortuneOfAll l g D q u9 2 _ (by decide) hw) cv_RX6_184 (pa_in1 (by decide)) rfl rfl rfl (pa_hR (by omega) (by decide)) rfl (Nat.le_of_ble_eq_true rfl) dX6_mean_55 (fun r10 u11 hw => ?_)
        refine pa_aload_n hE dX6_mean_58 rfl 1 rfl ?_
        refine pg_0_0 hE (pa_m1 196 rfl rfl) dX6_mean_59 ?_
        refine pg_1_6 (pa_in1 (by decide)) hE (pa_m1 148 rfl rfl) dX6_mean_62 ?_
        refine pa_iload_n hE dX6_mean_65 rfl 3 rfl ?_
        refine pa_callSri hE (ct_X6_lowestTerm l g D q u11 r10 (pa_I u11 1 0 6) x2 _ hw) cs_RX6_237 rfl (pa_hR (by omega) (by decide)) rfl (Nat.le_of_ble_eq_true rfl) dX6_mean_66 (fun r12 hw => ?_)
        refine pa_i2l hE dX6_mean_69 ?_
        exact pa_lret hE hr hw rfl dX6_mean_70
      · have hw := Eq.mp (if_neg h5) hw
        refine pa_ldc2 hE dX6_mean_30 (v := (-9223372036854775808 : Int64)) (pa_m3 203 rfl rfl) ?_
        exact pa_lret hE hr hw rfl dX6_mean_33
def wp_X6_mean (u0 : pa_S) (x1 : Int32) (x2 : Int32) (post : Int64 → pa_S → Prop) : Prop := wb_X6_mean_0 u0 x1 x2 post
theorem ct_X6_mean (l : Launch) (g : pa_G) (D : va_G) (q : Nat → Nat → Nat) (u0 : pa_S) (x1 : Int32) (x2 : Int32) (post : Int64 → pa_S → Prop)  (hw : wp_X6_mean u0 x1 x2 post) : pa_Ct l yX6_mean cX6_mean 4 (some .long) 9 g D q u0 [.ref (q 0 0), .int x1, .int x2] (fun r => some (.long r)) post := pa_met rfl rfl (Nat.le_of_ble_eq_true rfl) rfl (fun p e s m args below meth c A hE hr => tb_X6_mean_0 hE hr  hw)
def wb_X6_fair_50 (u0 : pa_S) (x1 : Int32) (x2 : Int32) (post : Int32 → pa_S → Prop) : Prop :=
  (if (pa_I u0 8 1 1) < 10 then (wp_X2_add u0 1 x1 x2 0 0 (fun (r4 : Int32) (u5 : pa_S) => post r4 u5)) else post (-4 : Int32) u0)
set_option maxRecDepth 100000 in
set_option maxHeartbeats 4000000 in
theorem tb_X6_fair_50 {p : Program} {l : Launch} {e : Env} {s : State} {m : MethodId} {args : Array Value} {below : List Frame} {meth : Method} {c : Code} {A : Nat → Prop} {D : va_G} {g : pa_G} {q : Nat → Nat → Nat} {u0 : pa_S} {x1 : Int32} {x2 : Int32} {post : Int32 → pa_S → Prop} (hE : pa_Fx p s m args meth c A D g 3 cX6_fair RX6) (hr : meth.sig.returnType = (some .int)) (hw : wb_X6_fair_50 u0 x1 x2 post) : pa_At p l e (pa_rm 3) s m args below meth c (MQ below (pa_Qc g D q (fun r => some (.int r)) post A) args s 0 0 A) A D g 3 0 0 q u0 50 [(0, .ref (q 0 0)), (1, .int x1), (2, .int x2)] [] := by
  refine pa_aload_n hE dX6_fair_50 rfl 0 rfl ?_
  refine pg_0_5 hE (pa_m1 201 rfl rfl) dX6_fair_51 ?_
  refine pg_8_1 (pa_in8 (by decide)) hE (pa_m1 33 rfl rfl) dX6_fair_54 ?_
  refine pa_bipush hE dX6_fair_57 (v := 10) (by decide) ?_
  refine pa_icmp_lt hE dX6_fair_59 (tgt := 65) (by decide) (fun h3 => ?_) (fun h3 => ?_)
  · have hw := Eq.mp (if_pos h3) hw
    refine pa_aload_n hE dX6_fair_65 rfl 0 rfl ?_
    refine pg_0_5 hE (pa_m1 201 rfl rfl) dX6_fair_66 ?_
    refine pa_iload_n hE dX6_fair_69 rfl 1 rfl ?_
    refine pa_iload_n hE dX6_fair_70 rfl 2 rfl ?_
    refine pa_iconst hE dX6_fair_71 (v := 0) (by decide) ?_
    refine pa_iconst hE dX6_fair_72 (v := 0) (by decide) ?_
    refine pa_callVi hE (ct_X2_add l g D q u0 1 x1 x2 0 0 _ (by decide) hw) cv_RX6_211 (pa_in8 (by decide)) rfl rfl rfl (pa_hR (by omega) (by decide)) rfl (Nat.le_of_ble_eq_true rfl) dX6_fair_73 (fun r4 u5 hw => ?_)
    exact pa_iret hE hr hw rfl dX6_fair_76
  · have hw := Eq.mp (if_neg h3) hw
    refine pa_bipush hE dX6_fair_62 (v := (-4 : Int32)) (by decide) ?_
    exact pa_iret hE hr hw rfl dX6_fair_64
def wb_X6_fair_0 (u0 : pa_S) (x1 : Int32) (x2 : Int32) (post : Int32 → pa_S → Prop) : Prop :=
  (if x1 = (-1 : Int32) then (wp_X2_clear u0 1 (fun (r11 : Int32) (u12 : pa_S) => post r11 u12)) else (if x1 = 5 then wb_X6_fair_50 u0 x1 x2 post else (wp_X3_has u0 0 x1 (fun (r6 : Int32) => (if r6 = 0 then post (-1 : Int32) u0 else (wp_X3_has u0 0 x2 (fun (r8 : Int32) => (if r8 = 0 then post (-1 : Int32) u0 else (if x1 = x2 then post (-2 : Int32) u0 else wb_X6_fair_50 u0 x1 x2 post)))))))))
set_option maxRecDepth 100000 in
set_option maxHeartbeats 4000000 in
theorem tb_X6_fair_0 {p : Program} {l : Launch} {e : Env} {s : State} {m : MethodId} {args : Array Value} {below : List Frame} {meth : Method} {c : Code} {A : Nat → Prop} {D : va_G} {g : pa_G} {q : Nat → Nat → Nat} {u0 : pa_S} {x1 : Int32} {x2 : Int32} {post : Int32 → pa_S → Prop} (hE : pa_Fx p s m args meth c A D g 3 cX6_fair RX6) (hr : meth.sig.returnType = (some .int)) (hw : wb_X6_fair_0 u0 x1 x2 post) : pa_At p l e (pa_rm 3) s m args below meth c (MQ below (pa_Qc g D q (fun r => some (.int r)) post A) args s 0 0 A) A D g 3 0 0 q u0 0 [(0, .ref (q 0 0)), (1, .int x1), (2, .int x2)] [] := by
  refine pa_iload_n hE dX6_fair_0 rfl 1 rfl ?_
  refine pa_iconst hE dX6_fair_1 (v := (-1 : Int32)) (by decide) ?_
  refine pa_icmp_ne hE dX6_fair_2 (tgt := 13) (by decide) (fun h1 => ?_) (fun h1 => ?_)
  · have hw := Eq.mp (if_neg h1) hw
    refine pa_iload_n hE dX6_fair_13 rfl 1 rfl ?_
    refine pa_iconst hE dX6_fair_14 (v := 5) (by decide) ?_
    refine pa_icmp_eq hE dX6_fair_15 (tgt := 50) (by decide) (fun h2 => ?_) (fun h2 => ?_)
    · have hw := Eq.mp (if_pos h2) hw
      exact pa_sub [0, 1, 2] rfl (tb_X6_fair_50 hE hr hw)
    · have hw := Eq.mp (if_neg h2) hw
      refine pa_aload_n hE dX6_fair_18 rfl 0 rfl ?_
      refine pg_0_0 hE (pa_m1 196 rfl rfl) dX6_fair_19 ?_
      refine pa_iload_n hE dX6_fair_22 rfl 1 rfl ?_
      refine pa_callVri hE (ct_X3_has l g D q u0 0 x1 _ (by decide) hw) cv_RX6_91 (pa_in1 (by decide)) rfl rfl rfl (pa_hR (by omega) (by decide)) rfl (Nat.le_of_ble_eq_true rfl) dX6_fair_23 (fun r6 hw => ?_)
      refine pa_if_eq hE dX6_fair_26 (tgt := 40) (by decide) (fun h7 => ?_) (fun h7 => ?_)
      · have hw := Eq.mp (if_pos h7) hw
        refine pa_iconst hE dX6_fair_40 (v := (-1 : Int32)) (by decide) ?_
        exact pa_iret hE hr hw rfl dX6_fair_41
      · have hw := Eq.mp (if_neg h7) hw
        refine pa_aload_n hE dX6_fair_29 rfl 0 rfl ?_
        refine pg_0_0 hE (pa_m1 196 rfl rfl) dX6_fair_30 ?_
        refine pa_iload_n hE dX6_fair_33 rfl 2 rfl ?_
        refine pa_callVri hE (ct_X3_has l g D q u0 0 x2 _ (by decide) hw) cv_RX6_91 (pa_in1 (by decide)) rfl rfl rfl (pa_hR (by omega) (by decide)) rfl (Nat.le_of_ble_eq_true rfl) dX6_fair_34 (fun r8 hw => ?_)
        refine pa_if_ne hE dX6_fair_37 (tgt := 42) (by decide) (fun h9 => ?_) (fun h9 => ?_)
        · have hw := Eq.mp (if_neg h9) hw
          refine pa_iload_n hE dX6_fair_42 rfl 1 rfl ?_
          refine pa_iload_n hE dX6_fair_43 rfl 2 rfl ?_
          refine pa_icmp_ne hE dX6_fair_44 (tgt := 50) (by decide) (fun h10 => ?_) (fun h10 => ?_)
          · have hw := Eq.mp (if_neg h10) hw
            exact pa_sub [0, 1, 2] rfl (tb_X6_fair_50 hE hr hw)
          · have hw := Eq.mp (if_pos h10) hw
            refine pa_bipush hE dX6_fair_47 (v := (-2 : Int32)) (by decide) ?_
            exact pa_iret hE hr hw rfl dX6_fair_49
        · have hw := Eq.mp (if_pos h9) hw
          refine pa_iconst hE dX6_fair_40 (v := (-1 : Int32)) (by decide) ?_
          exact pa_iret hE hr hw rfl dX6_fair_41
  · have hw := Eq.mp (if_pos h1) hw
    refine pa_aload_n hE dX6_fair_5 rfl 0 rfl ?_
    refine pg_0_5 hE (pa_m1 201 rfl rfl) dX6_fair_6 ?_
    refine pa_callVi hE (ct_X2_clear l g D q u0 1 _ (by decide) hw) cv_RX6_206 (pa_in8 (by decide)) rfl rfl rfl (pa_hR (by omega) (by decide)) rfl (Nat.le_of_ble_eq_true rfl) dX6_fair_9 (fun r11 u12 hw => ?_)
    exact pa_iret hE hr hw rfl dX6_fair_12
def wp_X6_fair (u0 : pa_S) (x1 : Int32) (x2 : Int32) (post : Int32 → pa_S → Prop) : Prop := wb_X6_fair_0 u0 x1 x2 post
theorem ct_X6_fair (l : Launch) (g : pa_G) (D : va_G) (q : Nat → Nat → Nat) (u0 : pa_S) (x1 : Int32) (x2 : Int32) (post : Int32 → pa_S → Prop)  (hw : wp_X6_fair u0 x1 x2 post) : pa_Ct l yX6_fair cX6_fair 3 (some .int) 3 g D q u0 [.ref (q 0 0), .int x1, .int x2] (fun r => some (.int r)) post := pa_met rfl rfl (Nat.le_of_ble_eq_true rfl) rfl (fun p e s m args below meth c A hE hr => tb_X6_fair_0 hE hr  hw)
def wb_X6_ends_83 (k28 : pa_S → Int32 → Int32 → Prop) (u0 : pa_S) (x1 : Int32) (x3 : Int32) (post : Int32 → pa_S → Prop) : Prop :=
  ∀ v16 : Int32, v16 = x3 + 1 → k28 u0 x1 v16
set_option maxRecDepth 100000 in
set_option maxHeartbeats 4000000 in
theorem tb_X6_ends_83 {p : Program} {l : Launch} {e : Env} {s : State} {m : MethodId} {args : Array Value} {below : List Frame} {meth : Method} {c : Code} {A : Nat → Prop} {D : va_G} {g : pa_G} {q : Nat → Nat → Nat} {k28 : pa_S → Int32 → Int32 → Prop} {u0 : pa_S} {x1 : Int32} {x3 : Int32} {post : Int32 → pa_S → Prop} (hE : pa_Fx p s m args meth c A D g 4 cX6_ends RX6) (hr : meth.sig.returnType = (some .int)) (hk28 : ∀ (u : pa_S)  (x1 : Int32) (x3 : Int32), k28 u x1 x3 → pa_At p l e (pa_rm 9) s m args below meth c (MQ below (pa_Qc g D q (fun r => some (.int r)) post A) args s 0 0 A) A D g 4 0 0 q u 28 [(0, .ref (q 0 0)), (1, .int x1), (2, .ref (q 1 2)), (3, .int x3)] []) (hw : wb_X6_ends_83 k28 u0 x1 x3 post) : pa_At p l e (pa_rm 9) s m args below meth c (MQ below (pa_Qc g D q (fun r => some (.int r)) post A) args s 0 0 A) A D g 4 0 0 q u0 83 [(0, .ref (q 0 0)), (1, .int x1), (2, .ref (q 1 2)), (3, .int x3)] [] := by
  refine pa_iinc hE dX6_ends_83 (v := 1) 3 rfl (by decide) (by decide) (lvr := [(0, .ref (q 0 0)), (1, .int x1), (2, .ref (q 1 2))]) rfl (fun v16 ev16 => ?_)
  have hw := hw v16 ev16
  refine pa_goto hE dX6_ends_86 (tgt := 28) (by decide) ?_
  exact pa_sub [1, 2, 3, 0] rfl (hk28 u0 x1 v16 hw)
def wb_X6_ends_28 (k28 : pa_S → Int32 → Int32 → Prop) (u0 : pa_S) (x1 : Int32) (x3 : Int32) (post : Int32 → pa_S → Prop) : Prop :=
  (if (pa_I u0 8 1 1) ≤ x3 then (if x1 = 0 then (wp_X3_fortuneOfAll u0 2 (fun (r8 : Int32) (u9 : pa_S) => post r8 u9)) else (wp_X3_lengthOfAll u0 2 (fun (r7 : Int32) => post r7 u0))) else (wp_X2_at u0 1 x3 0 (fun (r10 : Int32) => (if r10 = 5 then (wp_X3_goDays u0 2 1 (fun (u18 : pa_S) => wb_X6_ends_83 k28 u18 x1 x3 post)) else (wp_X2_at u0 1 x3 0 (fun (r12 : Int32) => (wp_X2_at u0 1 x3 1 (fun (r13 : Int32) => (wp_X3_shakeHands u0 2 r12 r13 (fun (r14 : Int32) (u15 : pa_S) => wb_X6_ends_83 k28 u15 x1 x3 post))))))))))
set_option maxRecDepth 100000 in
set_option maxHeartbeats 4000000 in
theorem tb_X6_ends_28 {p : Program} {l : Launch} {e : Env} {s : State} {m : MethodId} {args : Array Value} {below : List Frame} {meth : Method} {c : Code} {A : Nat → Prop} {D : va_G} {g : pa_G} {q : Nat → Nat → Nat} {k28 : pa_S → Int32 → Int32 → Prop} {u0 : pa_S} {x1 : Int32} {x3 : Int32} {post : Int32 → pa_S → Prop} (hE : pa_Fx p s m args meth c A D g 4 cX6_ends RX6) (hr : meth.sig.returnType = (some .int)) (hk28 : ∀ (u : pa_S)  (x1 : Int32) (x3 : Int32), k28 u x1 x3 → pa_At p l e (pa_rm 9) s m args below meth c (MQ below (pa_Qc g D q (fun r => some (.int r)) post A) args s 0 0 A) A D g 4 0 0 q u 28 [(0, .ref (q 0 0)), (1, .int x1), (2, .ref (q 1 2)), (3, .int x3)] []) (hw : wb_X6_ends_28 k28 u0 x1 x3 post) : pa_At p l e (pa_rm 9) s m args below meth c (MQ below (pa_Qc g D q (fun r => some (.int r)) post A) args s 0 0 A) A D g 4 0 0 q u0 28 [(0, .ref (q 0 0)), (1, .int x1), (2, .ref (q 1 2)), (3, .int x3)] [] := by
  refine pa_iload_n hE dX6_ends_28 rfl 3 rfl ?_
  refine pa_aload_n hE dX6_ends_29 rfl 0 rfl ?_
  refine pg_0_5 hE (pa_m1 201 rfl rfl) dX6_ends_30 ?_
  refine pg_8_1 (pa_in8 (by decide)) hE (pa_m1 33 rfl rfl) dX6_ends_33 ?_
  refine pa_icmp_ge hE dX6_ends_36 (tgt := 89) (by decide) (fun h5 => ?_) (fun h5 => ?_)
  · have hw := Eq.mp (if_pos h5) hw
    refine pa_iload_n hE dX6_ends_89 rfl 1 rfl ?_
    refine pa_if_ne hE dX6_ends_90 (tgt := 100) (by decide) (fun h6 => ?_) (fun h6 => ?_)
    · have hw := Eq.mp (if_neg h6) hw
      refine pa_aload_n hE dX6_ends_100 rfl 2 rfl ?_
      refine pa_callVri hE (ct_X3_lengthOfAll l g D q u0 2 _ (by decide) hw) cv_RX6_187 (pa_in1 (by decide)) rfl rfl rfl (pa_hR (by omega) (by decide)) rfl (Nat.le_of_ble_eq_true rfl) dX6_ends_101 (fun r7 hw => ?_)
      exact pa_iret hE hr hw rfl dX6_ends_104
    · have hw := Eq.mp (if_pos h6) hw
      refine pa_aload_n hE dX6_ends_93 rfl 2 rfl ?_
      refine pa_callVi hE (ct_X3_fortuneOfAll l g D q u0 2 _ (by decide) hw) cv_RX6_184 (pa_in1 (by decide)) rfl rfl rfl (pa_hR (by omega) (by decide)) rfl (Nat.le_of_ble_eq_true rfl) dX6_ends_94 (fun r8 u9 hw => ?_)
      refine pa_goto hE dX6_ends_97 (tgt := 104) (by decide) ?_
      exact pa_iret hE hr hw rfl dX6_ends_104
  · have hw := Eq.mp (if_neg h5) hw
    refine pa_aload_n hE dX6_ends_39 rfl 0 rfl ?_
    refine pg_0_5 hE (pa_m1 201 rfl rfl) dX6_ends_40 ?_
    refine pa_iload_n hE dX6_ends_43 rfl 3 rfl ?_
    refine pa_iconst hE dX6_ends_44 (v := 0) (by decide) ?_
    refine pa_callVri hE (ct_X2_at l g D q u0 1 x3 0 _ (by decide) hw) cv_RX6_218 (pa_in8 (by decide)) rfl rfl rfl (pa_hR (by omega) (by decide)) rfl (Nat.le_of_ble_eq_true rfl) dX6_ends_45 (fun r10 hw => ?_)
    refine pa_iconst hE dX6_ends_48 (v := 5) (by decide) ?_
    refine pa_icmp_ne hE dX6_ends_49 (tgt := 60) (by decide) (fun h11 => ?_) (fun h11 => ?_)
    · have hw := Eq.mp (if_neg h11) hw
      refine pa_aload_n hE dX6_ends_60 rfl 2 rfl ?_
      refine pa_aload_n hE dX6_ends_61 rfl 0 rfl ?_
      refine pg_0_5 hE (pa_m1 201 rfl rfl) dX6_ends_62 ?_
      refine pa_iload_n hE dX6_ends_65 rfl 3 rfl ?_
      refine pa_iconst hE dX6_ends_66 (v := 0) (by decide) ?_
      refine pa_callVri hE (ct_X2_at l g D q u0 1 x3 0 _ (by decide) hw) cv_RX6_218 (pa_in8 (by decide)) rfl rfl rfl (pa_hR (by omega) (by decide)) rfl (Nat.le_of_ble_eq_true rfl) dX6_ends_67 (fun r12 hw => ?_)
      refine pa_aload_n hE dX6_ends_70 rfl 0 rfl ?_
      refine pg_0_5 hE (pa_m1 201 rfl rfl) dX6_ends_71 ?_
      refine pa_iload_n hE dX6_ends_74 rfl 3 rfl ?_
      refine pa_iconst hE dX6_ends_75 (v := 1) (by decide) ?_
      refine pa_callVri hE (ct_X2_at l g D q u0 1 x3 1 _ (by decide) hw) cv_RX6_218 (pa_in8 (by decide)) rfl rfl rfl (pa_hR (by omega) (by decide)) rfl (Nat.le_of_ble_eq_true rfl) dX6_ends_76 (fun r13 hw => ?_)
      refine pa_callVi hE (ct_X3_shakeHands l g D q u0 2 r12 r13 _ (by decide) hw) cv_RX6_147 (pa_in1 (by decide)) rfl rfl rfl (pa_hR (by omega) (by decide)) rfl (Nat.le_of_ble_eq_true rfl) dX6_ends_79 (fun r14 u15 hw => ?_)
      refine pa_pop hE dX6_ends_82 rfl ?_
      exact pa_sub [0, 1, 2, 3] rfl (tb_X6_ends_83 hE hr hk28 hw)
    · have hw := Eq.mp (if_pos h11) hw
      refine pa_aload_n hE dX6_ends_52 rfl 2 rfl ?_
      refine pa_iconst hE dX6_ends_53 (v := 1) (by decide) ?_
      refine pa_callVv hE (ct_X3_goDays l g D q u0 2 1 _ (by decide) hw) cv_RX6_190 (pa_in1 (by decide)) rfl rfl rfl (pa_hR (by omega) (by decide)) rfl (Nat.le_of_ble_eq_true rfl) dX6_ends_54 (fun u18 hw => ?_)
      refine pa_goto hE dX6_ends_57 (tgt := 83) (by decide) ?_
      exact pa_sub [0, 1, 2, 3] rfl (tb_X6_ends_83 hE hr hk28 hw)
def wl_X6_ends_28 (post : Int32 → pa_S → Prop) : Nat → pa_S → Int32 → Int32 → Prop
  | 0, _, _, _ => False
  | n + 1, u0, x1, x3 => wb_X6_ends_28 (fun u0 x1 x3 => wl_X6_ends_28 post n u0 x1 x3) u0 x1 x3 post
set_option maxRecDepth 100000 in
set_option maxHeartbeats 4000000 in
theorem tl_X6_ends_28 {p : Program} {l : Launch} {e : Env} {s : State} {m : MethodId} {args : Array Value} {below : List Frame} {meth : Method} {c : Code} {A : Nat → Prop} {D : va_G} {g : pa_G} {q : Nat → Nat → Nat} {post : Int32 → pa_S → Prop} (hE : pa_Fx p s m args meth c A D g 4 cX6_ends RX6) (hr : meth.sig.returnType = (some .int)) : ∀ (n : Nat) (u0 : pa_S) (x1 : Int32) (x3 : Int32), wl_X6_ends_28 post n u0 x1 x3 → pa_At p l e (pa_rm 9) s m args below meth c (MQ below (pa_Qc g D q (fun r => some (.int r)) post A) args s 0 0 A) A D g 4 0 0 q u0 28 [(0, .ref (q 0 0)), (1, .int x1), (2, .ref (q 1 2)), (3, .int x3)] []
  | 0, _, _, _, hw => absurd hw (by simp only [wl_X6_ends_28]; exact fun z => z)
  | n + 1, u0, x1, x3, hw => tb_X6_ends_28 hE hr (fun u0 x1 x3  hw1 => tl_X6_ends_28 hE hr  n u0 x1 x3  hw1) hw
def wb_X6_ends_0 (u0 : pa_S) (x1 : Int32) (post : Int32 → pa_S → Prop) : Prop :=
  (wp_X6_within u0 x1 0 1 (fun (r1 : Int32) => (if r1 = 0 then post (-1 : Int32) u0 else (wp_X3_become u0 2 0 (fun (u4 : pa_S) => wl_X6_ends_28 post 5000 u4 x1 0)))))
set_option maxRecDepth 100000 in
set_option maxHeartbeats 4000000 in
theorem tb_X6_ends_0 {p : Program} {l : Launch} {e : Env} {s : State} {m : MethodId} {args : Array Value} {below : List Frame} {meth : Method} {c : Code} {A : Nat → Prop} {D : va_G} {g : pa_G} {q : Nat → Nat → Nat} {u0 : pa_S} {x1 : Int32} {post : Int32 → pa_S → Prop} (hE : pa_Fx p s m args meth c A D g 4 cX6_ends RX6) (hr : meth.sig.returnType = (some .int)) (hw : wb_X6_ends_0 u0 x1 post) : pa_At p l e (pa_rm 9) s m args below meth c (MQ below (pa_Qc g D q (fun r => some (.int r)) post A) args s 0 0 A) A D g 4 0 0 q u0 0 [(0, .ref (q 0 0)), (1, .int x1)] [] := by
  refine pa_iload_n hE dX6_ends_0 rfl 1 rfl ?_
  refine pa_iconst hE dX6_ends_1 (v := 0) (by decide) ?_
  refine pa_iconst hE dX6_ends_2 (v := 1) (by decide) ?_
  refine pa_callSri hE (ct_X6_within l g D q u0 x1 0 1 _ hw) cs_RX6_79 rfl (pa_hR (by omega) (by decide)) rfl (Nat.le_of_ble_eq_true rfl) dX6_ends_3 (fun r1 hw => ?_)
  refine pa_if_ne hE dX6_ends_6 (tgt := 11) (by decide) (fun h2 => ?_) (fun h2 => ?_)
  · have hw := Eq.mp (if_neg h2) hw
    refine pa_aload_n hE dX6_ends_11 rfl 0 rfl ?_
    refine pg_0_2 hE (pa_m1 198 rfl rfl) dX6_ends_12 ?_
    refine pa_iconst hE dX6_ends_15 (v := 0) (by decide) ?_
    refine pa_aaldS hE (by unfold vp_in; decide) (n := 2) (by decide) dX6_ends_16 ?_
    refine pa_astore_n hE dX6_ends_17 rfl (by decide) (lvr := [(0, .ref (q 0 0)), (1, .int x1)]) rfl ?_
    refine pa_aload_n hE dX6_ends_18 rfl 0 rfl ?_
    refine pa_aload_n hE dX6_ends_19 rfl 1 rfl ?_
    refine pg_0_0 hE (pa_m1 196 rfl rfl) dX6_ends_20 ?_
    refine pa_callVv hE (ct_X3_become l g D q u0 2 0 _ (by decide) (by decide) hw) cv_RX6_194 (pa_in1 (by decide)) rfl rfl rfl (pa_hR (by omega) (by decide)) rfl (Nat.le_of_ble_eq_true rfl) dX6_ends_23 (fun u4 hw => ?_)
    refine pa_iconst hE dX6_ends_26 (v := 0) (by decide) ?_
    refine pa_istore_n hE dX6_ends_27 rfl (by decide) (lvr := [(2, .ref (q 1 2)), (0, .ref (q 0 0)), (1, .int x1)]) rfl ?_
    exact pa_sub [2, 3, 1, 0] rfl (tl_X6_ends_28 hE hr 5000 u4 x1 0 hw)
  · have hw := Eq.mp (if_pos h2) hw
    refine pa_iconst hE dX6_ends_9 (v := (-1 : Int32)) (by decide) ?_
    exact pa_iret hE hr hw rfl dX6_ends_10
def wp_X6_ends (u0 : pa_S) (x1 : Int32) (post : Int32 → pa_S → Prop) : Prop := wb_X6_ends_0 u0 x1 post
theorem ct_X6_ends (l : Launch) (g : pa_G) (D : va_G) (q : Nat → Nat → Nat) (u0 : pa_S) (x1 : Int32) (post : Int32 → pa_S → Prop)  (hw : wp_X6_ends u0 x1 post) : pa_Ct l yX6_ends cX6_ends 4 (some .int) 9 g D q u0 [.ref (q 0 0), .int x1] (fun r => some (.int r)) post := pa_met rfl rfl (Nat.le_of_ble_eq_true rfl) rfl (fun p e s m args below meth c A hE hr => tb_X6_ends_0 hE hr  hw)
def wb_X6_isTape_0 (u0 : pa_S) (x0 : Int32) (post : Int32 → Prop) : Prop :=
  (wp_X6_within u0 x0 0 5 (fun (r1 : Int32) => (r1 &&& 1 = r1) ∧ post r1))
set_option maxRecDepth 100000 in
set_option maxHeartbeats 4000000 in
theorem tb_X6_isTape_0 {p : Program} {l : Launch} {e : Env} {s : State} {m : MethodId} {args : Array Value} {below : List Frame} {meth : Method} {c : Code} {A : Nat → Prop} {D : va_G} {g : pa_G} {q : Nat → Nat → Nat} {u0 : pa_S} {x0 : Int32} {post : Int32 → Prop} (hE : pa_Fx p s m args meth c A D g 1 cX6_isTape RX6) (hr : meth.sig.returnType = (some .boolean)) (hw : wb_X6_isTape_0 u0 x0 post) : pa_At p l e (pa_rm 3) s m args below meth c (MQ below (pa_Qc g D q (fun r => some (.int r)) (fun r u => u = u0 ∧ post r) A) args s 0 0 A) A D g 1 0 0 q u0 0 [(0, .int x0)] [] := by
  refine pa_iload_n hE dX6_isTape_0 rfl 0 rfl ?_
  refine pa_iconst hE dX6_isTape_1 (v := 0) (by decide) ?_
  refine pa_iconst hE dX6_isTape_2 (v := 5) (by decide) ?_
  refine pa_callSri hE (ct_X6_within l g D q u0 x0 0 5 _ hw) cs_RX6_79 rfl (pa_hR (by omega) (by decide)) rfl (Nat.le_of_ble_eq_true rfl) dX6_isTape_3 (fun r1 hw => ?_)
  obtain ⟨h2, hw⟩ := hw
  exact pa_zret hE hr (congrArg Value.int h2) ⟨rfl, hw⟩ rfl dX6_isTape_6
def wp_X6_isTape (u0 : pa_S) (x0 : Int32) (post : Int32 → Prop) : Prop := wb_X6_isTape_0 u0 x0 post
theorem ct_X6_isTape (l : Launch) (g : pa_G) (D : va_G) (q : Nat → Nat → Nat) (u0 : pa_S) (x0 : Int32) (post : Int32 → Prop)  (hw : wp_X6_isTape u0 x0 post) : pa_Ct l yX6_isTape cX6_isTape 1 (some .boolean) 3 g D q u0 [.int x0] (fun r => some (.int r)) (fun r u => u = u0 ∧ post r) := pa_met rfl rfl (Nat.le_of_ble_eq_true rfl) rfl (fun p e s m args below meth c A hE hr => tb_X6_isTape_0 hE hr  hw)
def wb_X6_judge_36 (k36 : Nat → Int32 → Int32 → Prop) (u0 : pa_S) (j3 : Nat) (x2 : Int32) (x4 : Int32) (post : Int32 → Prop) : Prop :=
  (if ((pa_I u0 1 0 6) * 3) ≤ x4 then post (-5 : Int32) else (if x2 < 0 then post (100 + x4) else (wp_X4_hasPlace u0 j3 (x2 + x4) (fun (r8 : Int32) => (if r8 = 0 then post (100 + x4) else (wp_X4_at u0 j3 (x2 + x4) (fun (r10 : Int64) => (wp_X3_lengthOf u0 0 (x4 / 3) (pa_rem x4 3) (fun (r11 : Int32) => (if (lg_cmp r10 (r11.toInt64)) = 0 then ∀ v13 : Int32, v13 = x4 + 1 → k36 j3 x2 v13 else post x4))))))))))
set_option maxRecDepth 100000 in
set_option maxHeartbeats 4000000 in
theorem tb_X6_judge_36 {p : Program} {l : Launch} {e : Env} {s : State} {m : MethodId} {args : Array Value} {below : List Frame} {meth : Method} {c : Code} {A : Nat → Prop} {D : va_G} {g : pa_G} {q : Nat → Nat → Nat} {k36 : Nat → Int32 → Int32 → Prop} {u0 : pa_S} {j3 : Nat} {x2 : Int32} {x4 : Int32} {post : Int32 → Prop} (hE : pa_Fx p s m args meth c A D g 5 cX6_judge RX6) (hr : meth.sig.returnType = (some .int)) (hj3 : j3 < 6) (hk36 : ∀ (j3 : Nat) (x2 : Int32) (x4 : Int32), j3 < 6 → k36 j3 x2 x4 → pa_At p l e (pa_rm 5) s m args below meth c (MQ below (pa_Qc g D q (fun r => some (.int r)) (fun r u => u = u0 ∧ post r) A) args s 0 0 A) A D g 5 0 0 q u0 36 [(0, .ref (q 0 0)), (2, .int x2), (3, .ref (q 19 j3)), (4, .int x4)] []) (hw : wb_X6_judge_36 k36 u0 j3 x2 x4 post) : pa_At p l e (pa_rm 5) s m args below meth c (MQ below (pa_Qc g D q (fun r => some (.int r)) (fun r u => u = u0 ∧ post r) A) args s 0 0 A) A D g 5 0 0 q u0 36 [(0, .ref (q 0 0)), (2, .int x2), (3, .ref (q 19 j3)), (4, .int x4)] [] := by
  refine pa_iload hE dX6_judge_36 3 rfl ?_
  refine pa_aload_n hE dX6_judge_38 rfl 0 rfl ?_
  refine pg_0_0 hE (pa_m1 196 rfl rfl) dX6_judge_39 ?_
  refine pg_1_6 (pa_in1 (by decide)) hE (pa_m1 148 rfl rfl) dX6_judge_42 ?_
  refine pa_iconst hE dX6_judge_45 (v := 3) (by decide) ?_
  refine pa_imul hE dX6_judge_46 ?_
  refine pa_icmp_ge hE dX6_judge_47 (tgt := 108) (by decide) (fun h6 => ?_) (fun h6 => ?_)
  · have hw := Eq.mp (if_pos h6) hw
    refine pa_bipush hE dX6_judge_108 (v := (-5 : Int32)) (by decide) ?_
    exact pa_iret hE hr ⟨rfl, hw⟩ rfl dX6_judge_110
  · have hw := Eq.mp (if_neg h6) hw
    refine pa_iload_n hE dX6_judge_50 rfl 1 rfl ?_
    refine pa_if_lt hE dX6_judge_51 (tgt := 65) (by decide) (fun h7 => ?_) (fun h7 => ?_)
    · have hw := Eq.mp (if_pos h7) hw
      refine pa_bipush hE dX6_judge_65 (v := 100) (by decide) ?_
      refine pa_iload hE dX6_judge_67 3 rfl ?_
      refine pa_iadd hE dX6_judge_69 ?_
      exact pa_iret hE hr ⟨rfl, hw⟩ rfl dX6_judge_70
    · have hw := Eq.mp (if_neg h7) hw
      refine pa_aload_n hE dX6_judge_54 rfl 2 rfl ?_
      refine pa_iload_n hE dX6_judge_55 rfl 1 rfl ?_
      refine pa_iload hE dX6_judge_56 3 rfl ?_
      refine pa_iadd hE dX6_judge_58 ?_
      refine pa_callVri hE (ct_X4_hasPlace l g D q u0 j3 (x2 + x4) _ hj3 hw) cv_RX6_249 (pa_in19 hj3) rfl rfl rfl (pa_hR (by omega) (by decide)) rfl (Nat.le_of_ble_eq_true rfl) dX6_judge_59 (fun r8 hw => ?_)
      refine pa_if_ne hE dX6_judge_62 (tgt := 71) (by decide) (fun h9 => ?_) (fun h9 => ?_)
      · have hw := Eq.mp (if_neg h9) hw
        refine pa_aload_n hE dX6_judge_71 rfl 2 rfl ?_
        refine pa_iload_n hE dX6_judge_72 rfl 1 rfl ?_
        refine pa_iload hE dX6_judge_73 3 rfl ?_
        refine pa_iadd hE dX6_judge_75 ?_
        refine pa_callVrl hE (ct_X4_at l g D q u0 j3 (x2 + x4) _ hj3 hw) cv_RX6_252 (pa_in19 hj3) rfl rfl rfl (pa_hR (by omega) (by decide)) rfl (Nat.le_of_ble_eq_true rfl) dX6_judge_76 (fun r10 hw => ?_)
        refine pa_aload_n hE dX6_judge_79 rfl 0 rfl ?_
        refine pg_0_0 hE (pa_m1 196 rfl rfl) dX6_judge_80 ?_
        refine pa_iload hE dX6_judge_83 3 rfl ?_
        refine pa_iconst hE dX6_judge_85 (v := 3) (by decide) ?_
        refine pa_idiv hE dX6_judge_86 (by decide) ?_
        refine pa_iload hE dX6_judge_87 3 rfl ?_
        refine pa_iconst hE dX6_judge_89 (v := 3) (by decide) ?_
        refine pa_irem hE dX6_judge_90 (by decide) ?_
        refine pa_callVri hE (ct_X3_lengthOf l g D q u0 0 (x4 / 3) (pa_rem x4 3) _ (by decide) hw) cv_RX6_122 (pa_in1 (by decide)) rfl rfl rfl (pa_hR (by omega) (by decide)) rfl (Nat.le_of_ble_eq_true rfl) dX6_judge_91 (fun r11 hw => ?_)
        refine pa_i2l hE dX6_judge_94 ?_
        refine pa_lcmp hE dX6_judge_95 ?_
        refine pa_if_eq hE dX6_judge_96 (tgt := 102) (by decide) (fun h12 => ?_) (fun h12 => ?_)
        · have hw := Eq.mp (if_pos h12) hw
          refine pa_iinc hE dX6_judge_102 (v := 1) 3 rfl (by decide) (by decide) (lvr := [(0, .ref (q 0 0)), (2, .int x2), (3, .ref (q 19 j3))]) rfl (fun v13 ev13 => ?_)
          have hw := hw v13 ev13
          refine pa_goto hE dX6_judge_105 (tgt := 36) (by decide) ?_
          exact pa_sub [1, 2, 3, 0] rfl (hk36 j3 x2 v13 hj3 hw)
        · have hw := Eq.mp (if_neg h12) hw
          refine pa_iload hE dX6_judge_99 3 rfl ?_
          exact pa_iret hE hr ⟨rfl, hw⟩ rfl dX6_judge_101
      · have hw := Eq.mp (if_pos h9) hw
        refine pa_bipush hE dX6_judge_65 (v := 100) (by decide) ?_
        refine pa_iload hE dX6_judge_67 3 rfl ?_
        refine pa_iadd hE dX6_judge_69 ?_
        exact pa_iret hE hr ⟨rfl, hw⟩ rfl dX6_judge_70
def wl_X6_judge_36 (post : Int32 → Prop) (u0 : pa_S) : Nat → Nat → Int32 → Int32 → Prop
  | 0, _, _, _ => False
  | n + 1, j3, x2, x4 => wb_X6_judge_36 (fun j3 x2 x4 => wl_X6_judge_36 post u0 n j3 x2 x4) u0 j3 x2 x4 post
set_option maxRecDepth 100000 in
set_option maxHeartbeats 4000000 in
theorem tl_X6_judge_36 {p : Program} {l : Launch} {e : Env} {s : State} {m : MethodId} {args : Array Value} {below : List Frame} {meth : Method} {c : Code} {A : Nat → Prop} {D : va_G} {g : pa_G} {q : Nat → Nat → Nat} {u0 : pa_S} {post : Int32 → Prop} (hE : pa_Fx p s m args meth c A D g 5 cX6_judge RX6) (hr : meth.sig.returnType = (some .int)) : ∀ (n : Nat) (j3 : Nat) (x2 : Int32) (x4 : Int32), j3 < 6 → wl_X6_judge_36 post u0 n j3 x2 x4 → pa_At p l e (pa_rm 5) s m args below meth c (MQ below (pa_Qc g D q (fun r => some (.int r)) (fun r u => u = u0 ∧ post r) A) args s 0 0 A) A D g 5 0 0 q u0 36 [(0, .ref (q 0 0)), (2, .int x2), (3, .ref (q 19 j3)), (4, .int x4)] []
  | 0, _, _, _, _, hw => absurd hw (by simp only [wl_X6_judge_36]; exact fun z => z)
  | n + 1, j3, x2, x4, hj3, hw => tb_X6_judge_36 hE hr hj3 (fun j3 x2 x4 hj3 hw1 => tl_X6_judge_36 hE hr  n j3 x2 x4 hj3 hw1) hw
def wb_X6_judge_33 (u0 : pa_S) (j3 : Nat) (x2 : Int32) (post : Int32 → Prop) : Prop :=
  wl_X6_judge_36 post u0 5000 j3 x2 0
set_option maxRecDepth 100000 in
set_option maxHeartbeats 4000000 in
theorem tb_X6_judge_33 {p : Program} {l : Launch} {e : Env} {s : State} {m : MethodId} {args : Array Value} {below : List Frame} {meth : Method} {c : Code} {A : Nat → Prop} {D : va_G} {g : pa_G} {q : Nat → Nat → Nat} {u0 : pa_S} {j3 : Nat} {x2 : Int32} {post : Int32 → Prop} (hE : pa_Fx p s m args meth c A D g 5 cX6_judge RX6) (hr : meth.sig.returnType = (some .int)) (hj3 : j3 < 6) (hw : wb_X6_judge_33 u0 j3 x2 post) : pa_At p l e (pa_rm 5) s m args below meth c (MQ below (pa_Qc g D q (fun r => some (.int r)) (fun r u => u = u0 ∧ post r) A) args s 0 0 A) A D g 5 0 0 q u0 33 [(0, .ref (q 0 0)), (2, .int x2), (3, .ref (q 19 j3))] [] := by
  refine pa_iconst hE dX6_judge_33 (v := 0) (by decide) ?_
  refine pa_istore hE dX6_judge_34 (by decide) (lvr := [(0, .ref (q 0 0)), (2, .int x2), (3, .ref (q 19 j3))]) rfl ?_
  exact pa_sub [1, 2, 3, 0] rfl (tl_X6_judge_36 hE hr 5000 j3 x2 0 hj3 hw)
def wb_X6_judge_0 (u0 : pa_S) (x1 : Int32) (x2 : Int32) (post : Int32 → Prop) : Prop :=
  (wp_X6_isTape u0 x1 (fun (r1 : Int32) => (if r1 = 0 then post (-1 : Int32) else (vp_in x1 6) ∧ (wp_X4_holdsNothing u0 (x1.toNatClampNeg) (fun (r4 : Int32) => (if r4 = 0 then (if (pa_I u0 19 (x1.toNatClampNeg) 1) = 0 then wb_X6_judge_33 u0 (x1.toNatClampNeg) x2 post else post (-12 : Int32)) else wb_X6_judge_33 u0 (x1.toNatClampNeg) x2 post))))))
set_option maxRecDepth 100000 in
set_option maxHeartbeats 4000000 in
theorem tb_X6_judge_0 {p : Program} {l : Launch} {e : Env} {s : State} {m : MethodId} {args : Array Value} {below : List Frame} {meth : Method} {c : Code} {A : Nat → Prop} {D : va_G} {g : pa_G} {q : Nat → Nat → Nat} {u0 : pa_S} {x1 : Int32} {x2 : Int32} {post : Int32 → Prop} (hE : pa_Fx p s m args meth c A D g 5 cX6_judge RX6) (hr : meth.sig.returnType = (some .int)) (hw : wb_X6_judge_0 u0 x1 x2 post) : pa_At p l e (pa_rm 5) s m args below meth c (MQ below (pa_Qc g D q (fun r => some (.int r)) (fun r u => u = u0 ∧ post r) A) args s 0 0 A) A D g 5 0 0 q u0 0 [(0, .ref (q 0 0)), (1, .int x1), (2, .int x2)] [] := by
  refine pa_iload_n hE dX6_judge_0 rfl 1 rfl ?_
  refine pa_callSri hE (ct_X6_isTape l g D q u0 x1 _ hw) cs_RX6_240 rfl (pa_hR (by omega) (by decide)) rfl (Nat.le_of_ble_eq_true rfl) dX6_judge_1 (fun r1 hw => ?_)
  refine pa_if_ne hE dX6_judge_4 (tgt := 9) (by decide) (fun h2 => ?_) (fun h2 => ?_)
  · have hw := Eq.mp (if_neg h2) hw
    refine pa_aload_n hE dX6_judge_9 rfl 0 rfl ?_
    refine pg_0_14 hE (pa_m1 210 rfl rfl) dX6_judge_10 ?_
    refine pa_iload_n hE dX6_judge_13 rfl 1 rfl ?_
    obtain ⟨h3, hw⟩ := hw
    refine pa_aaldT hE h3 (n := (x1.toNatClampNeg)) rfl dX6_judge_14 ?_
    refine pa_astore_n hE dX6_judge_15 rfl (by decide) (lvr := [(0, .ref (q 0 0)), (1, .int x1), (2, .int x2)]) rfl ?_
    refine pa_aload_n hE dX6_judge_16 rfl 0 rfl ?_
    refine pa_callVri hE (ct_X4_holdsNothing l g D q u0 (x1.toNatClampNeg) _ (pa_inlt h3) hw) cv_RX6_243 (pa_in19 (pa_inlt h3)) rfl rfl rfl (pa_hR (by omega) (by decide)) rfl (Nat.le_of_ble_eq_true rfl) dX6_judge_17 (fun r4 hw => ?_)
    refine pa_if_ne hE dX6_judge_20 (tgt := 33) (by decide) (fun h5 => ?_) (fun h5 => ?_)
    · have hw := Eq.mp (if_neg h5) hw
      exact pa_sub [1, 3, 0] rfl (tb_X6_judge_33 hE hr (pa_inlt h3) hw)
    · have hw := Eq.mp (if_pos h5) hw
      refine pa_aload_n hE dX6_judge_23 rfl 0 rfl ?_
      refine pg_19_1 (pa_in19 (pa_inlt h3)) hE (pa_m1 186 rfl rfl) dX6_judge_24 ?_
      refine pa_if_eq hE dX6_judge_27 (tgt := 33) (by decide) (fun h14 => ?_) (fun h14 => ?_)
      · have hw := Eq.mp (if_pos h14) hw
        exact pa_sub [1, 3, 0] rfl (tb_X6_judge_33 hE hr (pa_inlt h3) hw)
      · have hw := Eq.mp (if_neg h14) hw
        refine pa_bipush hE dX6_judge_30 (v := (-12 : Int32)) (by decide) ?_
        exact pa_iret hE hr ⟨rfl, hw⟩ rfl dX6_judge_32
  · have hw := Eq.mp (if_pos h2) hw
    refine pa_iconst hE dX6_judge_7 (v := (-1 : Int32)) (by decide) ?_
    exact pa_iret hE hr ⟨rfl, hw⟩ rfl dX6_judge_8
def wp_X6_judge (u0 : pa_S) (x1 : Int32) (x2 : Int32) (post : Int32 → Prop) : Prop := wb_X6_judge_0 u0 x1 x2 post
theorem ct_X6_judge (l : Launch) (g : pa_G) (D : va_G) (q : Nat → Nat → Nat) (u0 : pa_S) (x1 : Int32) (x2 : Int32) (post : Int32 → Prop)  (hw : wp_X6_judge u0 x1 x2 post) : pa_Ct l yX6_judge cX6_judge 5 (some .int) 5 g D q u0 [.ref (q 0 0), .int x1, .int x2] (fun r => some (.int r)) (fun r u => u = u0 ∧ post r) := pa_met rfl rfl (Nat.le_of_ble_eq_true rfl) rfl (fun p e s m args below meth c A hE hr => tb_X6_judge_0 hE hr  hw)
def wb_X6_image_0 (u0 : pa_S) (post : Int32 → pa_S → Prop) : Prop :=
  (wp_X3_become u0 1 0 (fun (u2 : pa_S) => (wp_X2_become u2 3 0 (fun (u4 : pa_S) => (wp_X2_become u4 4 1 (fun (u6 : pa_S) => (wp_X2_become u6 5 2 (fun (u8 : pa_S) => ∀ u9 : pa_S, u9 = pa_sI u8 0 0 3 1 → post (pa_I u9 1 0 6) u9))))))))
set_option maxRecDepth 100000 in
set_option maxHeartbeats 4000000 in
theorem tb_X6_image_0 {p : Program} {l : Launch} {e : Env} {s : State} {m : MethodId} {args : Array Value} {below : List Frame} {meth : Method} {c : Code} {A : Nat → Prop} {D : va_G} {g : pa_G} {q : Nat → Nat → Nat} {u0 : pa_S} {post : Int32 → pa_S → Prop} (hE : pa_Fx p s m args meth c A D g 1 cX6_image RX6) (hr : meth.sig.returnType = (some .int)) (hw : wb_X6_image_0 u0 post) : pa_At p l e (pa_rm 3) s m args below meth c (MQ below (pa_Qc g D q (fun r => some (.int r)) post A) args s 0 0 A) A D g 1 0 0 q u0 0 [(0, .ref (q 0 0))] [] := by
  refine pa_aload_n hE dX6_image_0 rfl 0 rfl ?_
  refine pg_0_1 hE (pa_m1 197 rfl rfl) dX6_image_1 ?_
  refine pa_aload_n hE dX6_image_4 rfl 0 rfl ?_
  refine pg_0_0 hE (pa_m1 196 rfl rfl) dX6_image_5 ?_
  refine pa_callVv hE (ct_X3_become l g D q u0 1 0 _ (by decide) (by decide) hw) cv_RX6_194 (pa_in1 (by decide)) rfl rfl rfl (pa_hR (by omega) (by decide)) rfl (Nat.le_of_ble_eq_true rfl) dX6_image_8 (fun u2 hw => ?_)
  refine pa_aload_n hE dX6_image_11 rfl 0 rfl ?_
  refine pg_0_7 hE (pa_m1 203 rfl rfl) dX6_image_12 ?_
  refine pa_aload_n hE dX6_image_15 rfl 0 rfl ?_
  refine pg_0_4 hE (pa_m1 200 rfl rfl) dX6_image_16 ?_
  refine pa_callVv hE (ct_X2_become l g D q u2 3 0 _ (by decide) (by decide) hw) cv_RX6_255 (pa_in8 (by decide)) rfl rfl rfl (pa_hR (by omega) (by decide)) rfl (Nat.le_of_ble_eq_true rfl) dX6_image_19 (fun u4 hw => ?_)
  refine pa_aload_n hE dX6_image_22 rfl 0 rfl ?_
  refine pg_0_8 hE (pa_m1 204 rfl rfl) dX6_image_23 ?_
  refine pa_aload_n hE dX6_image_26 rfl 0 rfl ?_
  refine pg_0_5 hE (pa_m1 201 rfl rfl) dX6_image_27 ?_
  refine pa_callVv hE (ct_X2_become l g D q u4 4 1 _ (by decide) (by decide) hw) cv_RX6_255 (pa_in8 (by decide)) rfl rfl rfl (pa_hR (by omega) (by decide)) rfl (Nat.le_of_ble_eq_true rfl) dX6_image_30 (fun u6 hw => ?_)
  refine pa_aload_n hE dX6_image_33 rfl 0 rfl ?_
  refine pg_0_9 hE (pa_m1 205 rfl rfl) dX6_image_34 ?_
  refine pa_aload_n hE dX6_image_37 rfl 0 rfl ?_
  refine pg_0_6 hE (pa_m1 202 rfl rfl) dX6_image_38 ?_
  refine pa_callVv hE (ct_X2_become l g D q u6 5 2 _ (by decide) (by decide) hw) cv_RX6_255 (pa_in8 (by decide)) rfl rfl rfl (pa_hR (by omega) (by decide)) rfl (Nat.le_of_ble_eq_true rfl) dX6_image_41 (fun u8 hw => ?_)
  refine pa_aload_n hE dX6_image_44 rfl 0 rfl ?_
  refine pa_iconst hE dX6_image_45 (v := 1) (by decide) ?_
  refine pp_0_3 (by decide) (by decide) hE (pa_m1 199 rfl rfl) dX6_image_46 (fun u9 eu9 => ?_)
  have hw := hw u9 eu9
  refine pa_aload_n hE dX6_image_49 rfl 0 rfl ?_
  refine pg_0_0 hE (pa_m1 196 rfl rfl) dX6_image_50 ?_
  refine pg_1_6 (pa_in1 (by decide)) hE (pa_m1 148 rfl rfl) dX6_image_53 ?_
  exact pa_iret hE hr hw rfl dX6_image_56
def wp_X6_image (u0 : pa_S) (post : Int32 → pa_S → Prop) : Prop := wb_X6_image_0 u0 post
theorem ct_X6_image (l : Launch) (g : pa_G) (D : va_G) (q : Nat → Nat → Nat) (u0 : pa_S) (post : Int32 → pa_S → Prop)  (hw : wp_X6_image u0 post) : pa_Ct l yX6_image cX6_image 1 (some .int) 3 g D q u0 [.ref (q 0 0)] (fun r => some (.int r)) post := pa_met rfl rfl (Nat.le_of_ble_eq_true rfl) rfl (fun p e s m args below meth c A hE hr => tb_X6_image_0 hE hr  hw)
def wb_X6_undo_0 (u0 : pa_S) (post : Int32 → pa_S → Prop) : Prop :=
  (if (pa_I u0 0 0 3) = 0 then post (-3 : Int32) u0 else (wp_X3_become u0 0 1 (fun (u3 : pa_S) => (wp_X2_become u3 0 3 (fun (u5 : pa_S) => (wp_X2_become u5 1 4 (fun (u7 : pa_S) => (wp_X2_become u7 2 5 (fun (u9 : pa_S) => post (pa_I u9 1 0 6) u9)))))))))
set_option maxRecDepth 100000 in
set_option maxHeartbeats 4000000 in
theorem tb_X6_undo_0 {p : Program} {l : Launch} {e : Env} {s : State} {m : MethodId} {args : Array Value} {below : List Frame} {meth : Method} {c : Code} {A : Nat → Prop} {D : va_G} {g : pa_G} {q : Nat → Nat → Nat} {u0 : pa_S} {post : Int32 → pa_S → Prop} (hE : pa_Fx p s m args meth c A D g 1 cX6_undo RX6) (hr : meth.sig.returnType = (some .int)) (hw : wb_X6_undo_0 u0 post) : pa_At p l e (pa_rm 3) s m args below meth c (MQ below (pa_Qc g D q (fun r => some (.int r)) post A) args s 0 0 A) A D g 1 0 0 q u0 0 [(0, .ref (q 0 0))] [] := by
  refine pa_aload_n hE dX6_undo_0 rfl 0 rfl ?_
  refine pg_0_3 hE (pa_m1 199 rfl rfl) dX6_undo_1 ?_
  refine pa_if_ne hE dX6_undo_4 (tgt := 10) (by decide) (fun h1 => ?_) (fun h1 => ?_)
  · have hw := Eq.mp (if_neg h1) hw
    refine pa_aload_n hE dX6_undo_10 rfl 0 rfl ?_
    refine pg_0_0 hE (pa_m1 196 rfl rfl) dX6_undo_11 ?_
    refine pa_aload_n hE dX6_undo_14 rfl 0 rfl ?_
    refine pg_0_1 hE (pa_m1 197 rfl rfl) dX6_undo_15 ?_
    refine pa_callVv hE (ct_X3_become l g D q u0 0 1 _ (by decide) (by decide) hw) cv_RX6_194 (pa_in1 (by decide)) rfl rfl rfl (pa_hR (by omega) (by decide)) rfl (Nat.le_of_ble_eq_true rfl) dX6_undo_18 (fun u3 hw => ?_)
    refine pa_aload_n hE dX6_undo_21 rfl 0 rfl ?_
    refine pg_0_4 hE (pa_m1 200 rfl rfl) dX6_undo_22 ?_
    refine pa_aload_n hE dX6_undo_25 rfl 0 rfl ?_
    refine pg_0_7 hE (pa_m1 203 rfl rfl) dX6_undo_26 ?_
    refine pa_callVv hE (ct_X2_become l g D q u3 0 3 _ (by decide) (by decide) hw) cv_RX6_255 (pa_in8 (by decide)) rfl rfl rfl (pa_hR (by omega) (by decide)) rfl (Nat.le_of_ble_eq_true rfl) dX6_undo_29 (fun u5 hw => ?_)
    refine pa_aload_n hE dX6_undo_32 rfl 0 rfl ?_
    refine pg_0_5 hE (pa_m1 201 rfl rfl) dX6_undo_33 ?_
    refine pa_aload_n hE dX6_undo_36 rfl 0 rfl ?_
    refine pg_0_8 hE (pa_m1 204 rfl rfl) dX6_undo_37 ?_
    refine pa_callVv hE (ct_X2_become l g D q u5 1 4 _ (by decide) (by decide) hw) cv_RX6_255 (pa_in8 (by decide)) rfl rfl rfl (pa_hR (by omega) (by decide)) rfl (Nat.le_of_ble_eq_true rfl) dX6_undo_40 (fun u7 hw => ?_)
    refine pa_aload_n hE dX6_undo_43 rfl 0 rfl ?_
    refine pg_0_6 hE (pa_m1 202 rfl rfl) dX6_undo_44 ?_
    refine pa_aload_n hE dX6_undo_47 rfl 0 rfl ?_
    refine pg_0_9 hE (pa_m1 205 rfl rfl) dX6_undo_48 ?_
    refine pa_callVv hE (ct_X2_become l g D q u7 2 5 _ (by decide) (by decide) hw) cv_RX6_255 (pa_in8 (by decide)) rfl rfl rfl (pa_hR (by omega) (by decide)) rfl (Nat.le_of_ble_eq_true rfl) dX6_undo_51 (fun u9 hw => ?_)
    refine pa_aload_n hE dX6_undo_54 rfl 0 rfl ?_
    refine pg_0_0 hE (pa_m1 196 rfl rfl) dX6_undo_55 ?_
    refine pg_1_6 (pa_in1 (by decide)) hE (pa_m1 148 rfl rfl) dX6_undo_58 ?_
    exact pa_iret hE hr hw rfl dX6_undo_61
  · have hw := Eq.mp (if_pos h1) hw
    refine pa_bipush hE dX6_undo_7 (v := (-3 : Int32)) (by decide) ?_
    exact pa_iret hE hr hw rfl dX6_undo_9
def wp_X6_undo (u0 : pa_S) (post : Int32 → pa_S → Prop) : Prop := wb_X6_undo_0 u0 post
theorem ct_X6_undo (l : Launch) (g : pa_G) (D : va_G) (q : Nat → Nat → Nat) (u0 : pa_S) (post : Int32 → pa_S → Prop)  (hw : wp_X6_undo u0 post) : pa_Ct l yX6_undo cX6_undo 1 (some .int) 3 g D q u0 [.ref (q 0 0)] (fun r => some (.int r)) post := pa_met rfl rfl (Nat.le_of_ble_eq_true rfl) rfl (fun p e s m args below meth c A hE hr => tb_X6_undo_0 hE hr  hw)
def wb_X6_act_0 (u0 : pa_S) (x1 : Int32) (x2 : Int32) (x3 : Int32) (post : Int32 → pa_S → Prop) : Prop :=
  (wp_X0_forget u0 (fun (u2 : pa_S) => (wp_X3_has u2 0 x1 (fun (r3 : Int32) => (if r3 = 0 then post 0 u2 else (wp_X6_within u2 x2 0 2 (fun (r5 : Int32) => (if r5 = 0 then post 0 u2 else (wp_X3_kindOf u2 0 x1 (fun (r7 : Int32) => (wp_X3_vOf u2 0 x1 (fun (r8 : Int32) => (wp_X0_begin u2 x1 r7 r8 x2 x3 (fun (r9 : Int32) (u10 : pa_S) => post r9 u10))))))))))))))
set_option maxRecDepth 100000 in
set_option maxHeartbeats 4000000 in
theorem tb_X6_act_0 {p : Program} {l : Launch} {e : Env} {s : State} {m : MethodId} {args : Array Value} {below : List Frame} {meth : Method} {c : Code} {A : Nat → Prop} {D : va_G} {g : pa_G} {q : Nat → Nat → Nat} {u0 : pa_S} {x1 : Int32} {x2 : Int32} {x3 : Int32} {post : Int32 → pa_S → Prop} (hE : pa_Fx p s m args meth c A D g 4 cX6_act RX6) (hr : meth.sig.returnType = (some .int)) (hw : wb_X6_act_0 u0 x1 x2 x3 post) : pa_At p l e (pa_rm 45) s m args below meth c (MQ below (pa_Qc g D q (fun r => some (.int r)) post A) args s 0 0 A) A D g 4 0 0 q u0 0 [(0, .ref (q 0 0)), (1, .int x1), (2, .int x2), (3, .int x3)] [] := by
  refine pa_aload_n hE dX6_act_0 rfl 0 rfl ?_
  refine pg_0_13 hE (pa_m1 209 rfl rfl) dX6_act_1 ?_
  refine pa_callVv hE (ct_X0_forget l g D q u0 _ hw) cv_RX6_262 pa_in17 rfl rfl rfl (pa_hR (by omega) (by decide)) rfl (Nat.le_of_ble_eq_true rfl) dX6_act_4 (fun u2 hw => ?_)
  refine pa_aload_n hE dX6_act_7 rfl 0 rfl ?_
  refine pg_0_0 hE (pa_m1 196 rfl rfl) dX6_act_8 ?_
  refine pa_iload_n hE dX6_act_11 rfl 1 rfl ?_
  refine pa_callVri hE (ct_X3_has l g D q u2 0 x1 _ (by decide) hw) cv_RX6_91 (pa_in1 (by decide)) rfl rfl rfl (pa_hR (by omega) (by decide)) rfl (Nat.le_of_ble_eq_true rfl) dX6_act_12 (fun r3 hw => ?_)
  refine pa_if_eq hE dX6_act_15 (tgt := 27) (by decide) (fun h4 => ?_) (fun h4 => ?_)
  · have hw := Eq.mp (if_pos h4) hw
    refine pa_iconst hE dX6_act_27 (v := 0) (by decide) ?_
    exact pa_iret hE hr hw rfl dX6_act_28
  · have hw := Eq.mp (if_neg h4) hw
    refine pa_iload_n hE dX6_act_18 rfl 2 rfl ?_
    refine pa_iconst hE dX6_act_19 (v := 0) (by decide) ?_
    refine pa_iconst hE dX6_act_20 (v := 2) (by decide) ?_
    refine pa_callSri hE (ct_X6_within l g D q u2 x2 0 2 _ hw) cs_RX6_79 rfl (pa_hR (by omega) (by decide)) rfl (Nat.le_of_ble_eq_true rfl) dX6_act_21 (fun r5 hw => ?_)
    refine pa_if_ne hE dX6_act_24 (tgt := 29) (by decide) (fun h6 => ?_) (fun h6 => ?_)
    · have hw := Eq.mp (if_neg h6) hw
      refine pa_aload_n hE dX6_act_29 rfl 0 rfl ?_
      refine pg_0_13 hE (pa_m1 209 rfl rfl) dX6_act_30 ?_
      refine pa_iload_n hE dX6_act_33 rfl 1 rfl ?_
      refine pa_aload_n hE dX6_act_34 rfl 0 rfl ?_
      refine pg_0_0 hE (pa_m1 196 rfl rfl) dX6_act_35 ?_
      refine pa_iload_n hE dX6_act_38 rfl 1 rfl ?_
      refine pa_callVri hE (ct_X3_kindOf l g D q u2 0 x1 _ (by decide) hw) cv_RX6_95 (pa_in1 (by decide)) rfl rfl rfl (pa_hR (by omega) (by decide)) rfl (Nat.le_of_ble_eq_true rfl) dX6_act_39 (fun r7 hw => ?_)
      refine pa_aload_n hE dX6_act_42 rfl 0 rfl ?_
      refine pg_0_0 hE (pa_m1 196 rfl rfl) dX6_act_43 ?_
      refine pa_iload_n hE dX6_act_46 rfl 1 rfl ?_
      refine pa_callVri hE (ct_X3_vOf l g D q u2 0 x1 _ (by decide) hw) cv_RX6_99 (pa_in1 (by decide)) rfl rfl rfl (pa_hR (by omega) (by decide)) rfl (Nat.le_of_ble_eq_true rfl) dX6_act_47 (fun r8 hw => ?_)
      refine pa_iload_n hE dX6_act_50 rfl 2 rfl ?_
      refine pa_iload_n hE dX6_act_51 rfl 3 rfl ?_
      refine pa_callVi hE (ct_X0_begin l g D q u2 x1 r7 r8 x2 x3 _ hw) cv_RX6_265 pa_in17 rfl rfl rfl (pa_hR (by omega) (by decide)) rfl (Nat.le_of_ble_eq_true rfl) dX6_act_52 (fun r9 u10 hw => ?_)
      exact pa_iret hE hr hw rfl dX6_act_55
    · have hw := Eq.mp (if_pos h6) hw
      refine pa_iconst hE dX6_act_27 (v := 0) (by decide) ?_
      exact pa_iret hE hr hw rfl dX6_act_28
def wp_X6_act (u0 : pa_S) (x1 : Int32) (x2 : Int32) (x3 : Int32) (post : Int32 → pa_S → Prop) : Prop := wb_X6_act_0 u0 x1 x2 x3 post
theorem ct_X6_act (l : Launch) (g : pa_G) (D : va_G) (q : Nat → Nat → Nat) (u0 : pa_S) (x1 : Int32) (x2 : Int32) (x3 : Int32) (post : Int32 → pa_S → Prop)  (hw : wp_X6_act u0 x1 x2 x3 post) : pa_Ct l yX6_act cX6_act 4 (some .int) 45 g D q u0 [.ref (q 0 0), .int x1, .int x2, .int x3] (fun r => some (.int r)) post := pa_met rfl rfl (Nat.le_of_ble_eq_true rfl) rfl (fun p e s m args below meth c A hE hr => tb_X6_act_0 hE hr  hw)
def wb_X6_trace_0 (u0 : pa_S) (x1 : Int32) (post : Int32 → Prop) : Prop :=
  (wp_X0_isKept u0 x1 (fun (r1 : Int32) => (if r1 = 0 then post (-1 : Int32) else (wp_X0_bodyAt u0 x1 (fun (r3 : Int32) => post r3)))))
set_option maxRecDepth 100000 in
set_option maxHeartbeats 4000000 in
theorem tb_X6_trace_0 {p : Program} {l : Launch} {e : Env} {s : State} {m : MethodId} {args : Array Value} {below : List Frame} {meth : Method} {c : Code} {A : Nat → Prop} {D : va_G} {g : pa_G} {q : Nat → Nat → Nat} {u0 : pa_S} {x1 : Int32} {post : Int32 → Prop} (hE : pa_Fx p s m args meth c A D g 2 cX6_trace RX6) (hr : meth.sig.returnType = (some .int)) (hw : wb_X6_trace_0 u0 x1 post) : pa_At p l e (pa_rm 4) s m args below meth c (MQ below (pa_Qc g D q (fun r => some (.int r)) (fun r u => u = u0 ∧ post r) A) args s 0 0 A) A D g 2 0 0 q u0 0 [(0, .ref (q 0 0)), (1, .int x1)] [] := by
  refine pa_aload_n hE dX6_trace_0 rfl 0 rfl ?_
  refine pg_0_13 hE (pa_m1 209 rfl rfl) dX6_trace_1 ?_
  refine pa_iload_n hE dX6_trace_4 rfl 1 rfl ?_
  refine pa_callVri hE (ct_X0_isKept l g D q u0 x1 _ hw) cv_RX6_269 pa_in17 rfl rfl rfl (pa_hR (by omega) (by decide)) rfl (Nat.le_of_ble_eq_true rfl) dX6_trace_5 (fun r1 hw => ?_)
  refine pa_if_eq hE dX6_trace_8 (tgt := 22) (by decide) (fun h2 => ?_) (fun h2 => ?_)
  · have hw := Eq.mp (if_pos h2) hw
    refine pa_iconst hE dX6_trace_22 (v := (-1 : Int32)) (by decide) ?_
    exact pa_iret hE hr ⟨rfl, hw⟩ rfl dX6_trace_23
  · have hw := Eq.mp (if_neg h2) hw
    refine pa_aload_n hE dX6_trace_11 rfl 0 rfl ?_
    refine pg_0_13 hE (pa_m1 209 rfl rfl) dX6_trace_12 ?_
    refine pa_iload_n hE dX6_trace_15 rfl 1 rfl ?_
    refine pa_callVri hE (ct_X0_bodyAt l g D q u0 x1 _ hw) cv_RX6_272 pa_in17 rfl rfl rfl (pa_hR (by omega) (by decide)) rfl (Nat.le_of_ble_eq_true rfl) dX6_trace_16 (fun r3 hw => ?_)
    refine pa_goto hE dX6_trace_19 (tgt := 23) (by decide) ?_
    exact pa_iret hE hr ⟨rfl, hw⟩ rfl dX6_trace_23
def wp_X6_trace (u0 : pa_S) (x1 : Int32) (post : Int32 → Prop) : Prop := wb_X6_trace_0 u0 x1 post
theorem ct_X6_trace (l : Launch) (g : pa_G) (D : va_G) (q : Nat → Nat → Nat) (u0 : pa_S) (x1 : Int32) (post : Int32 → Prop)  (hw : wp_X6_trace u0 x1 post) : pa_Ct l yX6_trace cX6_trace 2 (some .int) 4 g D q u0 [.ref (q 0 0), .int x1] (fun r => some (.int r)) (fun r u => u = u0 ∧ post r) := pa_met rfl rfl (Nat.le_of_ble_eq_true rfl) rfl (fun p e s m args below meth c A hE hr => tb_X6_trace_0 hE hr  hw)
def wb_X6_taken_42 (k42 : Int32 → Int32 → Int32 → Int32 → Prop) (u0 : pa_S) (x2 : Int32) (x3 : Int32) (x4 : Int32) (x5 : Int32) (post : Int32 → Prop) : Prop :=
  (if 7 ≤ x5 then post (-12 : Int32) else (wp_X6_within u0 x4 0 6 (fun (r7 : Int32) => (if r7 = 0 then post (-12 : Int32) else (if x4 = x2 then post x3 else (vp_in x4 7) ∧ ∀ v11 : Int32, v11 = (pa_kab.getD x4.toNatClampNeg 0) → ∀ v12 : Int32, v12 = x5 + 1 → k42 x2 x3 v11 v12)))))
set_option maxRecDepth 100000 in
set_option maxHeartbeats 4000000 in
theorem tb_X6_taken_42 {p : Program} {l : Launch} {e : Env} {s : State} {m : MethodId} {args : Array Value} {below : List Frame} {meth : Method} {c : Code} {A : Nat → Prop} {D : va_G} {g : pa_G} {q : Nat → Nat → Nat} {k42 : Int32 → Int32 → Int32 → Int32 → Prop} {u0 : pa_S} {x2 : Int32} {x3 : Int32} {x4 : Int32} {x5 : Int32} {post : Int32 → Prop} (hE : pa_Fx p s m args meth c A D g 6 cX6_taken RX6) (hr : meth.sig.returnType = (some .int)) (hk42 : ∀ (x2 : Int32) (x3 : Int32) (x4 : Int32) (x5 : Int32), k42 x2 x3 x4 x5 → pa_At p l e (pa_rm 4) s m args below meth c (MQ below (pa_Qc g D q (fun r => some (.int r)) (fun r u => u = u0 ∧ post r) A) args s 0 0 A) A D g 6 0 0 q u0 42 [(2, .int x2), (3, .int x3), (4, .int x4), (5, .int x5)] []) (hw : wb_X6_taken_42 k42 u0 x2 x3 x4 x5 post) : pa_At p l e (pa_rm 4) s m args below meth c (MQ below (pa_Qc g D q (fun r => some (.int r)) (fun r u => u = u0 ∧ post r) A) args s 0 0 A) A D g 6 0 0 q u0 42 [(2, .int x2), (3, .int x3), (4, .int x4), (5, .int x5)] [] := by
  refine pa_iload hE dX6_taken_42 3 rfl ?_
  refine pa_bipush hE dX6_taken_44 (v := 7) (by decide) ?_
  refine pa_icmp_ge hE dX6_taken_46 (tgt := 82) (by decide) (fun h6 => ?_) (fun h6 => ?_)
  · have hw := Eq.mp (if_pos h6) hw
    refine pa_bipush hE dX6_taken_82 (v := (-12 : Int32)) (by decide) ?_
    exact pa_iret hE hr ⟨rfl, hw⟩ rfl dX6_taken_84
  · have hw := Eq.mp (if_neg h6) hw
    refine pa_iload hE dX6_taken_49 2 rfl ?_
    refine pa_iconst hE dX6_taken_51 (v := 0) (by decide) ?_
    refine pa_bipush hE dX6_taken_52 (v := 6) (by decide) ?_
    refine pa_callSri hE (ct_X6_within l g D q u0 x4 0 6 _ hw) cs_RX6_79 rfl (pa_hR (by omega) (by decide)) rfl (Nat.le_of_ble_eq_true rfl) dX6_taken_54 (fun r7 hw => ?_)
    refine pa_if_eq hE dX6_taken_57 (tgt := 82) (by decide) (fun h8 => ?_) (fun h8 => ?_)
    · have hw := Eq.mp (if_pos h8) hw
      refine pa_bipush hE dX6_taken_82 (v := (-12 : Int32)) (by decide) ?_
      exact pa_iret hE hr ⟨rfl, hw⟩ rfl dX6_taken_84
    · have hw := Eq.mp (if_neg h8) hw
      refine pa_iload hE dX6_taken_60 2 rfl ?_
      refine pa_iload_n hE dX6_taken_62 rfl 0 rfl ?_
      refine pa_icmp_ne hE dX6_taken_63 (tgt := 68) (by decide) (fun h9 => ?_) (fun h9 => ?_)
      · have hw := Eq.mp (if_neg h9) hw
        refine pa_getsK hE (pa_m4 64 rfl rfl) dX6_taken_68 ?_
        refine pa_iload hE dX6_taken_71 2 rfl ?_
        obtain ⟨h10, hw⟩ := hw
        refine pa_tldK hE h10 dX6_taken_73 ?_
        refine pa_namei (fun v11 ev11 => ?_)
        have hw := hw v11 ev11
        refine pa_istore hE dX6_taken_74 (by decide) (lvr := [(2, .int x2), (3, .int x3), (5, .int x5)]) rfl ?_
        refine pa_iinc hE dX6_taken_76 (v := 1) 3 rfl (by decide) (by decide) (lvr := [(4, .int v11), (2, .int x2), (3, .int x3)]) rfl (fun v12 ev12 => ?_)
        have hw := hw v12 ev12
        refine pa_goto hE dX6_taken_79 (tgt := 42) (by decide) ?_
        exact pa_sub [2, 3, 1, 0] rfl (hk42 x2 x3 v11 v12 hw)
      · have hw := Eq.mp (if_pos h9) hw
        refine pa_iload_n hE dX6_taken_66 rfl 1 rfl ?_
        exact pa_iret hE hr ⟨rfl, hw⟩ rfl dX6_taken_67
def wl_X6_taken_42 (post : Int32 → Prop) (u0 : pa_S) : Nat → Int32 → Int32 → Int32 → Int32 → Prop
  | 0, _, _, _, _ => False
  | n + 1, x2, x3, x4, x5 => wb_X6_taken_42 (fun x2 x3 x4 x5 => wl_X6_taken_42 post u0 n x2 x3 x4 x5) u0 x2 x3 x4 x5 post
set_option maxRecDepth 100000 in
set_option maxHeartbeats 4000000 in
theorem tl_X6_taken_42 {p : Program} {l : Launch} {e : Env} {s : State} {m : MethodId} {args : Array Value} {below : List Frame} {meth : Method} {c : Code} {A : Nat → Prop} {D : va_G} {g : pa_G} {q : Nat → Nat → Nat} {u0 : pa_S} {post : Int32 → Prop} (hE : pa_Fx p s m args meth c A D g 6 cX6_taken RX6) (hr : meth.sig.returnType = (some .int)) : ∀ (n : Nat) (x2 : Int32) (x3 : Int32) (x4 : Int32) (x5 : Int32), wl_X6_taken_42 post u0 n x2 x3 x4 x5 → pa_At p l e (pa_rm 4) s m args below meth c (MQ below (pa_Qc g D q (fun r => some (.int r)) (fun r u => u = u0 ∧ post r) A) args s 0 0 A) A D g 6 0 0 q u0 42 [(2, .int x2), (3, .int x3), (4, .int x4), (5, .int x5)] []
  | 0, _, _, _, _, hw => absurd hw (by simp only [wl_X6_taken_42]; exact fun z => z)
  | n + 1, x2, x3, x4, x5, hw => tb_X6_taken_42 hE hr (fun x2 x3 x4 x5  hw1 => tl_X6_taken_42 hE hr  n x2 x3 x4 x5  hw1) hw
def wb_X6_taken_0 (u0 : pa_S) (x1 : Int32) (x2 : Int32) (post : Int32 → Prop) : Prop :=
  (wp_X6_within u0 x2 0 6 (fun (r1 : Int32) => (if r1 = 0 then post (-2 : Int32) else (wp_X3_has u0 0 x1 (fun (r3 : Int32) => (if r3 = 0 then post (-11 : Int32) else (wp_X3_kindOf u0 0 x1 (fun (r5 : Int32) => wl_X6_taken_42 post u0 5000 x2 r5 r5 0))))))))
set_option maxRecDepth 100000 in
set_option maxHeartbeats 4000000 in
theorem tb_X6_taken_0 {p : Program} {l : Launch} {e : Env} {s : State} {m : MethodId} {args : Array Value} {below : List Frame} {meth : Method} {c : Code} {A : Nat → Prop} {D : va_G} {g : pa_G} {q : Nat → Nat → Nat} {u0 : pa_S} {x1 : Int32} {x2 : Int32} {post : Int32 → Prop} (hE : pa_Fx p s m args meth c A D g 6 cX6_taken RX6) (hr : meth.sig.returnType = (some .int)) (hw : wb_X6_taken_0 u0 x1 x2 post) : pa_At p l e (pa_rm 4) s m args below meth c (MQ below (pa_Qc g D q (fun r => some (.int r)) (fun r u => u = u0 ∧ post r) A) args s 0 0 A) A D g 6 0 0 q u0 0 [(0, .ref (q 0 0)), (1, .int x1), (2, .int x2)] [] := by
  refine pa_iload_n hE dX6_taken_0 rfl 2 rfl ?_
  refine pa_iconst hE dX6_taken_1 (v := 0) (by decide) ?_
  refine pa_bipush hE dX6_taken_2 (v := 6) (by decide) ?_
  refine pa_callSri hE (ct_X6_within l g D q u0 x2 0 6 _ hw) cs_RX6_79 rfl (pa_hR (by omega) (by decide)) rfl (Nat.le_of_ble_eq_true rfl) dX6_taken_4 (fun r1 hw => ?_)
  refine pa_if_ne hE dX6_taken_7 (tgt := 13) (by decide) (fun h2 => ?_) (fun h2 => ?_)
  · have hw := Eq.mp (if_neg h2) hw
    refine pa_aload_n hE dX6_taken_13 rfl 0 rfl ?_
    refine pg_0_0 hE (pa_m1 196 rfl rfl) dX6_taken_14 ?_
    refine pa_iload_n hE dX6_taken_17 rfl 1 rfl ?_
    refine pa_callVri hE (ct_X3_has l g D q u0 0 x1 _ (by decide) hw) cv_RX6_91 (pa_in1 (by decide)) rfl rfl rfl (pa_hR (by omega) (by decide)) rfl (Nat.le_of_ble_eq_true rfl) dX6_taken_18 (fun r3 hw => ?_)
    refine pa_if_ne hE dX6_taken_21 (tgt := 27) (by decide) (fun h4 => ?_) (fun h4 => ?_)
    · have hw := Eq.mp (if_neg h4) hw
      refine pa_aload_n hE dX6_taken_27 rfl 0 rfl ?_
      refine pg_0_0 hE (pa_m1 196 rfl rfl) dX6_taken_28 ?_
      refine pa_iload_n hE dX6_taken_31 rfl 1 rfl ?_
      refine pa_callVri hE (ct_X3_kindOf l g D q u0 0 x1 _ (by decide) hw) cv_RX6_95 (pa_in1 (by decide)) rfl rfl rfl (pa_hR (by omega) (by decide)) rfl (Nat.le_of_ble_eq_true rfl) dX6_taken_32 (fun r5 hw => ?_)
      refine pa_istore_n hE dX6_taken_35 rfl (by decide) (lvr := [(0, .ref (q 0 0)), (1, .int x1), (2, .int x2)]) rfl ?_
      refine pa_iload_n hE dX6_taken_36 rfl 0 rfl ?_
      refine pa_istore hE dX6_taken_37 (by decide) (lvr := [(3, .int r5), (0, .ref (q 0 0)), (1, .int x1), (2, .int x2)]) rfl ?_
      refine pa_iconst hE dX6_taken_39 (v := 0) (by decide) ?_
      refine pa_istore hE dX6_taken_40 (by decide) (lvr := [(4, .int r5), (3, .int r5), (0, .ref (q 0 0)), (1, .int x1), (2, .int x2)]) rfl ?_
      exact pa_sub [5, 2, 1, 0] rfl (tl_X6_taken_42 hE hr 5000 x2 r5 r5 0 hw)
    · have hw := Eq.mp (if_pos h4) hw
      refine pa_bipush hE dX6_taken_24 (v := (-11 : Int32)) (by decide) ?_
      exact pa_iret hE hr ⟨rfl, hw⟩ rfl dX6_taken_26
  · have hw := Eq.mp (if_pos h2) hw
    refine pa_bipush hE dX6_taken_10 (v := (-2 : Int32)) (by decide) ?_
    exact pa_iret hE hr ⟨rfl, hw⟩ rfl dX6_taken_12
def wp_X6_taken (u0 : pa_S) (x1 : Int32) (x2 : Int32) (post : Int32 → Prop) : Prop := wb_X6_taken_0 u0 x1 x2 post
theorem ct_X6_taken (l : Launch) (g : pa_G) (D : va_G) (q : Nat → Nat → Nat) (u0 : pa_S) (x1 : Int32) (x2 : Int32) (post : Int32 → Prop)  (hw : wp_X6_taken u0 x1 x2 post) : pa_Ct l yX6_taken cX6_taken 6 (some .int) 4 g D q u0 [.ref (q 0 0), .int x1, .int x2] (fun r => some (.int r)) (fun r u => u = u0 ∧ post r) := pa_met rfl rfl (Nat.le_of_ble_eq_true rfl) rfl (fun p e s m args below meth c A hE hr => tb_X6_taken_0 hE hr  hw)
def wb_X6_count_0 (u0 : pa_S) (x1 : Int32) (post : Int32 → Prop) : Prop :=
  (if x1 = 0 then post (pa_I u0 1 0 6) else (if x1 = 1 then post (pa_I u0 0 0 12) else (if x1 = 2 then post (pa_I u0 8 0 1) else (if x1 = 3 then post (pa_I u0 8 1 1) else (if x1 = 4 then post (pa_I u0 8 2 1) else (if x1 = 5 then (wp_X5_size u0 (fun (r8 : Int32) => post r8)) else (if x1 = 6 then (wp_X0_ran u0 (fun (r9 : Int32) => post r9)) else post (-2 : Int32))))))))
set_option maxRecDepth 100000 in
set_option maxHeartbeats 4000000 in
theorem tb_X6_count_0 {p : Program} {l : Launch} {e : Env} {s : State} {m : MethodId} {args : Array Value} {below : List Frame} {meth : Method} {c : Code} {A : Nat → Prop} {D : va_G} {g : pa_G} {q : Nat → Nat → Nat} {u0 : pa_S} {x1 : Int32} {post : Int32 → Prop} (hE : pa_Fx p s m args meth c A D g 2 cX6_count RX6) (hr : meth.sig.returnType = (some .int)) (hw : wb_X6_count_0 u0 x1 post) : pa_At p l e (pa_rm 3) s m args below meth c (MQ below (pa_Qc g D q (fun r => some (.int r)) (fun r u => u = u0 ∧ post r) A) args s 0 0 A) A D g 2 0 0 q u0 0 [(0, .ref (q 0 0)), (1, .int x1)] [] := by
  refine pa_iload_n hE dX6_count_0 rfl 1 rfl ?_
  by_cases h1 : x1 = 0
  · have hw := Eq.mp (if_pos h1) hw
    refine pa_tswIn hE dX6_count_1 (z := 0) h1 (by decide) (by decide) rfl (tgt := 44) (by decide) ?_
    refine pa_aload_n hE dX6_count_44 rfl 0 rfl ?_
    refine pg_0_0 hE (pa_m1 196 rfl rfl) dX6_count_45 ?_
    refine pg_1_6 (pa_in1 (by decide)) hE (pa_m1 148 rfl rfl) dX6_count_48 ?_
    exact pa_iret hE hr ⟨rfl, hw⟩ rfl dX6_count_51
  · have hw := Eq.mp (if_neg h1) hw
    by_cases h2 : x1 = 1
    · have hw := Eq.mp (if_pos h2) hw
      refine pa_tswIn hE dX6_count_1 (z := 1) h2 (by decide) (by decide) rfl (tgt := 52) (by decide) ?_
      refine pa_aload_n hE dX6_count_52 rfl 0 rfl ?_
      refine pg_0_12 hE (pa_m1 208 rfl rfl) dX6_count_53 ?_
      exact pa_iret hE hr ⟨rfl, hw⟩ rfl dX6_count_56
    · have hw := Eq.mp (if_neg h2) hw
      by_cases h3 : x1 = 2
      · have hw := Eq.mp (if_pos h3) hw
        refine pa_tswIn hE dX6_count_1 (z := 2) h3 (by decide) (by decide) rfl (tgt := 57) (by decide) ?_
        refine pa_aload_n hE dX6_count_57 rfl 0 rfl ?_
        refine pg_0_4 hE (pa_m1 200 rfl rfl) dX6_count_58 ?_
        refine pg_8_1 (pa_in8 (by decide)) hE (pa_m1 33 rfl rfl) dX6_count_61 ?_
        exact pa_iret hE hr ⟨rfl, hw⟩ rfl dX6_count_64
      · have hw := Eq.mp (if_neg h3) hw
        by_cases h4 : x1 = 3
        · have hw := Eq.mp (if_pos h4) hw
          refine pa_tswIn hE dX6_count_1 (z := 3) h4 (by decide) (by decide) rfl (tgt := 65) (by decide) ?_
          refine pa_aload_n hE dX6_count_65 rfl 0 rfl ?_
          refine pg_0_5 hE (pa_m1 201 rfl rfl) dX6_count_66 ?_
          refine pg_8_1 (pa_in8 (by decide)) hE (pa_m1 33 rfl rfl) dX6_count_69 ?_
          exact pa_iret hE hr ⟨rfl, hw⟩ rfl dX6_count_72
        · have hw := Eq.mp (if_neg h4) hw
          by_cases h5 : x1 = 4
          · have hw := Eq.mp (if_pos h5) hw
            refine pa_tswIn hE dX6_count_1 (z := 4) h5 (by decide) (by decide) rfl (tgt := 73) (by decide) ?_
            refine pa_aload_n hE dX6_count_73 rfl 0 rfl ?_
            refine pg_0_6 hE (pa_m1 202 rfl rfl) dX6_count_74 ?_
            refine pg_8_1 (pa_in8 (by decide)) hE (pa_m1 33 rfl rfl) dX6_count_77 ?_
            exact pa_iret hE hr ⟨rfl, hw⟩ rfl dX6_count_80
          · have hw := Eq.mp (if_neg h5) hw
            by_cases h6 : x1 = 5
            · have hw := Eq.mp (if_pos h6) hw
              refine pa_tswIn hE dX6_count_1 (z := 5) h6 (by decide) (by decide) rfl (tgt := 81) (by decide) ?_
              refine pa_aload_n hE dX6_count_81 rfl 0 rfl ?_
              refine pg_0_11 hE (pa_m1 207 rfl rfl) dX6_count_82 ?_
              refine pa_callVri hE (ct_X5_size l g D q u0 _ hw) cv_RX6_278 pa_in10 rfl rfl rfl (pa_hR (by omega) (by decide)) rfl (Nat.le_of_ble_eq_true rfl) dX6_count_85 (fun r8 hw => ?_)
              exact pa_iret hE hr ⟨rfl, hw⟩ rfl dX6_count_88
            · have hw := Eq.mp (if_neg h6) hw
              by_cases h7 : x1 = 6
              · have hw := Eq.mp (if_pos h7) hw
                refine pa_tswIn hE dX6_count_1 (z := 6) h7 (by decide) (by decide) rfl (tgt := 89) (by decide) ?_
                refine pa_aload_n hE dX6_count_89 rfl 0 rfl ?_
                refine pg_0_13 hE (pa_m1 209 rfl rfl) dX6_count_90 ?_
                refine pa_callVri hE (ct_X0_ran l g D q u0 _ hw) cv_RX6_281 pa_in17 rfl rfl rfl (pa_hR (by omega) (by decide)) rfl (Nat.le_of_ble_eq_true rfl) dX6_count_93 (fun r9 hw => ?_)
                exact pa_iret hE hr ⟨rfl, hw⟩ rfl dX6_count_96
              · have hw := Eq.mp (if_neg h7) hw
                refine pa_tswOut hE dX6_count_1 (by have eh1 := pa_neL h1 (by decide : (0 : Int32).toInt = 0); have eh2 := pa_neL h2 (by decide : (1 : Int32).toInt = 1); have eh3 := pa_neL h3 (by decide : (2 : Int32).toInt = 2); have eh4 := pa_neL h4 (by decide : (3 : Int32).toInt = 3); have eh5 := pa_neL h5 (by decide : (4 : Int32).toInt = 4); have eh6 := pa_neL h6 (by decide : (5 : Int32).toInt = 5); have eh7 := pa_neL h7 (by decide : (6 : Int32).toInt = 6); omega) (tgt := 97) (by decide) ?_
                refine pa_bipush hE dX6_count_97 (v := (-2 : Int32)) (by decide) ?_
                exact pa_iret hE hr ⟨rfl, hw⟩ rfl dX6_count_99
def wp_X6_count (u0 : pa_S) (x1 : Int32) (post : Int32 → Prop) : Prop := wb_X6_count_0 u0 x1 post
theorem ct_X6_count (l : Launch) (g : pa_G) (D : va_G) (q : Nat → Nat → Nat) (u0 : pa_S) (x1 : Int32) (post : Int32 → Prop)  (hw : wp_X6_count u0 x1 post) : pa_Ct l yX6_count cX6_count 2 (some .int) 3 g D q u0 [.ref (q 0 0), .int x1] (fun r => some (.int r)) (fun r u => u = u0 ∧ post r) := pa_met rfl rfl (Nat.le_of_ble_eq_true rfl) rfl (fun p e s m args below meth c A hE hr => tb_X6_count_0 hE hr  hw)
def wb_X6_tape_0 (u0 : pa_S) (x1 : Int32) (x2 : Int32) (x3 : Int32) (post : Int32 → pa_S → Prop) : Prop :=
  (wp_X6_isTape u0 x1 (fun (r1 : Int32) => (if r1 = 0 then post (-1 : Int32) u0 else (wp_X6_within u0 x2 (-1 : Int32) 4 (fun (r3 : Int32) => (if r3 = 0 then post (-2 : Int32) u0 else (if x2 = (-1 : Int32) then (vp_in x1 6) ∧ (wp_X4_become u0 (x1.toNatClampNeg) x2 0 (fun (u13 : pa_S) => post 1 u13)) else (if x3 ≤ 60 then (if 0 ≤ x3 then (vp_in x1 6) ∧ (wp_X4_become u0 (x1.toNatClampNeg) x2 x3 (fun (u10 : pa_S) => post 1 u10)) else post (-14 : Int32) u0) else post (-2 : Int32) u0))))))))
set_option maxRecDepth 100000 in
set_option maxHeartbeats 4000000 in
theorem tb_X6_tape_0 {p : Program} {l : Launch} {e : Env} {s : State} {m : MethodId} {args : Array Value} {below : List Frame} {meth : Method} {c : Code} {A : Nat → Prop} {D : va_G} {g : pa_G} {q : Nat → Nat → Nat} {u0 : pa_S} {x1 : Int32} {x2 : Int32} {x3 : Int32} {post : Int32 → pa_S → Prop} (hE : pa_Fx p s m args meth c A D g 4 cX6_tape RX6) (hr : meth.sig.returnType = (some .int)) (hw : wb_X6_tape_0 u0 x1 x2 x3 post) : pa_At p l e (pa_rm 4) s m args below meth c (MQ below (pa_Qc g D q (fun r => some (.int r)) post A) args s 0 0 A) A D g 4 0 0 q u0 0 [(0, .ref (q 0 0)), (1, .int x1), (2, .int x2), (3, .int x3)] [] := by
  refine pa_iload_n hE dX6_tape_0 rfl 1 rfl ?_
  refine pa_callSri hE (ct_X6_isTape l g D q u0 x1 _ hw) cs_RX6_240 rfl (pa_hR (by omega) (by decide)) rfl (Nat.le_of_ble_eq_true rfl) dX6_tape_1 (fun r1 hw => ?_)
  refine pa_if_ne hE dX6_tape_4 (tgt := 9) (by decide) (fun h2 => ?_) (fun h2 => ?_)
  · have hw := Eq.mp (if_neg h2) hw
    refine pa_iload_n hE dX6_tape_9 rfl 2 rfl ?_
    refine pa_iconst hE dX6_tape_10 (v := (-1 : Int32)) (by decide) ?_
    refine pa_iconst hE dX6_tape_11 (v := 4) (by decide) ?_
    refine pa_callSri hE (ct_X6_within l g D q u0 x2 (-1 : Int32) 4 _ hw) cs_RX6_79 rfl (pa_hR (by omega) (by decide)) rfl (Nat.le_of_ble_eq_true rfl) dX6_tape_12 (fun r3 hw => ?_)
    refine pa_if_ne hE dX6_tape_15 (tgt := 21) (by decide) (fun h4 => ?_) (fun h4 => ?_)
    · have hw := Eq.mp (if_neg h4) hw
      refine pa_iload_n hE dX6_tape_21 rfl 2 rfl ?_
      refine pa_iconst hE dX6_tape_22 (v := (-1 : Int32)) (by decide) ?_
      refine pa_icmp_ne hE dX6_tape_23 (tgt := 39) (by decide) (fun h5 => ?_) (fun h5 => ?_)
      · have hw := Eq.mp (if_neg h5) hw
        refine pa_iload_n hE dX6_tape_39 rfl 3 rfl ?_
        refine pa_bipush hE dX6_tape_40 (v := 60) (by decide) ?_
        refine pa_icmp_le hE dX6_tape_42 (tgt := 48) (by decide) (fun h6 => ?_) (fun h6 => ?_)
        · have hw := Eq.mp (if_pos h6) hw
          refine pa_iload_n hE dX6_tape_48 rfl 3 rfl ?_
          refine pa_if_ge hE dX6_tape_49 (tgt := 55) (by decide) (fun h7 => ?_) (fun h7 => ?_)
          · have hw := Eq.mp (if_pos h7) hw
            refine pa_aload_n hE dX6_tape_55 rfl 0 rfl ?_
            refine pg_0_14 hE (pa_m1 210 rfl rfl) dX6_tape_56 ?_
            refine pa_iload_n hE dX6_tape_59 rfl 1 rfl ?_
            obtain ⟨h8, hw⟩ := hw
            refine pa_aaldT hE h8 (n := (x1.toNatClampNeg)) rfl dX6_tape_60 ?_
            refine pa_iload_n hE dX6_tape_61 rfl 2 rfl ?_
            refine pa_iload_n hE dX6_tape_62 rfl 3 rfl ?_
            refine pa_callVv hE (ct_X4_become l g D q u0 (x1.toNatClampNeg) x2 x3 _ (pa_inlt h8) hw) cv_RX6_284 (pa_in19 (pa_inlt h8)) rfl rfl rfl (pa_hR (by omega) (by decide)) rfl (Nat.le_of_ble_eq_true rfl) dX6_tape_63 (fun u10 hw => ?_)
            refine pa_iconst hE dX6_tape_66 (v := 1) (by decide) ?_
            exact pa_iret hE hr hw rfl dX6_tape_67
          · have hw := Eq.mp (if_neg h7) hw
            refine pa_bipush hE dX6_tape_52 (v := (-14 : Int32)) (by decide) ?_
            exact pa_iret hE hr hw rfl dX6_tape_54
        · have hw := Eq.mp (if_neg h6) hw
          refine pa_bipush hE dX6_tape_45 (v := (-2 : Int32)) (by decide) ?_
          exact pa_iret hE hr hw rfl dX6_tape_47
      · have hw := Eq.mp (if_pos h5) hw
        refine pa_aload_n hE dX6_tape_26 rfl 0 rfl ?_
        refine pg_0_14 hE (pa_m1 210 rfl rfl) dX6_tape_27 ?_
        refine pa_iload_n hE dX6_tape_30 rfl 1 rfl ?_
        obtain ⟨h11, hw⟩ := hw
        refine pa_aaldT hE h11 (n := (x1.toNatClampNeg)) rfl dX6_tape_31 ?_
        refine pa_iload_n hE dX6_tape_32 rfl 2 rfl ?_
        refine pa_iconst hE dX6_tape_33 (v := 0) (by decide) ?_
        refine pa_callVv hE (ct_X4_become l g D q u0 (x1.toNatClampNeg) x2 0 _ (pa_inlt h11) hw) cv_RX6_284 (pa_in19 (pa_inlt h11)) rfl rfl rfl (pa_hR (by omega) (by decide)) rfl (Nat.le_of_ble_eq_true rfl) dX6_tape_34 (fun u13 hw => ?_)
        refine pa_iconst hE dX6_tape_37 (v := 1) (by decide) ?_
        exact pa_iret hE hr hw rfl dX6_tape_38
    · have hw := Eq.mp (if_pos h4) hw
      refine pa_bipush hE dX6_tape_18 (v := (-2 : Int32)) (by decide) ?_
      exact pa_iret hE hr hw rfl dX6_tape_20
  · have hw := Eq.mp (if_pos h2) hw
    refine pa_iconst hE dX6_tape_7 (v := (-1 : Int32)) (by decide) ?_
    exact pa_iret hE hr hw rfl dX6_tape_8
def wp_X6_tape (u0 : pa_S) (x1 : Int32) (x2 : Int32) (x3 : Int32) (post : Int32 → pa_S → Prop) : Prop := wb_X6_tape_0 u0 x1 x2 x3 post
theorem ct_X6_tape (l : Launch) (g : pa_G) (D : va_G) (q : Nat → Nat → Nat) (u0 : pa_S) (x1 : Int32) (x2 : Int32) (x3 : Int32) (post : Int32 → pa_S → Prop)  (hw : wp_X6_tape u0 x1 x2 x3 post) : pa_Ct l yX6_tape cX6_tape 4 (some .int) 4 g D q u0 [.ref (q 0 0), .int x1, .int x2, .int x3] (fun r => some (.int r)) post := pa_met rfl rfl (Nat.le_of_ble_eq_true rfl) rfl (fun p e s m args below meth c A hE hr => tb_X6_tape_0 hE hr  hw)
def wb_X6_item_0 (u0 : pa_S) (x1 : Int32) (x2 : Int32) (x3 : Int64) (post : Int32 → pa_S → Prop) : Prop :=
  (wp_X6_isTape u0 x1 (fun (r1 : Int32) => (if r1 = 0 then post (-1 : Int32) u0 else (vp_in x1 6) ∧ (wp_X4_holdsNothing u0 (x1.toNatClampNeg) (fun (r4 : Int32) => (if r4 = 0 then (vp_in x1 6) ∧ (wp_X4_hasPlace u0 (x1.toNatClampNeg) x2 (fun (r7 : Int32) => (if r7 = 0 then post (-13 : Int32) u0 else (vp_in x1 6) ∧ (wp_X4_put u0 (x1.toNatClampNeg) x2 x3 (fun (u11 : pa_S) => post 1 u11))))) else post (-11 : Int32) u0))))))
set_option maxRecDepth 100000 in
set_option maxHeartbeats 4000000 in
theorem tb_X6_item_0 {p : Program} {l : Launch} {e : Env} {s : State} {m : MethodId} {args : Array Value} {below : List Frame} {meth : Method} {c : Code} {A : Nat → Prop} {D : va_G} {g : pa_G} {q : Nat → Nat → Nat} {u0 : pa_S} {x1 : Int32} {x2 : Int32} {x3 : Int64} {post : Int32 → pa_S → Prop} (hE : pa_Fx p s m args meth c A D g 5 cX6_item RX6) (hr : meth.sig.returnType = (some .int)) (hw : wb_X6_item_0 u0 x1 x2 x3 post) : pa_At p l e (pa_rm 4) s m args below meth c (MQ below (pa_Qc g D q (fun r => some (.int r)) post A) args s 0 0 A) A D g 5 0 0 q u0 0 [(0, .ref (q 0 0)), (1, .int x1), (2, .int x2), (3, .long x3)] [] := by
  refine pa_iload_n hE dX6_item_0 rfl 1 rfl ?_
  refine pa_callSri hE (ct_X6_isTape l g D q u0 x1 _ hw) cs_RX6_240 rfl (pa_hR (by omega) (by decide)) rfl (Nat.le_of_ble_eq_true rfl) dX6_item_1 (fun r1 hw => ?_)
  refine pa_if_ne hE dX6_item_4 (tgt := 9) (by decide) (fun h2 => ?_) (fun h2 => ?_)
  · have hw := Eq.mp (if_neg h2) hw
    refine pa_aload_n hE dX6_item_9 rfl 0 rfl ?_
    refine pg_0_14 hE (pa_m1 210 rfl rfl) dX6_item_10 ?_
    refine pa_iload_n hE dX6_item_13 rfl 1 rfl ?_
    obtain ⟨h3, hw⟩ := hw
    refine pa_aaldT hE h3 (n := (x1.toNatClampNeg)) rfl dX6_item_14 ?_
    refine pa_callVri hE (ct_X4_holdsNothing l g D q u0 (x1.toNatClampNeg) _ (pa_inlt h3) hw) cv_RX6_243 (pa_in19 (pa_inlt h3)) rfl rfl rfl (pa_hR (by omega) (by decide)) rfl (Nat.le_of_ble_eq_true rfl) dX6_item_15 (fun r4 hw => ?_)
    refine pa_if_eq hE dX6_item_18 (tgt := 24) (by decide) (fun h5 => ?_) (fun h5 => ?_)
    · have hw := Eq.mp (if_pos h5) hw
      refine pa_aload_n hE dX6_item_24 rfl 0 rfl ?_
      refine pg_0_14 hE (pa_m1 210 rfl rfl) dX6_item_25 ?_
      refine pa_iload_n hE dX6_item_28 rfl 1 rfl ?_
      obtain ⟨h6, hw⟩ := hw
      refine pa_aaldT hE h6 (n := (x1.toNatClampNeg)) rfl dX6_item_29 ?_
      refine pa_iload_n hE dX6_item_30 rfl 2 rfl ?_
      refine pa_callVri hE (ct_X4_hasPlace l g D q u0 (x1.toNatClampNeg) x2 _ (pa_inlt h6) hw) cv_RX6_249 (pa_in19 (pa_inlt h6)) rfl rfl rfl (pa_hR (by omega) (by decide)) rfl (Nat.le_of_ble_eq_true rfl) dX6_item_31 (fun r7 hw => ?_)
      refine pa_if_ne hE dX6_item_34 (tgt := 40) (by decide) (fun h8 => ?_) (fun h8 => ?_)
      · have hw := Eq.mp (if_neg h8) hw
        refine pa_aload_n hE dX6_item_40 rfl 0 rfl ?_
        refine pg_0_14 hE (pa_m1 210 rfl rfl) dX6_item_41 ?_
        refine pa_iload_n hE dX6_item_44 rfl 1 rfl ?_
        obtain ⟨h9, hw⟩ := hw
        refine pa_aaldT hE h9 (n := (x1.toNatClampNeg)) rfl dX6_item_45 ?_
        refine pa_iload_n hE dX6_item_46 rfl 2 rfl ?_
        refine pa_lload_n hE dX6_item_47 rfl 3 rfl ?_
        refine pa_callVv hE (ct_X4_put l g D q u0 (x1.toNatClampNeg) x2 x3 _ (pa_inlt h9) hw) cv_RX6_286 (pa_in19 (pa_inlt h9)) rfl rfl rfl (pa_hR (by omega) (by decide)) rfl (Nat.le_of_ble_eq_true rfl) dX6_item_48 (fun u11 hw => ?_)
        refine pa_iconst hE dX6_item_51 (v := 1) (by decide) ?_
        exact pa_iret hE hr hw rfl dX6_item_52
      · have hw := Eq.mp (if_pos h8) hw
        refine pa_bipush hE dX6_item_37 (v := (-13 : Int32)) (by decide) ?_
        exact pa_iret hE hr hw rfl dX6_item_39
    · have hw := Eq.mp (if_neg h5) hw
      refine pa_bipush hE dX6_item_21 (v := (-11 : Int32)) (by decide) ?_
      exact pa_iret hE hr hw rfl dX6_item_23
  · have hw := Eq.mp (if_pos h2) hw
    refine pa_iconst hE dX6_item_7 (v := (-1 : Int32)) (by decide) ?_
    exact pa_iret hE hr hw rfl dX6_item_8
def wp_X6_item (u0 : pa_S) (x1 : Int32) (x2 : Int32) (x3 : Int64) (post : Int32 → pa_S → Prop) : Prop := wb_X6_item_0 u0 x1 x2 x3 post
theorem ct_X6_item (l : Launch) (g : pa_G) (D : va_G) (q : Nat → Nat → Nat) (u0 : pa_S) (x1 : Int32) (x2 : Int32) (x3 : Int64) (post : Int32 → pa_S → Prop)  (hw : wp_X6_item u0 x1 x2 x3 post) : pa_Ct l yX6_item cX6_item 5 (some .int) 4 g D q u0 [.ref (q 0 0), .int x1, .int x2, .long x3] (fun r => some (.int r)) post := pa_met rfl rfl (Nat.le_of_ble_eq_true rfl) rfl (fun p e s m args below meth c A hE hr => tb_X6_item_0 hE hr  hw)
def wb_X6_read_0 (u0 : pa_S) (x1 : Int32) (x2 : Int32) (post : Int64 → Prop) : Prop :=
  (wp_X6_isTape u0 x1 (fun (r1 : Int32) => (if r1 = 0 then post (-9223372036854775808 : Int64) else (vp_in x1 6) ∧ (wp_X4_hasPlace u0 (x1.toNatClampNeg) x2 (fun (r4 : Int32) => (if r4 = 0 then post (-9223372036854775808 : Int64) else (vp_in x1 6) ∧ (wp_X4_at u0 (x1.toNatClampNeg) x2 (fun (r7 : Int64) => post r7))))))))
set_option maxRecDepth 100000 in
set_option maxHeartbeats 4000000 in
theorem tb_X6_read_0 {p : Program} {l : Launch} {e : Env} {s : State} {m : MethodId} {args : Array Value} {below : List Frame} {meth : Method} {c : Code} {A : Nat → Prop} {D : va_G} {g : pa_G} {q : Nat → Nat → Nat} {u0 : pa_S} {x1 : Int32} {x2 : Int32} {post : Int64 → Prop} (hE : pa_Fx p s m args meth c A D g 3 cX6_read RX6) (hr : meth.sig.returnType = (some .long)) (hw : wb_X6_read_0 u0 x1 x2 post) : pa_At p l e (pa_rm 4) s m args below meth c (MQ below (pa_Qc g D q (fun r => some (.long r)) (fun r u => u = u0 ∧ post r) A) args s 0 0 A) A D g 3 0 0 q u0 0 [(0, .ref (q 0 0)), (1, .int x1), (2, .int x2)] [] := by
  refine pa_iload_n hE dX6_read_0 rfl 1 rfl ?_
  refine pa_callSri hE (ct_X6_isTape l g D q u0 x1 _ hw) cs_RX6_240 rfl (pa_hR (by omega) (by decide)) rfl (Nat.le_of_ble_eq_true rfl) dX6_read_1 (fun r1 hw => ?_)
  refine pa_if_eq hE dX6_read_4 (tgt := 20) (by decide) (fun h2 => ?_) (fun h2 => ?_)
  · have hw := Eq.mp (if_pos h2) hw
    refine pa_ldc2 hE dX6_read_20 (v := (-9223372036854775808 : Int64)) (pa_m3 203 rfl rfl) ?_
    exact pa_lret hE hr ⟨rfl, hw⟩ rfl dX6_read_23
  · have hw := Eq.mp (if_neg h2) hw
    refine pa_aload_n hE dX6_read_7 rfl 0 rfl ?_
    refine pg_0_14 hE (pa_m1 210 rfl rfl) dX6_read_8 ?_
    refine pa_iload_n hE dX6_read_11 rfl 1 rfl ?_
    obtain ⟨h3, hw⟩ := hw
    refine pa_aaldT hE h3 (n := (x1.toNatClampNeg)) rfl dX6_read_12 ?_
    refine pa_iload_n hE dX6_read_13 rfl 2 rfl ?_
    refine pa_callVri hE (ct_X4_hasPlace l g D q u0 (x1.toNatClampNeg) x2 _ (pa_inlt h3) hw) cv_RX6_249 (pa_in19 (pa_inlt h3)) rfl rfl rfl (pa_hR (by omega) (by decide)) rfl (Nat.le_of_ble_eq_true rfl) dX6_read_14 (fun r4 hw => ?_)
    refine pa_if_ne hE dX6_read_17 (tgt := 24) (by decide) (fun h5 => ?_) (fun h5 => ?_)
    · have hw := Eq.mp (if_neg h5) hw
      refine pa_aload_n hE dX6_read_24 rfl 0 rfl ?_
      refine pg_0_14 hE (pa_m1 210 rfl rfl) dX6_read_25 ?_
      refine pa_iload_n hE dX6_read_28 rfl 1 rfl ?_
      obtain ⟨h6, hw⟩ := hw
      refine pa_aaldT hE h6 (n := (x1.toNatClampNeg)) rfl dX6_read_29 ?_
      refine pa_iload_n hE dX6_read_30 rfl 2 rfl ?_
      refine pa_callVrl hE (ct_X4_at l g D q u0 (x1.toNatClampNeg) x2 _ (pa_inlt h6) hw) cv_RX6_252 (pa_in19 (pa_inlt h6)) rfl rfl rfl (pa_hR (by omega) (by decide)) rfl (Nat.le_of_ble_eq_true rfl) dX6_read_31 (fun r7 hw => ?_)
      exact pa_lret hE hr ⟨rfl, hw⟩ rfl dX6_read_34
    · have hw := Eq.mp (if_pos h5) hw
      refine pa_ldc2 hE dX6_read_20 (v := (-9223372036854775808 : Int64)) (pa_m3 203 rfl rfl) ?_
      exact pa_lret hE hr ⟨rfl, hw⟩ rfl dX6_read_23
def wp_X6_read (u0 : pa_S) (x1 : Int32) (x2 : Int32) (post : Int64 → Prop) : Prop := wb_X6_read_0 u0 x1 x2 post
theorem ct_X6_read (l : Launch) (g : pa_G) (D : va_G) (q : Nat → Nat → Nat) (u0 : pa_S) (x1 : Int32) (x2 : Int32) (post : Int64 → Prop)  (hw : wp_X6_read u0 x1 x2 post) : pa_Ct l yX6_read cX6_read 3 (some .long) 4 g D q u0 [.ref (q 0 0), .int x1, .int x2] (fun r => some (.long r)) (fun r u => u = u0 ∧ post r) := pa_met rfl rfl (Nat.le_of_ble_eq_true rfl) rfl (fun p e s m args below meth c A hE hr => tb_X6_read_0 hE hr  hw)
def wb_X6_shift_0 (u0 : pa_S) (x1 : Int32) (x2 : Int32) (x3 : Int32) (x4 : Int32) (x5 : Int32) (post : Int32 → pa_S → Prop) : Prop :=
  (wp_X6_isTape u0 x1 (fun (r1 : Int32) => (if r1 = 0 then post (-1 : Int32) u0 else (wp_X6_isTape u0 x3 (fun (r3 : Int32) => (if r3 = 0 then post (-1 : Int32) u0 else (vp_in x1 6) ∧ (vp_in x3 6) ∧ (wp_X4_holdsNothing u0 (x1.toNatClampNeg) (fun (r7 : Int32) => (if r7 = 0 then (wp_X4_holdsNothing u0 (x3.toNatClampNeg) (fun (r9 : Int32) => (if r9 = 0 then (if (pa_I u0 19 (x1.toNatClampNeg) 1) = (pa_I u0 19 (x3.toNatClampNeg) 1) then (wp_X4_hasSpan u0 (x1.toNatClampNeg) x2 x5 (fun (r12 : Int32) => (if r12 = 0 then post (-13 : Int32) u0 else (wp_X4_hasSpan u0 (x3.toNatClampNeg) x4 x5 (fun (r14 : Int32) => (if r14 = 0 then post (-13 : Int32) u0 else (¬ x2 < 0) ∧ (¬ x4 < 0) ∧ (¬ x5 < 0) ∧ (x2.toNatClampNeg + x5.toNatClampNeg ≤ 60) ∧ (x4.toNatClampNeg + x5.toNatClampNeg ≤ 60) ∧ ∀ u21 : pa_S, u21 = pa_sL u0 20 (x3.toNatClampNeg) (va_cpy (pa_L u0 20 (x1.toNatClampNeg)) (pa_L u0 20 (x3.toNatClampNeg)) x2.toNatClampNeg x4.toNatClampNeg x5.toNatClampNeg) → post x5 u21)))))) else post (-12 : Int32) u0) else post (-11 : Int32) u0))) else post (-11 : Int32) u0)))))))))
set_option maxRecDepth 100000 in
set_option maxHeartbeats 4000000 in
theorem tb_X6_shift_0 {p : Program} {l : Launch} {e : Env} {s : State} {m : MethodId} {args : Array Value} {below : List Frame} {meth : Method} {c : Code} {A : Nat → Prop} {D : va_G} {g : pa_G} {q : Nat → Nat → Nat} {u0 : pa_S} {x1 : Int32} {x2 : Int32} {x3 : Int32} {x4 : Int32} {x5 : Int32} {post : Int32 → pa_S → Prop} (hE : pa_Fx p s m args meth c A D g 8 cX6_shift RX6) (hr : meth.sig.returnType = (some .int)) (hw : wb_X6_shift_0 u0 x1 x2 x3 x4 x5 post) : pa_At p l e (pa_rm 4) s m args below meth c (MQ below (pa_Qc g D q (fun r => some (.int r)) post A) args s 0 0 A) A D g 8 0 0 q u0 0 [(0, .ref (q 0 0)), (1, .int x1), (2, .int x2), (3, .int x3), (4, .int x4), (5, .int x5)] [] := by
  refine pa_iload_n hE dX6_shift_0 rfl 1 rfl ?_
  refine pa_callSri hE (ct_X6_isTape l g D q u0 x1 _ hw) cs_RX6_240 rfl (pa_hR (by omega) (by decide)) rfl (Nat.le_of_ble_eq_true rfl) dX6_shift_1 (fun r1 hw => ?_)
  refine pa_if_eq hE dX6_shift_4 (tgt := 14) (by decide) (fun h2 => ?_) (fun h2 => ?_)
  · have hw := Eq.mp (if_pos h2) hw
    refine pa_iconst hE dX6_shift_14 (v := (-1 : Int32)) (by decide) ?_
    exact pa_iret hE hr hw rfl dX6_shift_15
  · have hw := Eq.mp (if_neg h2) hw
    refine pa_iload_n hE dX6_shift_7 rfl 3 rfl ?_
    refine pa_callSri hE (ct_X6_isTape l g D q u0 x3 _ hw) cs_RX6_240 rfl (pa_hR (by omega) (by decide)) rfl (Nat.le_of_ble_eq_true rfl) dX6_shift_8 (fun r3 hw => ?_)
    refine pa_if_ne hE dX6_shift_11 (tgt := 16) (by decide) (fun h4 => ?_) (fun h4 => ?_)
    · have hw := Eq.mp (if_neg h4) hw
      refine pa_aload_n hE dX6_shift_16 rfl 0 rfl ?_
      refine pg_0_14 hE (pa_m1 210 rfl rfl) dX6_shift_17 ?_
      refine pa_iload_n hE dX6_shift_20 rfl 1 rfl ?_
      obtain ⟨h5, hw⟩ := hw
      refine pa_aaldT hE h5 (n := (x1.toNatClampNeg)) rfl dX6_shift_21 ?_
      refine pa_astore hE dX6_shift_22 (by decide) (lvr := [(0, .ref (q 0 0)), (1, .int x1), (2, .int x2), (3, .int x3), (4, .int x4), (5, .int x5)]) rfl ?_
      refine pa_aload_n hE dX6_shift_24 rfl 1 rfl ?_
      refine pg_0_14 hE (pa_m1 210 rfl rfl) dX6_shift_25 ?_
      refine pa_iload_n hE dX6_shift_28 rfl 4 rfl ?_
      obtain ⟨h6, hw⟩ := hw
      refine pa_aaldT hE h6 (n := (x3.toNatClampNeg)) rfl dX6_shift_29 ?_
      refine pa_astore hE dX6_shift_30 (by decide) (lvr := [(6, .ref (q 19 (x1.toNatClampNeg))), (0, .ref (q 0 0)), (1, .int x1), (2, .int x2), (3, .int x3), (4, .int x4), (5, .int x5)]) rfl ?_
      refine pa_aload hE dX6_shift_32 1 rfl ?_
      refine pa_callVri hE (ct_X4_holdsNothing l g D q u0 (x1.toNatClampNeg) _ (pa_inlt h5) hw) cv_RX6_243 (pa_in19 (pa_inlt h5)) rfl rfl rfl (pa_hR (by omega) (by decide)) rfl (Nat.le_of_ble_eq_true rfl) dX6_shift_34 (fun r7 hw => ?_)
      refine pa_if_ne hE dX6_shift_37 (tgt := 48) (by decide) (fun h8 => ?_) (fun h8 => ?_)
      · have hw := Eq.mp (if_neg h8) hw
        refine pa_bipush hE dX6_shift_48 (v := (-11 : Int32)) (by decide) ?_
        exact pa_iret hE hr hw rfl dX6_shift_50
      · have hw := Eq.mp (if_pos h8) hw
        refine pa_aload hE dX6_shift_40 0 rfl ?_
        refine pa_callVri hE (ct_X4_holdsNothing l g D q u0 (x3.toNatClampNeg) _ (pa_inlt h6) hw) cv_RX6_243 (pa_in19 (pa_inlt h6)) rfl rfl rfl (pa_hR (by omega) (by decide)) rfl (Nat.le_of_ble_eq_true rfl) dX6_shift_42 (fun r9 hw => ?_)
        refine pa_if_eq hE dX6_shift_45 (tgt := 51) (by decide) (fun h10 => ?_) (fun h10 => ?_)
        · have hw := Eq.mp (if_pos h10) hw
          refine pa_aload hE dX6_shift_51 1 rfl ?_
          refine pg_19_1 (pa_in19 (pa_inlt h5)) hE (pa_m1 186 rfl rfl) dX6_shift_53 ?_
          refine pa_aload hE dX6_shift_56 0 rfl ?_
          refine pg_19_1 (pa_in19 (pa_inlt h6)) hE (pa_m1 186 rfl rfl) dX6_shift_58 ?_
          refine pa_icmp_eq hE dX6_shift_61 (tgt := 67) (by decide) (fun h11 => ?_) (fun h11 => ?_)
          · have hw := Eq.mp (if_pos h11) hw
            refine pa_aload hE dX6_shift_67 1 rfl ?_
            refine pa_iload_n hE dX6_shift_69 rfl 4 rfl ?_
            refine pa_iload hE dX6_shift_70 7 rfl ?_
            refine pa_callVri hE (ct_X4_hasSpan l g D q u0 (x1.toNatClampNeg) x2 x5 _ (pa_inlt h5) hw) cv_RX6_290 (pa_in19 (pa_inlt h5)) rfl rfl rfl (pa_hR (by omega) (by decide)) rfl (Nat.le_of_ble_eq_true rfl) dX6_shift_72 (fun r12 hw => ?_)
            refine pa_if_eq hE dX6_shift_75 (tgt := 90) (by decide) (fun h13 => ?_) (fun h13 => ?_)
            · have hw := Eq.mp (if_pos h13) hw
              refine pa_bipush hE dX6_shift_90 (v := (-13 : Int32)) (by decide) ?_
              exact pa_iret hE hr hw rfl dX6_shift_92
            · have hw := Eq.mp (if_neg h13) hw
              refine pa_aload hE dX6_shift_78 0 rfl ?_
              refine pa_iload hE dX6_shift_80 6 rfl ?_
              refine pa_iload hE dX6_shift_82 7 rfl ?_
              refine pa_callVri hE (ct_X4_hasSpan l g D q u0 (x3.toNatClampNeg) x4 x5 _ (pa_inlt h6) hw) cv_RX6_290 (pa_in19 (pa_inlt h6)) rfl rfl rfl (pa_hR (by omega) (by decide)) rfl (Nat.le_of_ble_eq_true rfl) dX6_shift_84 (fun r14 hw => ?_)
              refine pa_if_ne hE dX6_shift_87 (tgt := 93) (by decide) (fun h15 => ?_) (fun h15 => ?_)
              · have hw := Eq.mp (if_neg h15) hw
                refine pa_aload hE dX6_shift_93 1 rfl ?_
                refine pg_19_0 (pa_in19 (pa_inlt h5)) hE (pa_m1 184 rfl rfl) dX6_shift_95 ?_
                refine pa_iload_n hE dX6_shift_98 rfl 4 rfl ?_
                refine pa_aload hE dX6_shift_99 0 rfl ?_
                refine pg_19_0 (pa_in19 (pa_inlt h6)) hE (pa_m1 184 rfl rfl) dX6_shift_101 ?_
                refine pa_iload hE dX6_shift_104 6 rfl ?_
                refine pa_iload hE dX6_shift_106 7 rfl ?_
                obtain ⟨h16, hw⟩ := hw
                obtain ⟨h17, hw⟩ := hw
                obtain ⟨h18, hw⟩ := hw
                obtain ⟨h19, hw⟩ := hw
                obtain ⟨h20, hw⟩ := hw
                refine pa_copyl hE ca_RX6_297 (pa_in20 (pa_inlt h5)) (pa_in20 (pa_inlt h6)) (hc := rfl) (hc2 := fun _ => rfl) h16 h17 h18 h19 h20 (pa_hRc (by omega)) (Nat.le_of_ble_eq_true rfl) dX6_shift_108 (fun u21 eu21 => ?_)
                have hw := hw u21 eu21
                refine pa_iload hE dX6_shift_111 7 rfl ?_
                exact pa_iret hE hr hw rfl dX6_shift_113
              · have hw := Eq.mp (if_pos h15) hw
                refine pa_bipush hE dX6_shift_90 (v := (-13 : Int32)) (by decide) ?_
                exact pa_iret hE hr hw rfl dX6_shift_92
          · have hw := Eq.mp (if_neg h11) hw
            refine pa_bipush hE dX6_shift_64 (v := (-12 : Int32)) (by decide) ?_
            exact pa_iret hE hr hw rfl dX6_shift_66
        · have hw := Eq.mp (if_neg h10) hw
          refine pa_bipush hE dX6_shift_48 (v := (-11 : Int32)) (by decide) ?_
          exact pa_iret hE hr hw rfl dX6_shift_50
    · have hw := Eq.mp (if_pos h4) hw
      refine pa_iconst hE dX6_shift_14 (v := (-1 : Int32)) (by decide) ?_
      exact pa_iret hE hr hw rfl dX6_shift_15
def wp_X6_shift (u0 : pa_S) (x1 : Int32) (x2 : Int32) (x3 : Int32) (x4 : Int32) (x5 : Int32) (post : Int32 → pa_S → Prop) : Prop := wb_X6_shift_0 u0 x1 x2 x3 x4 x5 post
theorem ct_X6_shift (l : Launch) (g : pa_G) (D : va_G) (q : Nat → Nat → Nat) (u0 : pa_S) (x1 : Int32) (x2 : Int32) (x3 : Int32) (x4 : Int32) (x5 : Int32) (post : Int32 → pa_S → Prop)  (hw : wp_X6_shift u0 x1 x2 x3 x4 x5 post) : pa_Ct l yX6_shift cX6_shift 8 (some .int) 4 g D q u0 [.ref (q 0 0), .int x1, .int x2, .int x3, .int x4, .int x5] (fun r => some (.int r)) post := pa_met rfl rfl (Nat.le_of_ble_eq_true rfl) rfl (fun p e s m args below meth c A hE hr => tb_X6_shift_0 hE hr  hw)
