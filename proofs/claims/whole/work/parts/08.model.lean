
theorem cv_RX7_221 : pa_CV RX7 RX7 221 yX7_in cX7_in 4 (some .boolean) 3 := ⟨⟨rfl, by decide +kernel, by decide +kernel, by decide +kernel⟩, pa_m5 94 rfl rfl, pa_m5 96 rfl rfl, pa_ms2 9 rfl rfl, pa_m1 10 rfl rfl, pa_m5 97 rfl rfl⟩
theorem cv_RX7_225 : pa_CV RX7 RX7 225 yX7_isLength cX7_isLength 2 (some .boolean) 1 := ⟨⟨rfl, by decide +kernel, by decide +kernel, by decide +kernel⟩, pa_m5 98 rfl rfl, pa_m5 100 rfl rfl, pa_ms2 10 rfl rfl, pa_m1 10 rfl rfl, pa_m5 101 rfl rfl⟩
theorem cv_RX7_229 : pa_CV RX7 RX7 229 yX7_isHand cX7_isHand 2 (some .boolean) 1 := ⟨⟨rfl, by decide +kernel, by decide +kernel, by decide +kernel⟩, pa_m5 106 rfl rfl, pa_m5 108 rfl rfl, pa_ms2 11 rfl rfl, pa_m1 10 rfl rfl, pa_m5 109 rfl rfl⟩
theorem cv_RX7_232 : pa_CV RX7 RX7 232 yX7_isLine cX7_isLine 2 (some .boolean) 1 := ⟨⟨rfl, by decide +kernel, by decide +kernel, by decide +kernel⟩, pa_m5 110 rfl rfl, pa_m5 112 rfl rfl, pa_ms2 12 rfl rfl, pa_m1 10 rfl rfl, pa_m5 113 rfl rfl⟩
theorem cv_RX7_235 : pa_CV RX7 RX7 235 yX7_next cX7_next 1 (some .int) 0 := ⟨⟨rfl, by decide +kernel, by decide +kernel, by decide +kernel⟩, pa_m5 142 rfl rfl, pa_m5 144 rfl rfl, pa_ms3 0 rfl rfl, pa_m1 10 rfl rfl, pa_m5 145 rfl rfl⟩
theorem cv_RX7_239 : pa_CV RX7 RX7 239 yX7_takes cX7_takes 2 (some .boolean) 1 := ⟨⟨rfl, by decide +kernel, by decide +kernel, by decide +kernel⟩, pa_m5 150 rfl rfl, pa_m5 152 rfl rfl, pa_ms3 2 rfl rfl, pa_m1 10 rfl rfl, pa_m5 153 rfl rfl⟩
theorem cv_RX7_242 : pa_CV RX7 RX7 242 yX7_isDigit cX7_isDigit 1 (some .boolean) 0 := ⟨⟨rfl, by decide +kernel, by decide +kernel, by decide +kernel⟩, pa_m5 158 rfl rfl, pa_m5 160 rfl rfl, pa_ms3 4 rfl rfl, pa_m1 10 rfl rfl, pa_m5 161 rfl rfl⟩
theorem cv_RX7_246 : pa_CV RX7 RX7 246 yX7_emits cX7_emits 2 none 1 := ⟨⟨rfl, by decide +kernel, by decide +kernel, by decide +kernel⟩, pa_m5 174 rfl rfl, pa_m5 176 rfl rfl, pa_ms3 8 rfl rfl, pa_m1 10 rfl rfl, pa_m5 177 rfl rfl⟩
theorem cv_RX7_250 : pa_CV RX7 RX7 250 yX7_place cX7_place 2 (some .int) 1 := ⟨⟨rfl, by decide +kernel, by decide +kernel, by decide +kernel⟩, pa_m5 170 rfl rfl, pa_m5 172 rfl rfl, pa_ms3 7 rfl rfl, pa_m1 10 rfl rfl, pa_m5 173 rfl rfl⟩
theorem cv_RX7_254 : pa_CV RX7 RX7 254 yX7_takesNumber cX7_takesNumber 2 (some .boolean) 0 := ⟨⟨rfl, by decide +kernel, by decide +kernel, by decide +kernel⟩, pa_m5 154 rfl rfl, pa_m5 156 rfl rfl, pa_ms3 3 rfl rfl, pa_m1 10 rfl rfl, pa_m5 157 rfl rfl⟩
theorem cv_RX7_257 : pa_CV RX7 RX7 257 yX7_whole cX7_whole 1 none 0 := ⟨⟨rfl, by decide +kernel, by decide +kernel, by decide +kernel⟩, pa_m5 178 rfl rfl, pa_m5 180 rfl rfl, pa_ms3 9 rfl rfl, pa_m1 10 rfl rfl, pa_m5 181 rfl rfl⟩
theorem cv_RX7_263 : pa_CV RX7 RX7 263 yX7_settle cX7_settle 2 none 1 := ⟨⟨rfl, by decide +kernel, by decide +kernel, by decide +kernel⟩, pa_m5 182 rfl rfl, pa_m5 184 rfl rfl, pa_ms3 10 rfl rfl, pa_m1 10 rfl rfl, pa_m5 185 rfl rfl⟩
theorem cv_RX7_260 : pa_CV RX7 RX7 260 yX7_takesTest cX7_takesTest 3 (some .boolean) 0 := ⟨⟨rfl, by decide +kernel, by decide +kernel, by decide +kernel⟩, pa_m5 166 rfl rfl, pa_m5 168 rfl rfl, pa_ms3 6 rfl rfl, pa_m1 10 rfl rfl, pa_m5 169 rfl rfl⟩
theorem cv_RX7_266 : pa_CV RX7 RX7 266 yX7_takesWord cX7_takesWord 4 (some .boolean) 2 := ⟨⟨rfl, by decide +kernel, by decide +kernel, by decide +kernel⟩, pa_m5 146 rfl rfl, pa_m5 148 rfl rfl, pa_ms3 1 rfl rfl, pa_m1 10 rfl rfl, pa_m5 149 rfl rfl⟩
theorem cv_RX7_270 : pa_CV RX7 RX7 270 yX7_takesHead cX7_takesHead 2 (some .boolean) 1 := ⟨⟨rfl, by decide +kernel, by decide +kernel, by decide +kernel⟩, pa_m5 138 rfl rfl, pa_m5 140 rfl rfl, pa_ms2 15 rfl rfl, pa_m1 10 rfl rfl, pa_m5 141 rfl rfl⟩
theorem cv_RX7_273 : pa_CV RX7 RX7 273 yX7_takesE cX7_takesE 4 (some .boolean) 1 := ⟨⟨rfl, by decide +kernel, by decide +kernel, by decide +kernel⟩, pa_m5 162 rfl rfl, pa_m5 164 rfl rfl, pa_ms3 5 rfl rfl, pa_m1 10 rfl rfl, pa_m5 165 rfl rfl⟩
theorem cv_RX7_276 : pa_CV RX7 RX7 276 yX7_takesClause cX7_takesClause 2 (some .boolean) 1 := ⟨⟨rfl, by decide +kernel, by decide +kernel, by decide +kernel⟩, pa_m5 134 rfl rfl, pa_m5 136 rfl rfl, pa_ms2 14 rfl rfl, pa_m1 10 rfl rfl, pa_m5 137 rfl rfl⟩
theorem cv_RX7_279 : pa_CV RX7 RX7 279 yX7_goesText cX7_goesText 3 (some .boolean) 1 := ⟨⟨rfl, by decide +kernel, by decide +kernel, by decide +kernel⟩, pa_m5 130 rfl rfl, pa_m5 132 rfl rfl, pa_ms2 13 rfl rfl, pa_m1 10 rfl rfl, pa_m5 133 rfl rfl⟩
theorem cv_RX7_282 : pa_CV RX7 RX7 282 yX7_begin cX7_begin 1 (some .int) 0 := ⟨⟨rfl, by decide +kernel, by decide +kernel, by decide +kernel⟩, pa_m5 194 rfl rfl, pa_m5 196 rfl rfl, pa_ms3 12 rfl rfl, pa_m1 10 rfl rfl, pa_m5 197 rfl rfl⟩
theorem cv_RX7_285 : pa_CV RX7 RX7 285 yX7_behind cX7_behind 1 (some .int) 0 := ⟨⟨rfl, by decide +kernel, by decide +kernel, by decide +kernel⟩, pa_m5 198 rfl rfl, pa_m5 200 rfl rfl, pa_ms3 13 rfl rfl, pa_m1 10 rfl rfl, pa_m5 201 rfl rfl⟩
theorem cv_RX7_288 : pa_CV RX7 RX7 288 yX7_lastOf cX7_lastOf 5 (some .int) 2 := ⟨⟨rfl, by decide +kernel, by decide +kernel, by decide +kernel⟩, pa_m5 234 rfl rfl, pa_m5 236 rfl rfl, pa_ms4 5 rfl rfl, pa_m1 10 rfl rfl, pa_m5 237 rfl rfl⟩
theorem cv_RX7_292 : pa_CV RX7 RX7 292 yX7_least cX7_least 3 (some .int) 2 := ⟨⟨rfl, by decide +kernel, by decide +kernel, by decide +kernel⟩, pa_m5 238 rfl rfl, pa_m6 0 rfl rfl, pa_ms4 6 rfl rfl, pa_m1 10 rfl rfl, pa_m6 1 rfl rfl⟩
theorem cv_RX7_295 : pa_CV RX7 RX7 295 yX7_factOf cX7_factOf 4 (some .int) 3 := ⟨⟨rfl, by decide +kernel, by decide +kernel, by decide +kernel⟩, pa_m5 206 rfl rfl, pa_m5 208 rfl rfl, pa_ms3 15 rfl rfl, pa_m1 10 rfl rfl, pa_m5 209 rfl rfl⟩
theorem cv_RX7_299 : pa_CV RX7 RX7 299 yX7_holds cX7_holds 9 (some .boolean) 3 := ⟨⟨rfl, by decide +kernel, by decide +kernel, by decide +kernel⟩, pa_m5 202 rfl rfl, pa_m5 204 rfl rfl, pa_ms3 14 rfl rfl, pa_m1 10 rfl rfl, pa_m5 205 rfl rfl⟩
theorem cv_RX7_302 : pa_CV RX7 RX7 302 yX7_grace cX7_grace 5 (some .int) 2 := ⟨⟨rfl, by decide +kernel, by decide +kernel, by decide +kernel⟩, pa_m5 190 rfl rfl, pa_m5 192 rfl rfl, pa_ms3 11 rfl rfl, pa_m1 10 rfl rfl, pa_m5 193 rfl rfl⟩
theorem cv_RX7_305 : pa_CV RX7 RX7 305 yX7_least0 cX7_least0 2 (some .int) 1 := ⟨⟨rfl, by decide +kernel, by decide +kernel, by decide +kernel⟩, pa_m5 214 rfl rfl, pa_m5 216 rfl rfl, pa_ms4 1 rfl rfl, pa_m1 10 rfl rfl, pa_m5 217 rfl rfl⟩
theorem cv_RX7_308 : pa_CV RX7 RX7 308 yX7_worth cX7_worth 3 (some .int) 2 := ⟨⟨rfl, by decide +kernel, by decide +kernel, by decide +kernel⟩, pa_m5 210 rfl rfl, pa_m5 212 rfl rfl, pa_ms4 0 rfl rfl, pa_m1 10 rfl rfl, pa_m5 213 rfl rfl⟩
theorem cv_RX7_311 : pa_CV RX7 RX7 311 yX7_fortune cX7_fortune 3 (some .int) 1 := ⟨⟨rfl, by decide +kernel, by decide +kernel, by decide +kernel⟩, pa_m5 218 rfl rfl, pa_m5 220 rfl rfl, pa_ms4 2 rfl rfl, pa_m1 10 rfl rfl, pa_m5 221 rfl rfl⟩
theorem cv_RX7_314 : pa_CV RX7 RX7 314 yX7_fades cX7_fades 2 (some .int) 1 := ⟨⟨rfl, by decide +kernel, by decide +kernel, by decide +kernel⟩, pa_m5 222 rfl rfl, pa_m5 224 rfl rfl, pa_ms4 3 rfl rfl, pa_m1 10 rfl rfl, pa_m5 225 rfl rfl⟩
theorem cv_RX7_317 : pa_CV RX7 RX7 317 yX7_room cX7_room 1 (some .int) 0 := ⟨⟨rfl, by decide +kernel, by decide +kernel, by decide +kernel⟩, pa_m5 230 rfl rfl, pa_m5 232 rfl rfl, pa_ms4 4 rfl rfl, pa_m1 10 rfl rfl, pa_m5 233 rfl rfl⟩
theorem cv_RX7_320 : pa_CV RX7 RX7 320 yX7_press cX7_press 2 (some .int) 0 := ⟨⟨rfl, by decide +kernel, by decide +kernel, by decide +kernel⟩, pa_m6 2 rfl rfl, pa_m6 4 rfl rfl, pa_ms4 7 rfl rfl, pa_m1 10 rfl rfl, pa_m6 5 rfl rfl⟩
theorem cv_RX7_323 : pa_CV RX7 RX7 323 yX7_allFortunes cX7_allFortunes 3 (some .int) 0 := ⟨⟨rfl, by decide +kernel, by decide +kernel, by decide +kernel⟩, pa_m6 6 rfl rfl, pa_m6 8 rfl rfl, pa_ms4 8 rfl rfl, pa_m1 10 rfl rfl, pa_m6 9 rfl rfl⟩
theorem cv_RX7_326 : pa_CV RX7 RX7 326 yX7_allLengths cX7_allLengths 3 (some .int) 0 := ⟨⟨rfl, by decide +kernel, by decide +kernel, by decide +kernel⟩, pa_m6 10 rfl rfl, pa_m6 12 rfl rfl, pa_ms4 9 rfl rfl, pa_m1 10 rfl rfl, pa_m6 13 rfl rfl⟩
theorem cv_RX7_329 : pa_CV RX7 RX7 329 yX7_draws cX7_draws 5 (some .int) 3 := ⟨⟨rfl, by decide +kernel, by decide +kernel, by decide +kernel⟩, pa_m6 18 rfl rfl, pa_m6 20 rfl rfl, pa_ms4 10 rfl rfl, pa_m1 10 rfl rfl, pa_m6 21 rfl rfl⟩
theorem cv_RX7_332 : pa_CV RX7 RX7 332 yX7_isCovered cX7_isCovered 2 (some .boolean) 1 := ⟨⟨rfl, by decide +kernel, by decide +kernel, by decide +kernel⟩, pa_m6 30 rfl rfl, pa_m6 32 rfl rfl, pa_ms4 12 rfl rfl, pa_m1 10 rfl rfl, pa_m6 33 rfl rfl⟩
theorem cv_RX7_335 : pa_CV RX7 RX7 335 yX7_prints cX7_prints 7 (some .int) 2 := ⟨⟨rfl, by decide +kernel, by decide +kernel, by decide +kernel⟩, pa_m6 26 rfl rfl, pa_m6 28 rfl rfl, pa_ms4 11 rfl rfl, pa_m1 10 rfl rfl, pa_m6 29 rfl rfl⟩
def wb_X7_in_0 (u0 : pa_S) (x1 : Int32) (x2 : Int32) (x3 : Int32) (post : Int32 → Prop) : Prop :=
  (if x1 < x2 then post 0 else (if x3 < x1 then post 0 else post 1))
set_option maxRecDepth 100000 in
set_option maxHeartbeats 4000000 in
theorem tb_X7_in_0 {p : Program} {l : Launch} {e : Env} {s : State} {m : MethodId} {args : Array Value} {below : List Frame} {meth : Method} {c : Code} {A : Nat → Prop} {D : va_G} {g : pa_G} {q : Nat → Nat → Nat} {u0 : pa_S} {x1 : Int32} {x2 : Int32} {x3 : Int32} {post : Int32 → Prop} (hE : pa_Fx p s m args meth c A D g 4 cX7_in RX7) (hr : meth.sig.returnType = (some .boolean)) (hw : wb_X7_in_0 u0 x1 x2 x3 post) : pa_At p l e (pa_rm 2) s m args below meth c (MQ below (pa_Qc g D q (fun r => some (.int r)) (fun r u => u = u0 ∧ post r) A) args s 0 0 A) A D g 4 0 0 q u0 0 [(0, .ref (q 24 0)), (1, .int x1), (2, .int x2), (3, .int x3)] [] := by
  refine pa_iload_n hE dX7_in_0 rfl 1 rfl ?_
  refine pa_iload_n hE dX7_in_1 rfl 2 rfl ?_
  refine pa_icmp_lt hE dX7_in_2 (tgt := 14) (by decide) (fun h1 => ?_) (fun h1 => ?_)
  · have hw := Eq.mp (if_pos h1) hw
    refine pa_iconst hE dX7_in_14 (v := 0) (by decide) ?_
    exact pa_zret hE hr (by decide) ⟨rfl, hw⟩ rfl dX7_in_15
  · have hw := Eq.mp (if_neg h1) hw
    refine pa_iload_n hE dX7_in_5 rfl 1 rfl ?_
    refine pa_iload_n hE dX7_in_6 rfl 3 rfl ?_
    refine pa_icmp_gt hE dX7_in_7 (tgt := 14) (by decide) (fun h2 => ?_) (fun h2 => ?_)
    · have hw := Eq.mp (if_pos h2) hw
      refine pa_iconst hE dX7_in_14 (v := 0) (by decide) ?_
      exact pa_zret hE hr (by decide) ⟨rfl, hw⟩ rfl dX7_in_15
    · have hw := Eq.mp (if_neg h2) hw
      refine pa_iconst hE dX7_in_10 (v := 1) (by decide) ?_
      refine pa_goto hE dX7_in_11 (tgt := 15) (by decide) ?_
      exact pa_zret hE hr (by decide) ⟨rfl, hw⟩ rfl dX7_in_15
def wp_X7_in (u0 : pa_S) (x1 : Int32) (x2 : Int32) (x3 : Int32) (post : Int32 → Prop) : Prop := wb_X7_in_0 u0 x1 x2 x3 post
theorem ct_X7_in (l : Launch) (g : pa_G) (D : va_G) (q : Nat → Nat → Nat) (u0 : pa_S) (x1 : Int32) (x2 : Int32) (x3 : Int32) (post : Int32 → Prop)  (hw : wp_X7_in u0 x1 x2 x3 post) : pa_Ct l yX7_in cX7_in 4 (some .boolean) 2 g D q u0 [.ref (q 24 0), .int x1, .int x2, .int x3] (fun r => some (.int r)) (fun r u => u = u0 ∧ post r) := pa_met rfl rfl (Nat.le_of_ble_eq_true rfl) rfl (fun p e s m args below meth c A hE hr => tb_X7_in_0 hE hr  hw)
def wb_X7_least_0 (u0 : pa_S) (x1 : Int32) (x2 : Int32) (post : Int32 → Prop) : Prop :=
  (if x2 ≤ x1 then post x2 else post x1)
set_option maxRecDepth 100000 in
set_option maxHeartbeats 4000000 in
theorem tb_X7_least_0 {p : Program} {l : Launch} {e : Env} {s : State} {m : MethodId} {args : Array Value} {below : List Frame} {meth : Method} {c : Code} {A : Nat → Prop} {D : va_G} {g : pa_G} {q : Nat → Nat → Nat} {u0 : pa_S} {x1 : Int32} {x2 : Int32} {post : Int32 → Prop} (hE : pa_Fx p s m args meth c A D g 3 cX7_least RX7) (hr : meth.sig.returnType = (some .int)) (hw : wb_X7_least_0 u0 x1 x2 post) : pa_At p l e (pa_rm 2) s m args below meth c (MQ below (pa_Qc g D q (fun r => some (.int r)) (fun r u => u = u0 ∧ post r) A) args s 0 0 A) A D g 3 0 0 q u0 0 [(0, .ref (q 24 0)), (1, .int x1), (2, .int x2)] [] := by
  refine pa_iload_n hE dX7_least_0 rfl 1 rfl ?_
  refine pa_iload_n hE dX7_least_1 rfl 2 rfl ?_
  refine pa_icmp_ge hE dX7_least_2 (tgt := 9) (by decide) (fun h1 => ?_) (fun h1 => ?_)
  · have hw := Eq.mp (if_pos h1) hw
    refine pa_iload_n hE dX7_least_9 rfl 2 rfl ?_
    exact pa_iret hE hr ⟨rfl, hw⟩ rfl dX7_least_10
  · have hw := Eq.mp (if_neg h1) hw
    refine pa_iload_n hE dX7_least_5 rfl 1 rfl ?_
    refine pa_goto hE dX7_least_6 (tgt := 10) (by decide) ?_
    exact pa_iret hE hr ⟨rfl, hw⟩ rfl dX7_least_10
def wp_X7_least (u0 : pa_S) (x1 : Int32) (x2 : Int32) (post : Int32 → Prop) : Prop := wb_X7_least_0 u0 x1 x2 post
theorem ct_X7_least (l : Launch) (g : pa_G) (D : va_G) (q : Nat → Nat → Nat) (u0 : pa_S) (x1 : Int32) (x2 : Int32) (post : Int32 → Prop)  (hw : wp_X7_least u0 x1 x2 post) : pa_Ct l yX7_least cX7_least 3 (some .int) 2 g D q u0 [.ref (q 24 0), .int x1, .int x2] (fun r => some (.int r)) (fun r u => u = u0 ∧ post r) := pa_met rfl rfl (Nat.le_of_ble_eq_true rfl) rfl (fun p e s m args below meth c A hE hr => tb_X7_least_0 hE hr  hw)
def wb_X7_least0_0 (u0 : pa_S) (x1 : Int32) (post : Int32 → Prop) : Prop :=
  (if 0 ≤ x1 then post x1 else post 0)
set_option maxRecDepth 100000 in
set_option maxHeartbeats 4000000 in
theorem tb_X7_least0_0 {p : Program} {l : Launch} {e : Env} {s : State} {m : MethodId} {args : Array Value} {below : List Frame} {meth : Method} {c : Code} {A : Nat → Prop} {D : va_G} {g : pa_G} {q : Nat → Nat → Nat} {u0 : pa_S} {x1 : Int32} {post : Int32 → Prop} (hE : pa_Fx p s m args meth c A D g 2 cX7_least0 RX7) (hr : meth.sig.returnType = (some .int)) (hw : wb_X7_least0_0 u0 x1 post) : pa_At p l e (pa_rm 2) s m args below meth c (MQ below (pa_Qc g D q (fun r => some (.int r)) (fun r u => u = u0 ∧ post r) A) args s 0 0 A) A D g 2 0 0 q u0 0 [(0, .ref (q 24 0)), (1, .int x1)] [] := by
  refine pa_iload_n hE dX7_least0_0 rfl 1 rfl ?_
  refine pa_if_ge hE dX7_least0_1 (tgt := 8) (by decide) (fun h1 => ?_) (fun h1 => ?_)
  · have hw := Eq.mp (if_pos h1) hw
    refine pa_iload_n hE dX7_least0_8 rfl 1 rfl ?_
    exact pa_iret hE hr ⟨rfl, hw⟩ rfl dX7_least0_9
  · have hw := Eq.mp (if_neg h1) hw
    refine pa_iconst hE dX7_least0_4 (v := 0) (by decide) ?_
    refine pa_goto hE dX7_least0_5 (tgt := 9) (by decide) ?_
    exact pa_iret hE hr ⟨rfl, hw⟩ rfl dX7_least0_9
def wp_X7_least0 (u0 : pa_S) (x1 : Int32) (post : Int32 → Prop) : Prop := wb_X7_least0_0 u0 x1 post
theorem ct_X7_least0 (l : Launch) (g : pa_G) (D : va_G) (q : Nat → Nat → Nat) (u0 : pa_S) (x1 : Int32) (post : Int32 → Prop)  (hw : wp_X7_least0 u0 x1 post) : pa_Ct l yX7_least0 cX7_least0 2 (some .int) 2 g D q u0 [.ref (q 24 0), .int x1] (fun r => some (.int r)) (fun r u => u = u0 ∧ post r) := pa_met rfl rfl (Nat.le_of_ble_eq_true rfl) rfl (fun p e s m args below meth c A hE hr => tb_X7_least0_0 hE hr  hw)
def wb_X7_isHand_0 (u0 : pa_S) (x1 : Int32) (post : Int32 → Prop) : Prop :=
  (wp_X7_in u0 x1 0 ((pa_I u0 24 0 0) - 1) (fun (r1 : Int32) => (r1 &&& 1 = r1) ∧ post r1))
set_option maxRecDepth 100000 in
set_option maxHeartbeats 4000000 in
theorem tb_X7_isHand_0 {p : Program} {l : Launch} {e : Env} {s : State} {m : MethodId} {args : Array Value} {below : List Frame} {meth : Method} {c : Code} {A : Nat → Prop} {D : va_G} {g : pa_G} {q : Nat → Nat → Nat} {u0 : pa_S} {x1 : Int32} {post : Int32 → Prop} (hE : pa_Fx p s m args meth c A D g 2 cX7_isHand RX7) (hr : meth.sig.returnType = (some .boolean)) (hw : wb_X7_isHand_0 u0 x1 post) : pa_At p l e (pa_rm 3) s m args below meth c (MQ below (pa_Qc g D q (fun r => some (.int r)) (fun r u => u = u0 ∧ post r) A) args s 0 0 A) A D g 2 0 0 q u0 0 [(0, .ref (q 24 0)), (1, .int x1)] [] := by
  refine pa_aload_n hE dX7_isHand_0 rfl 0 rfl ?_
  refine pa_iload_n hE dX7_isHand_1 rfl 1 rfl ?_
  refine pa_iconst hE dX7_isHand_2 (v := 0) (by decide) ?_
  refine pa_aload_n hE dX7_isHand_3 rfl 0 rfl ?_
  refine pg_24_0 hE (pa_m4 121 rfl rfl) dX7_isHand_4 ?_
  refine pa_iconst hE dX7_isHand_7 (v := 1) (by decide) ?_
  refine pa_isub hE dX7_isHand_8 ?_
  refine pa_callVri hE (ct_X7_in l g D q u0 x1 0 ((pa_I u0 24 0 0) - 1) _ hw) cv_RX7_221 pa_in24 rfl rfl rfl (pa_hR (by omega) (by decide)) rfl (Nat.le_of_ble_eq_true rfl) dX7_isHand_9 (fun r1 hw => ?_)
  obtain ⟨h2, hw⟩ := hw
  exact pa_zret hE hr (congrArg Value.int h2) ⟨rfl, hw⟩ rfl dX7_isHand_12
def wp_X7_isHand (u0 : pa_S) (x1 : Int32) (post : Int32 → Prop) : Prop := wb_X7_isHand_0 u0 x1 post
theorem ct_X7_isHand (l : Launch) (g : pa_G) (D : va_G) (q : Nat → Nat → Nat) (u0 : pa_S) (x1 : Int32) (post : Int32 → Prop)  (hw : wp_X7_isHand u0 x1 post) : pa_Ct l yX7_isHand cX7_isHand 2 (some .boolean) 3 g D q u0 [.ref (q 24 0), .int x1] (fun r => some (.int r)) (fun r u => u = u0 ∧ post r) := pa_met rfl rfl (Nat.le_of_ble_eq_true rfl) rfl (fun p e s m args below meth c A hE hr => tb_X7_isHand_0 hE hr  hw)
def wb_X7_isLine_0 (u0 : pa_S) (x1 : Int32) (post : Int32 → Prop) : Prop :=
  (wp_X7_in u0 x1 0 2 (fun (r1 : Int32) => (r1 &&& 1 = r1) ∧ post r1))
set_option maxRecDepth 100000 in
set_option maxHeartbeats 4000000 in
theorem tb_X7_isLine_0 {p : Program} {l : Launch} {e : Env} {s : State} {m : MethodId} {args : Array Value} {below : List Frame} {meth : Method} {c : Code} {A : Nat → Prop} {D : va_G} {g : pa_G} {q : Nat → Nat → Nat} {u0 : pa_S} {x1 : Int32} {post : Int32 → Prop} (hE : pa_Fx p s m args meth c A D g 2 cX7_isLine RX7) (hr : meth.sig.returnType = (some .boolean)) (hw : wb_X7_isLine_0 u0 x1 post) : pa_At p l e (pa_rm 3) s m args below meth c (MQ below (pa_Qc g D q (fun r => some (.int r)) (fun r u => u = u0 ∧ post r) A) args s 0 0 A) A D g 2 0 0 q u0 0 [(0, .ref (q 24 0)), (1, .int x1)] [] := by
  refine pa_aload_n hE dX7_isLine_0 rfl 0 rfl ?_
  refine pa_iload_n hE dX7_isLine_1 rfl 1 rfl ?_
  refine pa_iconst hE dX7_isLine_2 (v := 0) (by decide) ?_
  refine pa_iconst hE dX7_isLine_3 (v := 2) (by decide) ?_
  refine pa_callVri hE (ct_X7_in l g D q u0 x1 0 2 _ hw) cv_RX7_221 pa_in24 rfl rfl rfl (pa_hR (by omega) (by decide)) rfl (Nat.le_of_ble_eq_true rfl) dX7_isLine_4 (fun r1 hw => ?_)
  obtain ⟨h2, hw⟩ := hw
  exact pa_zret hE hr (congrArg Value.int h2) ⟨rfl, hw⟩ rfl dX7_isLine_7
def wp_X7_isLine (u0 : pa_S) (x1 : Int32) (post : Int32 → Prop) : Prop := wb_X7_isLine_0 u0 x1 post
theorem ct_X7_isLine (l : Launch) (g : pa_G) (D : va_G) (q : Nat → Nat → Nat) (u0 : pa_S) (x1 : Int32) (post : Int32 → Prop)  (hw : wp_X7_isLine u0 x1 post) : pa_Ct l yX7_isLine cX7_isLine 2 (some .boolean) 3 g D q u0 [.ref (q 24 0), .int x1] (fun r => some (.int r)) (fun r u => u = u0 ∧ post r) := pa_met rfl rfl (Nat.le_of_ble_eq_true rfl) rfl (fun p e s m args below meth c A hE hr => tb_X7_isLine_0 hE hr  hw)
def wb_X7_isLength_0 (u0 : pa_S) (x1 : Int32) (post : Int32 → Prop) : Prop :=
  (wp_X7_in u0 x1 0 60 (fun (r1 : Int32) => (r1 &&& 1 = r1) ∧ post r1))
set_option maxRecDepth 100000 in
set_option maxHeartbeats 4000000 in
theorem tb_X7_isLength_0 {p : Program} {l : Launch} {e : Env} {s : State} {m : MethodId} {args : Array Value} {below : List Frame} {meth : Method} {c : Code} {A : Nat → Prop} {D : va_G} {g : pa_G} {q : Nat → Nat → Nat} {u0 : pa_S} {x1 : Int32} {post : Int32 → Prop} (hE : pa_Fx p s m args meth c A D g 2 cX7_isLength RX7) (hr : meth.sig.returnType = (some .boolean)) (hw : wb_X7_isLength_0 u0 x1 post) : pa_At p l e (pa_rm 3) s m args below meth c (MQ below (pa_Qc g D q (fun r => some (.int r)) (fun r u => u = u0 ∧ post r) A) args s 0 0 A) A D g 2 0 0 q u0 0 [(0, .ref (q 24 0)), (1, .int x1)] [] := by
  refine pa_aload_n hE dX7_isLength_0 rfl 0 rfl ?_
  refine pa_iload_n hE dX7_isLength_1 rfl 1 rfl ?_
  refine pa_iconst hE dX7_isLength_2 (v := 0) (by decide) ?_
  refine pa_bipush hE dX7_isLength_3 (v := 60) (by decide) ?_
  refine pa_callVri hE (ct_X7_in l g D q u0 x1 0 60 _ hw) cv_RX7_221 pa_in24 rfl rfl rfl (pa_hR (by omega) (by decide)) rfl (Nat.le_of_ble_eq_true rfl) dX7_isLength_5 (fun r1 hw => ?_)
  obtain ⟨h2, hw⟩ := hw
  exact pa_zret hE hr (congrArg Value.int h2) ⟨rfl, hw⟩ rfl dX7_isLength_8
def wp_X7_isLength (u0 : pa_S) (x1 : Int32) (post : Int32 → Prop) : Prop := wb_X7_isLength_0 u0 x1 post
theorem ct_X7_isLength (l : Launch) (g : pa_G) (D : va_G) (q : Nat → Nat → Nat) (u0 : pa_S) (x1 : Int32) (post : Int32 → Prop)  (hw : wp_X7_isLength u0 x1 post) : pa_Ct l yX7_isLength cX7_isLength 2 (some .boolean) 3 g D q u0 [.ref (q 24 0), .int x1] (fun r => some (.int r)) (fun r u => u = u0 ∧ post r) := pa_met rfl rfl (Nat.le_of_ble_eq_true rfl) rfl (fun p e s m args below meth c A hE hr => tb_X7_isLength_0 hE hr  hw)
def wb_X7_isFortune_0 (u0 : pa_S) (x1 : Int32) (post : Int32 → Prop) : Prop :=
  (wp_X7_in u0 x1 0 999 (fun (r1 : Int32) => (r1 &&& 1 = r1) ∧ post r1))
set_option maxRecDepth 100000 in
set_option maxHeartbeats 4000000 in
theorem tb_X7_isFortune_0 {p : Program} {l : Launch} {e : Env} {s : State} {m : MethodId} {args : Array Value} {below : List Frame} {meth : Method} {c : Code} {A : Nat → Prop} {D : va_G} {g : pa_G} {q : Nat → Nat → Nat} {u0 : pa_S} {x1 : Int32} {post : Int32 → Prop} (hE : pa_Fx p s m args meth c A D g 2 cX7_isFortune RX7) (hr : meth.sig.returnType = (some .boolean)) (hw : wb_X7_isFortune_0 u0 x1 post) : pa_At p l e (pa_rm 3) s m args below meth c (MQ below (pa_Qc g D q (fun r => some (.int r)) (fun r u => u = u0 ∧ post r) A) args s 0 0 A) A D g 2 0 0 q u0 0 [(0, .ref (q 24 0)), (1, .int x1)] [] := by
  refine pa_aload_n hE dX7_isFortune_0 rfl 0 rfl ?_
  refine pa_iload_n hE dX7_isFortune_1 rfl 1 rfl ?_
  refine pa_iconst hE dX7_isFortune_2 (v := 0) (by decide) ?_
  refine pa_sipush hE dX7_isFortune_3 (v := 999) (by decide) ?_
  refine pa_callVri hE (ct_X7_in l g D q u0 x1 0 999 _ hw) cv_RX7_221 pa_in24 rfl rfl rfl (pa_hR (by omega) (by decide)) rfl (Nat.le_of_ble_eq_true rfl) dX7_isFortune_6 (fun r1 hw => ?_)
  obtain ⟨h2, hw⟩ := hw
  exact pa_zret hE hr (congrArg Value.int h2) ⟨rfl, hw⟩ rfl dX7_isFortune_9
def wp_X7_isFortune (u0 : pa_S) (x1 : Int32) (post : Int32 → Prop) : Prop := wb_X7_isFortune_0 u0 x1 post
theorem ct_X7_isFortune (l : Launch) (g : pa_G) (D : va_G) (q : Nat → Nat → Nat) (u0 : pa_S) (x1 : Int32) (post : Int32 → Prop)  (hw : wp_X7_isFortune u0 x1 post) : pa_Ct l yX7_isFortune cX7_isFortune 2 (some .boolean) 3 g D q u0 [.ref (q 24 0), .int x1] (fun r => some (.int r)) (fun r u => u = u0 ∧ post r) := pa_met rfl rfl (Nat.le_of_ble_eq_true rfl) rfl (fun p e s m args below meth c A hE hr => tb_X7_isFortune_0 hE hr  hw)
def wb_X7_hand_109 (k109 : pa_S → Int32 → Prop) (u0 : pa_S) (x4 : Int32) (post : Int32 → pa_S → Prop) : Prop :=
  (if 4 ≤ x4 then ∀ u16 : pa_S, u16 = pa_sI u0 24 0 0 ((pa_I u0 24 0 0) + 1) → post ((pa_I u16 24 0 0) - 1) u16 else (vp_in ((4 * (pa_I u0 24 0 0)) + x4) 20) ∧ ∀ u18 : pa_S, u18 = pa_sA u0 29 0 (upd (pa_A u0 29 0) ((4 * (pa_I u0 24 0 0)) + x4).toNatClampNeg 0) → ∀ v19 : Int32, v19 = x4 + 1 → k109 u18 v19)
set_option maxRecDepth 100000 in
set_option maxHeartbeats 4000000 in
theorem tb_X7_hand_109 {p : Program} {l : Launch} {e : Env} {s : State} {m : MethodId} {args : Array Value} {below : List Frame} {meth : Method} {c : Code} {A : Nat → Prop} {D : va_G} {g : pa_G} {q : Nat → Nat → Nat} {k109 : pa_S → Int32 → Prop} {u0 : pa_S} {x4 : Int32} {post : Int32 → pa_S → Prop} (hE : pa_Fx p s m args meth c A D g 5 cX7_hand RX7) (hr : meth.sig.returnType = (some .int)) (hk109 : ∀ (u : pa_S)  (x4 : Int32), k109 u x4 → pa_At p l e (pa_rm 4) s m args below meth c (MQ below (pa_Qc g D q (fun r => some (.int r)) post A) args s 0 0 A) A D g 5 0 0 q u 109 [(0, .ref (q 24 0)), (4, .int x4)] []) (hw : wb_X7_hand_109 k109 u0 x4 post) : pa_At p l e (pa_rm 4) s m args below meth c (MQ below (pa_Qc g D q (fun r => some (.int r)) post A) args s 0 0 A) A D g 5 0 0 q u0 109 [(0, .ref (q 24 0)), (4, .int x4)] [] := by
  refine pa_iload hE dX7_hand_109 1 rfl ?_
  refine pa_iconst hE dX7_hand_111 (v := 4) (by decide) ?_
  refine pa_icmp_ge hE dX7_hand_112 (tgt := 136) (by decide) (fun h15 => ?_) (fun h15 => ?_)
  · have hw := Eq.mp (if_pos h15) hw
    refine pa_aload_n hE dX7_hand_136 rfl 0 rfl ?_
    refine pa_dup hE dX7_hand_137 rfl ?_
    refine pg_24_0 hE (pa_m4 121 rfl rfl) dX7_hand_138 ?_
    refine pa_iconst hE dX7_hand_141 (v := 1) (by decide) ?_
    refine pa_iadd hE dX7_hand_142 ?_
    refine pp_24_0 hE (pa_m4 121 rfl rfl) dX7_hand_143 (fun u16 eu16 => ?_)
    have hw := hw u16 eu16
    refine pa_aload_n hE dX7_hand_146 rfl 0 rfl ?_
    refine pg_24_0 hE (pa_m4 121 rfl rfl) dX7_hand_147 ?_
    refine pa_iconst hE dX7_hand_150 (v := 1) (by decide) ?_
    refine pa_isub hE dX7_hand_151 ?_
    exact pa_iret hE hr hw rfl dX7_hand_152
  · have hw := Eq.mp (if_neg h15) hw
    refine pa_aload_n hE dX7_hand_115 rfl 0 rfl ?_
    refine pg_24_7 hE (pa_m4 128 rfl rfl) dX7_hand_116 ?_
    refine pa_iconst hE dX7_hand_119 (v := 4) (by decide) ?_
    refine pa_aload_n hE dX7_hand_120 rfl 0 rfl ?_
    refine pg_24_0 hE (pa_m4 121 rfl rfl) dX7_hand_121 ?_
    refine pa_imul hE dX7_hand_124 ?_
    refine pa_iload hE dX7_hand_125 1 rfl ?_
    refine pa_iadd hE dX7_hand_127 ?_
    refine pa_iconst hE dX7_hand_128 (v := 0) (by decide) ?_
    obtain ⟨h17, hw⟩ := hw
    refine ps_29 hE h17 dX7_hand_129 (fun u18 eu18 => ?_)
    have hw := hw u18 eu18
    refine pa_iinc hE dX7_hand_130 (v := 1) 1 rfl (by decide) (by decide) (lvr := [(0, .ref (q 24 0))]) rfl (fun v19 ev19 => ?_)
    have hw := hw v19 ev19
    refine pa_goto hE dX7_hand_133 (tgt := 109) (by decide) ?_
    exact pa_sub [1, 0] rfl (hk109 u18 v19 hw)
def wl_X7_hand_109 (post : Int32 → pa_S → Prop) : Nat → pa_S → Int32 → Prop
  | 0, _, _ => False
  | n + 1, u0, x4 => wb_X7_hand_109 (fun u0 x4 => wl_X7_hand_109 post n u0 x4) u0 x4 post
set_option maxRecDepth 100000 in
set_option maxHeartbeats 4000000 in
theorem tl_X7_hand_109 {p : Program} {l : Launch} {e : Env} {s : State} {m : MethodId} {args : Array Value} {below : List Frame} {meth : Method} {c : Code} {A : Nat → Prop} {D : va_G} {g : pa_G} {q : Nat → Nat → Nat} {post : Int32 → pa_S → Prop} (hE : pa_Fx p s m args meth c A D g 5 cX7_hand RX7) (hr : meth.sig.returnType = (some .int)) : ∀ (n : Nat) (u0 : pa_S) (x4 : Int32), wl_X7_hand_109 post n u0 x4 → pa_At p l e (pa_rm 4) s m args below meth c (MQ below (pa_Qc g D q (fun r => some (.int r)) post A) args s 0 0 A) A D g 5 0 0 q u0 109 [(0, .ref (q 24 0)), (4, .int x4)] []
  | 0, _, _, hw => absurd hw (by simp only [wl_X7_hand_109]; exact fun z => z)
  | n + 1, u0, x4, hw => tb_X7_hand_109 hE hr (fun u0 x4  hw1 => tl_X7_hand_109 hE hr  n u0 x4  hw1) hw
def wb_X7_hand_79 (k79 : pa_S → Int32 → Int32 → Prop) (u0 : pa_S) (x3 : Int32) (x4 : Int32) (post : Int32 → pa_S → Prop) : Prop :=
  (if 3 ≤ x4 then wl_X7_hand_109 post 5000 u0 0 else (vp_in ((3 * (pa_I u0 24 0 0)) + x4) 15) ∧ ∀ u21 : pa_S, u21 = pa_sA u0 28 0 (upd (pa_A u0 28 0) ((3 * (pa_I u0 24 0 0)) + x4).toNatClampNeg x3) → ∀ v22 : Int32, v22 = x4 + 1 → k79 u21 x3 v22)
set_option maxRecDepth 100000 in
set_option maxHeartbeats 4000000 in
theorem tb_X7_hand_79 {p : Program} {l : Launch} {e : Env} {s : State} {m : MethodId} {args : Array Value} {below : List Frame} {meth : Method} {c : Code} {A : Nat → Prop} {D : va_G} {g : pa_G} {q : Nat → Nat → Nat} {k79 : pa_S → Int32 → Int32 → Prop} {u0 : pa_S} {x3 : Int32} {x4 : Int32} {post : Int32 → pa_S → Prop} (hE : pa_Fx p s m args meth c A D g 5 cX7_hand RX7) (hr : meth.sig.returnType = (some .int)) (hk79 : ∀ (u : pa_S)  (x3 : Int32) (x4 : Int32), k79 u x3 x4 → pa_At p l e (pa_rm 4) s m args below meth c (MQ below (pa_Qc g D q (fun r => some (.int r)) post A) args s 0 0 A) A D g 5 0 0 q u 79 [(0, .ref (q 24 0)), (3, .int x3), (4, .int x4)] []) (hw : wb_X7_hand_79 k79 u0 x3 x4 post) : pa_At p l e (pa_rm 4) s m args below meth c (MQ below (pa_Qc g D q (fun r => some (.int r)) post A) args s 0 0 A) A D g 5 0 0 q u0 79 [(0, .ref (q 24 0)), (3, .int x3), (4, .int x4)] [] := by
  refine pa_iload hE dX7_hand_79 2 rfl ?_
  refine pa_iconst hE dX7_hand_81 (v := 3) (by decide) ?_
  refine pa_icmp_ge hE dX7_hand_82 (tgt := 106) (by decide) (fun h14 => ?_) (fun h14 => ?_)
  · have hw := Eq.mp (if_pos h14) hw
    refine pa_iconst hE dX7_hand_106 (v := 0) (by decide) ?_
    refine pa_istore hE dX7_hand_107 (by decide) (lvr := [(0, .ref (q 24 0)), (3, .int x3)]) rfl ?_
    exact pa_sub [1, 0] rfl (tl_X7_hand_109 hE hr 5000 u0 0 hw)
  · have hw := Eq.mp (if_neg h14) hw
    refine pa_aload_n hE dX7_hand_85 rfl 0 rfl ?_
    refine pg_24_6 hE (pa_m4 127 rfl rfl) dX7_hand_86 ?_
    refine pa_iconst hE dX7_hand_89 (v := 3) (by decide) ?_
    refine pa_aload_n hE dX7_hand_90 rfl 0 rfl ?_
    refine pg_24_0 hE (pa_m4 121 rfl rfl) dX7_hand_91 ?_
    refine pa_imul hE dX7_hand_94 ?_
    refine pa_iload hE dX7_hand_95 2 rfl ?_
    refine pa_iadd hE dX7_hand_97 ?_
    refine pa_iload_n hE dX7_hand_98 rfl 1 rfl ?_
    obtain ⟨h20, hw⟩ := hw
    refine ps_28 hE h20 dX7_hand_99 (fun u21 eu21 => ?_)
    have hw := hw u21 eu21
    refine pa_iinc hE dX7_hand_100 (v := 1) 2 rfl (by decide) (by decide) (lvr := [(0, .ref (q 24 0)), (3, .int x3)]) rfl (fun v22 ev22 => ?_)
    have hw := hw v22 ev22
    refine pa_goto hE dX7_hand_103 (tgt := 79) (by decide) ?_
    exact pa_sub [1, 2, 0] rfl (hk79 u21 x3 v22 hw)
def wl_X7_hand_79 (post : Int32 → pa_S → Prop) : Nat → pa_S → Int32 → Int32 → Prop
  | 0, _, _, _ => False
  | n + 1, u0, x3, x4 => wb_X7_hand_79 (fun u0 x3 x4 => wl_X7_hand_79 post n u0 x3 x4) u0 x3 x4 post
set_option maxRecDepth 100000 in
set_option maxHeartbeats 4000000 in
theorem tl_X7_hand_79 {p : Program} {l : Launch} {e : Env} {s : State} {m : MethodId} {args : Array Value} {below : List Frame} {meth : Method} {c : Code} {A : Nat → Prop} {D : va_G} {g : pa_G} {q : Nat → Nat → Nat} {post : Int32 → pa_S → Prop} (hE : pa_Fx p s m args meth c A D g 5 cX7_hand RX7) (hr : meth.sig.returnType = (some .int)) : ∀ (n : Nat) (u0 : pa_S) (x3 : Int32) (x4 : Int32), wl_X7_hand_79 post n u0 x3 x4 → pa_At p l e (pa_rm 4) s m args below meth c (MQ below (pa_Qc g D q (fun r => some (.int r)) post A) args s 0 0 A) A D g 5 0 0 q u0 79 [(0, .ref (q 24 0)), (3, .int x3), (4, .int x4)] []
  | 0, _, _, _, hw => absurd hw (by simp only [wl_X7_hand_79]; exact fun z => z)
  | n + 1, u0, x3, x4, hw => tb_X7_hand_79 hE hr (fun u0 x3 x4  hw1 => tl_X7_hand_79 hE hr  n u0 x3 x4  hw1) hw
def wb_X7_hand_0 (u0 : pa_S) (x1 : Int32) (x2 : Int32) (x3 : Int32) (post : Int32 → pa_S → Prop) : Prop :=
  (wp_X7_in u0 x1 0 6 (fun (r1 : Int32) => (if r1 = 0 then post (-1 : Int32) u0 else (wp_X7_in u0 x2 0 9 (fun (r3 : Int32) => (if r3 = 0 then post (-2 : Int32) u0 else (wp_X7_isLength u0 x3 (fun (r5 : Int32) => (if r5 = 0 then post (-2 : Int32) u0 else (if (pa_I u0 24 0 0) = 5 then post (-4 : Int32) u0 else (vp_in (pa_I u0 24 0 0) 5) ∧ ∀ u9 : pa_S, u9 = pa_sA u0 25 0 (upd (pa_A u0 25 0) (pa_I u0 24 0 0).toNatClampNeg x1) → (vp_in (pa_I u9 24 0 0) 5) ∧ ∀ u11 : pa_S, u11 = pa_sA u9 26 0 (upd (pa_A u9 26 0) (pa_I u9 24 0 0).toNatClampNeg x2) → (vp_in (pa_I u11 24 0 0) 5) ∧ ∀ u13 : pa_S, u13 = pa_sA u11 27 0 (upd (pa_A u11 27 0) (pa_I u11 24 0 0).toNatClampNeg 0) → wl_X7_hand_79 post 5000 u13 x3 0))))))))))
set_option maxRecDepth 100000 in
set_option maxHeartbeats 4000000 in
theorem tb_X7_hand_0 {p : Program} {l : Launch} {e : Env} {s : State} {m : MethodId} {args : Array Value} {below : List Frame} {meth : Method} {c : Code} {A : Nat → Prop} {D : va_G} {g : pa_G} {q : Nat → Nat → Nat} {u0 : pa_S} {x1 : Int32} {x2 : Int32} {x3 : Int32} {post : Int32 → pa_S → Prop} (hE : pa_Fx p s m args meth c A D g 5 cX7_hand RX7) (hr : meth.sig.returnType = (some .int)) (hw : wb_X7_hand_0 u0 x1 x2 x3 post) : pa_At p l e (pa_rm 4) s m args below meth c (MQ below (pa_Qc g D q (fun r => some (.int r)) post A) args s 0 0 A) A D g 5 0 0 q u0 0 [(0, .ref (q 24 0)), (1, .int x1), (2, .int x2), (3, .int x3)] [] := by
  refine pa_aload_n hE dX7_hand_0 rfl 0 rfl ?_
  refine pa_iload_n hE dX7_hand_1 rfl 1 rfl ?_
  refine pa_iconst hE dX7_hand_2 (v := 0) (by decide) ?_
  refine pa_bipush hE dX7_hand_3 (v := 6) (by decide) ?_
  refine pa_callVri hE (ct_X7_in l g D q u0 x1 0 6 _ hw) cv_RX7_221 pa_in24 rfl rfl rfl (pa_hR (by omega) (by decide)) rfl (Nat.le_of_ble_eq_true rfl) dX7_hand_5 (fun r1 hw => ?_)
  refine pa_if_ne hE dX7_hand_8 (tgt := 13) (by decide) (fun h2 => ?_) (fun h2 => ?_)
  · have hw := Eq.mp (if_neg h2) hw
    refine pa_aload_n hE dX7_hand_13 rfl 0 rfl ?_
    refine pa_iload_n hE dX7_hand_14 rfl 2 rfl ?_
    refine pa_iconst hE dX7_hand_15 (v := 0) (by decide) ?_
    refine pa_bipush hE dX7_hand_16 (v := 9) (by decide) ?_
    refine pa_callVri hE (ct_X7_in l g D q u0 x2 0 9 _ hw) cv_RX7_221 pa_in24 rfl rfl rfl (pa_hR (by omega) (by decide)) rfl (Nat.le_of_ble_eq_true rfl) dX7_hand_18 (fun r3 hw => ?_)
    refine pa_if_eq hE dX7_hand_21 (tgt := 32) (by decide) (fun h4 => ?_) (fun h4 => ?_)
    · have hw := Eq.mp (if_pos h4) hw
      refine pa_bipush hE dX7_hand_32 (v := (-2 : Int32)) (by decide) ?_
      exact pa_iret hE hr hw rfl dX7_hand_34
    · have hw := Eq.mp (if_neg h4) hw
      refine pa_aload_n hE dX7_hand_24 rfl 0 rfl ?_
      refine pa_iload_n hE dX7_hand_25 rfl 3 rfl ?_
      refine pa_callVri hE (ct_X7_isLength l g D q u0 x3 _ hw) cv_RX7_225 pa_in24 rfl rfl rfl (pa_hR (by omega) (by decide)) rfl (Nat.le_of_ble_eq_true rfl) dX7_hand_26 (fun r5 hw => ?_)
      refine pa_if_ne hE dX7_hand_29 (tgt := 35) (by decide) (fun h6 => ?_) (fun h6 => ?_)
      · have hw := Eq.mp (if_neg h6) hw
        refine pa_aload_n hE dX7_hand_35 rfl 0 rfl ?_
        refine pg_24_0 hE (pa_m4 121 rfl rfl) dX7_hand_36 ?_
        refine pa_iconst hE dX7_hand_39 (v := 5) (by decide) ?_
        refine pa_icmp_ne hE dX7_hand_40 (tgt := 46) (by decide) (fun h7 => ?_) (fun h7 => ?_)
        · have hw := Eq.mp (if_neg h7) hw
          refine pa_aload_n hE dX7_hand_46 rfl 0 rfl ?_
          refine pg_24_3 hE (pa_m4 124 rfl rfl) dX7_hand_47 ?_
          refine pa_aload_n hE dX7_hand_50 rfl 0 rfl ?_
          refine pg_24_0 hE (pa_m4 121 rfl rfl) dX7_hand_51 ?_
          refine pa_iload_n hE dX7_hand_54 rfl 1 rfl ?_
          obtain ⟨h8, hw⟩ := hw
          refine ps_25 hE h8 dX7_hand_55 (fun u9 eu9 => ?_)
          have hw := hw u9 eu9
          refine pa_aload_n hE dX7_hand_56 rfl 0 rfl ?_
          refine pg_24_4 hE (pa_m4 125 rfl rfl) dX7_hand_57 ?_
          refine pa_aload_n hE dX7_hand_60 rfl 0 rfl ?_
          refine pg_24_0 hE (pa_m4 121 rfl rfl) dX7_hand_61 ?_
          refine pa_iload_n hE dX7_hand_64 rfl 2 rfl ?_
          obtain ⟨h10, hw⟩ := hw
          refine ps_26 hE h10 dX7_hand_65 (fun u11 eu11 => ?_)
          have hw := hw u11 eu11
          refine pa_aload_n hE dX7_hand_66 rfl 0 rfl ?_
          refine pg_24_5 hE (pa_m4 126 rfl rfl) dX7_hand_67 ?_
          refine pa_aload_n hE dX7_hand_70 rfl 0 rfl ?_
          refine pg_24_0 hE (pa_m4 121 rfl rfl) dX7_hand_71 ?_
          refine pa_iconst hE dX7_hand_74 (v := 0) (by decide) ?_
          obtain ⟨h12, hw⟩ := hw
          refine ps_27 hE h12 dX7_hand_75 (fun u13 eu13 => ?_)
          have hw := hw u13 eu13
          refine pa_iconst hE dX7_hand_76 (v := 0) (by decide) ?_
          refine pa_istore hE dX7_hand_77 (by decide) (lvr := [(0, .ref (q 24 0)), (1, .int x1), (2, .int x2), (3, .int x3)]) rfl ?_
          exact pa_sub [1, 4, 0] rfl (tl_X7_hand_79 hE hr 5000 u13 x3 0 hw)
        · have hw := Eq.mp (if_pos h7) hw
          refine pa_bipush hE dX7_hand_43 (v := (-4 : Int32)) (by decide) ?_
          exact pa_iret hE hr hw rfl dX7_hand_45
      · have hw := Eq.mp (if_pos h6) hw
        refine pa_bipush hE dX7_hand_32 (v := (-2 : Int32)) (by decide) ?_
        exact pa_iret hE hr hw rfl dX7_hand_34
  · have hw := Eq.mp (if_pos h2) hw
    refine pa_iconst hE dX7_hand_11 (v := (-1 : Int32)) (by decide) ?_
    exact pa_iret hE hr hw rfl dX7_hand_12
def wp_X7_hand (u0 : pa_S) (x1 : Int32) (x2 : Int32) (x3 : Int32) (post : Int32 → pa_S → Prop) : Prop := wb_X7_hand_0 u0 x1 x2 x3 post
theorem ct_X7_hand (l : Launch) (g : pa_G) (D : va_G) (q : Nat → Nat → Nat) (u0 : pa_S) (x1 : Int32) (x2 : Int32) (x3 : Int32) (post : Int32 → pa_S → Prop)  (hw : wp_X7_hand u0 x1 x2 x3 post) : pa_Ct l yX7_hand cX7_hand 5 (some .int) 4 g D q u0 [.ref (q 24 0), .int x1, .int x2, .int x3] (fun r => some (.int r)) post := pa_met rfl rfl (Nat.le_of_ble_eq_true rfl) rfl (fun p e s m args below meth c A hE hr => tb_X7_hand_0 hE hr  hw)
def wb_X7_set_0 (u0 : pa_S) (x1 : Int32) (x2 : Int32) (x3 : Int32) (post : Int32 → pa_S → Prop) : Prop :=
  (wp_X7_isHand u0 x1 (fun (r1 : Int32) => (if r1 = 0 then post (-1 : Int32) u0 else (wp_X7_isLine u0 x2 (fun (r3 : Int32) => (if r3 = 0 then post (-1 : Int32) u0 else (wp_X7_isLength u0 x3 (fun (r5 : Int32) => (if r5 = 0 then post (-2 : Int32) u0 else (vp_in ((3 * x1) + x2) 15) ∧ ∀ v8 : Int32, v8 = (pa_A u0 28 0 ((3 * x1) + x2).toNatClampNeg) → (vp_in ((3 * x1) + x2) 15) ∧ ∀ u10 : pa_S, u10 = pa_sA u0 28 0 (upd (pa_A u0 28 0) ((3 * x1) + x2).toNatClampNeg x3) → post v8 u10)))))))))
set_option maxRecDepth 100000 in
set_option maxHeartbeats 4000000 in
theorem tb_X7_set_0 {p : Program} {l : Launch} {e : Env} {s : State} {m : MethodId} {args : Array Value} {below : List Frame} {meth : Method} {c : Code} {A : Nat → Prop} {D : va_G} {g : pa_G} {q : Nat → Nat → Nat} {u0 : pa_S} {x1 : Int32} {x2 : Int32} {x3 : Int32} {post : Int32 → pa_S → Prop} (hE : pa_Fx p s m args meth c A D g 5 cX7_set RX7) (hr : meth.sig.returnType = (some .int)) (hw : wb_X7_set_0 u0 x1 x2 x3 post) : pa_At p l e (pa_rm 4) s m args below meth c (MQ below (pa_Qc g D q (fun r => some (.int r)) post A) args s 0 0 A) A D g 5 0 0 q u0 0 [(0, .ref (q 24 0)), (1, .int x1), (2, .int x2), (3, .int x3)] [] := by
  refine pa_aload_n hE dX7_set_0 rfl 0 rfl ?_
  refine pa_iload_n hE dX7_set_1 rfl 1 rfl ?_
  refine pa_callVri hE (ct_X7_isHand l g D q u0 x1 _ hw) cv_RX7_229 pa_in24 rfl rfl rfl (pa_hR (by omega) (by decide)) rfl (Nat.le_of_ble_eq_true rfl) dX7_set_2 (fun r1 hw => ?_)
  refine pa_if_eq hE dX7_set_5 (tgt := 16) (by decide) (fun h2 => ?_) (fun h2 => ?_)
  · have hw := Eq.mp (if_pos h2) hw
    refine pa_iconst hE dX7_set_16 (v := (-1 : Int32)) (by decide) ?_
    exact pa_iret hE hr hw rfl dX7_set_17
  · have hw := Eq.mp (if_neg h2) hw
    refine pa_aload_n hE dX7_set_8 rfl 0 rfl ?_
    refine pa_iload_n hE dX7_set_9 rfl 2 rfl ?_
    refine pa_callVri hE (ct_X7_isLine l g D q u0 x2 _ hw) cv_RX7_232 pa_in24 rfl rfl rfl (pa_hR (by omega) (by decide)) rfl (Nat.le_of_ble_eq_true rfl) dX7_set_10 (fun r3 hw => ?_)
    refine pa_if_ne hE dX7_set_13 (tgt := 18) (by decide) (fun h4 => ?_) (fun h4 => ?_)
    · have hw := Eq.mp (if_neg h4) hw
      refine pa_aload_n hE dX7_set_18 rfl 0 rfl ?_
      refine pa_iload_n hE dX7_set_19 rfl 3 rfl ?_
      refine pa_callVri hE (ct_X7_isLength l g D q u0 x3 _ hw) cv_RX7_225 pa_in24 rfl rfl rfl (pa_hR (by omega) (by decide)) rfl (Nat.le_of_ble_eq_true rfl) dX7_set_20 (fun r5 hw => ?_)
      refine pa_if_ne hE dX7_set_23 (tgt := 29) (by decide) (fun h6 => ?_) (fun h6 => ?_)
      · have hw := Eq.mp (if_neg h6) hw
        refine pa_aload_n hE dX7_set_29 rfl 0 rfl ?_
        refine pg_24_6 hE (pa_m4 127 rfl rfl) dX7_set_30 ?_
        refine pa_iconst hE dX7_set_33 (v := 3) (by decide) ?_
        refine pa_iload_n hE dX7_set_34 rfl 1 rfl ?_
        refine pa_imul hE dX7_set_35 ?_
        refine pa_iload_n hE dX7_set_36 rfl 2 rfl ?_
        refine pa_iadd hE dX7_set_37 ?_
        obtain ⟨h7, hw⟩ := hw
        refine pl_28 hE h7 dX7_set_38 ?_
        refine pa_namei (fun v8 ev8 => ?_)
        have hw := hw v8 ev8
        refine pa_istore hE dX7_set_39 (by decide) (lvr := [(0, .ref (q 24 0)), (1, .int x1), (2, .int x2), (3, .int x3)]) rfl ?_
        refine pa_aload_n hE dX7_set_41 rfl 1 rfl ?_
        refine pg_24_6 hE (pa_m4 127 rfl rfl) dX7_set_42 ?_
        refine pa_iconst hE dX7_set_45 (v := 3) (by decide) ?_
        refine pa_iload_n hE dX7_set_46 rfl 2 rfl ?_
        refine pa_imul hE dX7_set_47 ?_
        refine pa_iload_n hE dX7_set_48 rfl 3 rfl ?_
        refine pa_iadd hE dX7_set_49 ?_
        refine pa_iload_n hE dX7_set_50 rfl 4 rfl ?_
        obtain ⟨h9, hw⟩ := hw
        refine ps_28 hE h9 dX7_set_51 (fun u10 eu10 => ?_)
        have hw := hw u10 eu10
        refine pa_iload hE dX7_set_52 0 rfl ?_
        exact pa_iret hE hr hw rfl dX7_set_54
      · have hw := Eq.mp (if_pos h6) hw
        refine pa_bipush hE dX7_set_26 (v := (-2 : Int32)) (by decide) ?_
        exact pa_iret hE hr hw rfl dX7_set_28
    · have hw := Eq.mp (if_pos h4) hw
      refine pa_iconst hE dX7_set_16 (v := (-1 : Int32)) (by decide) ?_
      exact pa_iret hE hr hw rfl dX7_set_17
def wp_X7_set (u0 : pa_S) (x1 : Int32) (x2 : Int32) (x3 : Int32) (post : Int32 → pa_S → Prop) : Prop := wb_X7_set_0 u0 x1 x2 x3 post
theorem ct_X7_set (l : Launch) (g : pa_G) (D : va_G) (q : Nat → Nat → Nat) (u0 : pa_S) (x1 : Int32) (x2 : Int32) (x3 : Int32) (post : Int32 → pa_S → Prop)  (hw : wp_X7_set u0 x1 x2 x3 post) : pa_Ct l yX7_set cX7_set 5 (some .int) 4 g D q u0 [.ref (q 24 0), .int x1, .int x2, .int x3] (fun r => some (.int r)) post := pa_met rfl rfl (Nat.le_of_ble_eq_true rfl) rfl (fun p e s m args below meth c A hE hr => tb_X7_set_0 hE hr  hw)
def wb_X7_row_0 (u0 : pa_S) (x1 : Int32) (x2 : Int32) (x3 : Int32) (post : Int32 → pa_S → Prop) : Prop :=
  (wp_X7_isHand u0 x1 (fun (r1 : Int32) => (if r1 = 0 then post (-1 : Int32) u0 else (wp_X7_in u0 x2 0 3 (fun (r3 : Int32) => (if r3 = 0 then post (-1 : Int32) u0 else (wp_X7_in u0 x3 0 9 (fun (r5 : Int32) => (if r5 = 0 then post (-2 : Int32) u0 else (vp_in x1 5) ∧ (if (pa_A u0 25 0 x1.toNatClampNeg) = 6 then (vp_in ((4 * x1) + x2) 20) ∧ ∀ v10 : Int32, v10 = (pa_A u0 29 0 ((4 * x1) + x2).toNatClampNeg) → (vp_in ((4 * x1) + x2) 20) ∧ ∀ u12 : pa_S, u12 = pa_sA u0 29 0 (upd (pa_A u0 29 0) ((4 * x1) + x2).toNatClampNeg x3) → post v10 u12 else post (-3 : Int32) u0))))))))))
set_option maxRecDepth 100000 in
set_option maxHeartbeats 4000000 in
theorem tb_X7_row_0 {p : Program} {l : Launch} {e : Env} {s : State} {m : MethodId} {args : Array Value} {below : List Frame} {meth : Method} {c : Code} {A : Nat → Prop} {D : va_G} {g : pa_G} {q : Nat → Nat → Nat} {u0 : pa_S} {x1 : Int32} {x2 : Int32} {x3 : Int32} {post : Int32 → pa_S → Prop} (hE : pa_Fx p s m args meth c A D g 5 cX7_row RX7) (hr : meth.sig.returnType = (some .int)) (hw : wb_X7_row_0 u0 x1 x2 x3 post) : pa_At p l e (pa_rm 4) s m args below meth c (MQ below (pa_Qc g D q (fun r => some (.int r)) post A) args s 0 0 A) A D g 5 0 0 q u0 0 [(0, .ref (q 24 0)), (1, .int x1), (2, .int x2), (3, .int x3)] [] := by
  refine pa_aload_n hE dX7_row_0 rfl 0 rfl ?_
  refine pa_iload_n hE dX7_row_1 rfl 1 rfl ?_
  refine pa_callVri hE (ct_X7_isHand l g D q u0 x1 _ hw) cv_RX7_229 pa_in24 rfl rfl rfl (pa_hR (by omega) (by decide)) rfl (Nat.le_of_ble_eq_true rfl) dX7_row_2 (fun r1 hw => ?_)
  refine pa_if_eq hE dX7_row_5 (tgt := 18) (by decide) (fun h2 => ?_) (fun h2 => ?_)
  · have hw := Eq.mp (if_pos h2) hw
    refine pa_iconst hE dX7_row_18 (v := (-1 : Int32)) (by decide) ?_
    exact pa_iret hE hr hw rfl dX7_row_19
  · have hw := Eq.mp (if_neg h2) hw
    refine pa_aload_n hE dX7_row_8 rfl 0 rfl ?_
    refine pa_iload_n hE dX7_row_9 rfl 2 rfl ?_
    refine pa_iconst hE dX7_row_10 (v := 0) (by decide) ?_
    refine pa_iconst hE dX7_row_11 (v := 3) (by decide) ?_
    refine pa_callVri hE (ct_X7_in l g D q u0 x2 0 3 _ hw) cv_RX7_221 pa_in24 rfl rfl rfl (pa_hR (by omega) (by decide)) rfl (Nat.le_of_ble_eq_true rfl) dX7_row_12 (fun r3 hw => ?_)
    refine pa_if_ne hE dX7_row_15 (tgt := 20) (by decide) (fun h4 => ?_) (fun h4 => ?_)
    · have hw := Eq.mp (if_neg h4) hw
      refine pa_aload_n hE dX7_row_20 rfl 0 rfl ?_
      refine pa_iload_n hE dX7_row_21 rfl 3 rfl ?_
      refine pa_iconst hE dX7_row_22 (v := 0) (by decide) ?_
      refine pa_bipush hE dX7_row_23 (v := 9) (by decide) ?_
      refine pa_callVri hE (ct_X7_in l g D q u0 x3 0 9 _ hw) cv_RX7_221 pa_in24 rfl rfl rfl (pa_hR (by omega) (by decide)) rfl (Nat.le_of_ble_eq_true rfl) dX7_row_25 (fun r5 hw => ?_)
      refine pa_if_ne hE dX7_row_28 (tgt := 34) (by decide) (fun h6 => ?_) (fun h6 => ?_)
      · have hw := Eq.mp (if_neg h6) hw
        refine pa_aload_n hE dX7_row_34 rfl 0 rfl ?_
        refine pg_24_3 hE (pa_m4 124 rfl rfl) dX7_row_35 ?_
        refine pa_iload_n hE dX7_row_38 rfl 1 rfl ?_
        obtain ⟨h7, hw⟩ := hw
        refine pl_25 hE h7 dX7_row_39 ?_
        refine pa_bipush hE dX7_row_40 (v := 6) (by decide) ?_
        refine pa_icmp_eq hE dX7_row_42 (tgt := 48) (by decide) (fun h8 => ?_) (fun h8 => ?_)
        · have hw := Eq.mp (if_pos h8) hw
          refine pa_aload_n hE dX7_row_48 rfl 0 rfl ?_
          refine pg_24_7 hE (pa_m4 128 rfl rfl) dX7_row_49 ?_
          refine pa_iconst hE dX7_row_52 (v := 4) (by decide) ?_
          refine pa_iload_n hE dX7_row_53 rfl 1 rfl ?_
          refine pa_imul hE dX7_row_54 ?_
          refine pa_iload_n hE dX7_row_55 rfl 2 rfl ?_
          refine pa_iadd hE dX7_row_56 ?_
          obtain ⟨h9, hw⟩ := hw
          refine pl_29 hE h9 dX7_row_57 ?_
          refine pa_namei (fun v10 ev10 => ?_)
          have hw := hw v10 ev10
          refine pa_istore hE dX7_row_58 (by decide) (lvr := [(0, .ref (q 24 0)), (1, .int x1), (2, .int x2), (3, .int x3)]) rfl ?_
          refine pa_aload_n hE dX7_row_60 rfl 1 rfl ?_
          refine pg_24_7 hE (pa_m4 128 rfl rfl) dX7_row_61 ?_
          refine pa_iconst hE dX7_row_64 (v := 4) (by decide) ?_
          refine pa_iload_n hE dX7_row_65 rfl 2 rfl ?_
          refine pa_imul hE dX7_row_66 ?_
          refine pa_iload_n hE dX7_row_67 rfl 3 rfl ?_
          refine pa_iadd hE dX7_row_68 ?_
          refine pa_iload_n hE dX7_row_69 rfl 4 rfl ?_
          obtain ⟨h11, hw⟩ := hw
          refine ps_29 hE h11 dX7_row_70 (fun u12 eu12 => ?_)
          have hw := hw u12 eu12
          refine pa_iload hE dX7_row_71 0 rfl ?_
          exact pa_iret hE hr hw rfl dX7_row_73
        · have hw := Eq.mp (if_neg h8) hw
          refine pa_bipush hE dX7_row_45 (v := (-3 : Int32)) (by decide) ?_
          exact pa_iret hE hr hw rfl dX7_row_47
      · have hw := Eq.mp (if_pos h6) hw
        refine pa_bipush hE dX7_row_31 (v := (-2 : Int32)) (by decide) ?_
        exact pa_iret hE hr hw rfl dX7_row_33
    · have hw := Eq.mp (if_pos h4) hw
      refine pa_iconst hE dX7_row_18 (v := (-1 : Int32)) (by decide) ?_
      exact pa_iret hE hr hw rfl dX7_row_19
def wp_X7_row (u0 : pa_S) (x1 : Int32) (x2 : Int32) (x3 : Int32) (post : Int32 → pa_S → Prop) : Prop := wb_X7_row_0 u0 x1 x2 x3 post
theorem ct_X7_row (l : Launch) (g : pa_G) (D : va_G) (q : Nat → Nat → Nat) (u0 : pa_S) (x1 : Int32) (x2 : Int32) (x3 : Int32) (post : Int32 → pa_S → Prop)  (hw : wp_X7_row u0 x1 x2 x3 post) : pa_Ct l yX7_row cX7_row 5 (some .int) 4 g D q u0 [.ref (q 24 0), .int x1, .int x2, .int x3] (fun r => some (.int r)) post := pa_met rfl rfl (Nat.le_of_ble_eq_true rfl) rfl (fun p e s m args below meth c A hE hr => tb_X7_row_0 hE hr  hw)
def wb_X7_ink_0 (u0 : pa_S) (x1 : Int32) (post : Int32 → pa_S → Prop) : Prop :=
  (wp_X7_in u0 x1 0 999 (fun (r1 : Int32) => (if r1 = 0 then post (-2 : Int32) u0 else ∀ v3 : Int32, v3 = (pa_I u0 24 0 2) → ∀ u4 : pa_S, u4 = pa_sI u0 24 0 2 x1 → post v3 u4)))
set_option maxRecDepth 100000 in
set_option maxHeartbeats 4000000 in
theorem tb_X7_ink_0 {p : Program} {l : Launch} {e : Env} {s : State} {m : MethodId} {args : Array Value} {below : List Frame} {meth : Method} {c : Code} {A : Nat → Prop} {D : va_G} {g : pa_G} {q : Nat → Nat → Nat} {u0 : pa_S} {x1 : Int32} {post : Int32 → pa_S → Prop} (hE : pa_Fx p s m args meth c A D g 3 cX7_ink RX7) (hr : meth.sig.returnType = (some .int)) (hw : wb_X7_ink_0 u0 x1 post) : pa_At p l e (pa_rm 3) s m args below meth c (MQ below (pa_Qc g D q (fun r => some (.int r)) post A) args s 0 0 A) A D g 3 0 0 q u0 0 [(0, .ref (q 24 0)), (1, .int x1)] [] := by
  refine pa_aload_n hE dX7_ink_0 rfl 0 rfl ?_
  refine pa_iload_n hE dX7_ink_1 rfl 1 rfl ?_
  refine pa_iconst hE dX7_ink_2 (v := 0) (by decide) ?_
  refine pa_sipush hE dX7_ink_3 (v := 999) (by decide) ?_
  refine pa_callVri hE (ct_X7_in l g D q u0 x1 0 999 _ hw) cv_RX7_221 pa_in24 rfl rfl rfl (pa_hR (by omega) (by decide)) rfl (Nat.le_of_ble_eq_true rfl) dX7_ink_6 (fun r1 hw => ?_)
  refine pa_if_ne hE dX7_ink_9 (tgt := 15) (by decide) (fun h2 => ?_) (fun h2 => ?_)
  · have hw := Eq.mp (if_neg h2) hw
    refine pa_aload_n hE dX7_ink_15 rfl 0 rfl ?_
    refine pg_24_2 hE (pa_m4 123 rfl rfl) dX7_ink_16 ?_
    refine pa_namei (fun v3 ev3 => ?_)
    have hw := hw v3 ev3
    refine pa_istore_n hE dX7_ink_19 rfl (by decide) (lvr := [(0, .ref (q 24 0)), (1, .int x1)]) rfl ?_
    refine pa_aload_n hE dX7_ink_20 rfl 1 rfl ?_
    refine pa_iload_n hE dX7_ink_21 rfl 2 rfl ?_
    refine pp_24_2 hE (pa_m4 123 rfl rfl) dX7_ink_22 (fun u4 eu4 => ?_)
    have hw := hw u4 eu4
    refine pa_iload_n hE dX7_ink_25 rfl 0 rfl ?_
    exact pa_iret hE hr hw rfl dX7_ink_26
  · have hw := Eq.mp (if_pos h2) hw
    refine pa_bipush hE dX7_ink_12 (v := (-2 : Int32)) (by decide) ?_
    exact pa_iret hE hr hw rfl dX7_ink_14
def wp_X7_ink (u0 : pa_S) (x1 : Int32) (post : Int32 → pa_S → Prop) : Prop := wb_X7_ink_0 u0 x1 post
theorem ct_X7_ink (l : Launch) (g : pa_G) (D : va_G) (q : Nat → Nat → Nat) (u0 : pa_S) (x1 : Int32) (post : Int32 → pa_S → Prop)  (hw : wp_X7_ink u0 x1 post) : pa_Ct l yX7_ink cX7_ink 3 (some .int) 3 g D q u0 [.ref (q 24 0), .int x1] (fun r => some (.int r)) post := pa_met rfl rfl (Nat.le_of_ble_eq_true rfl) rfl (fun p e s m args below meth c A hE hr => tb_X7_ink_0 hE hr  hw)
def wb_X7_feed_0 (u0 : pa_S) (x1 : Int32) (post : Int32 → pa_S → Prop) : Prop :=
  (wp_X7_in u0 x1 0 127 (fun (r1 : Int32) => (if r1 = 0 then post (-2 : Int32) u0 else (if (pa_I u0 24 0 10) = 100 then post (-4 : Int32) u0 else (vp_in (pa_I u0 24 0 10) 100) ∧ ∀ u5 : pa_S, u5 = pa_sA u0 30 0 (upd (pa_A u0 30 0) (pa_I u0 24 0 10).toNatClampNeg x1) → ∀ u6 : pa_S, u6 = pa_sI u5 24 0 10 ((pa_I u5 24 0 10) + 1) → post (pa_I u6 24 0 10) u6))))
set_option maxRecDepth 100000 in
set_option maxHeartbeats 4000000 in
theorem tb_X7_feed_0 {p : Program} {l : Launch} {e : Env} {s : State} {m : MethodId} {args : Array Value} {below : List Frame} {meth : Method} {c : Code} {A : Nat → Prop} {D : va_G} {g : pa_G} {q : Nat → Nat → Nat} {u0 : pa_S} {x1 : Int32} {post : Int32 → pa_S → Prop} (hE : pa_Fx p s m args meth c A D g 2 cX7_feed RX7) (hr : meth.sig.returnType = (some .int)) (hw : wb_X7_feed_0 u0 x1 post) : pa_At p l e (pa_rm 3) s m args below meth c (MQ below (pa_Qc g D q (fun r => some (.int r)) post A) args s 0 0 A) A D g 2 0 0 q u0 0 [(0, .ref (q 24 0)), (1, .int x1)] [] := by
  refine pa_aload_n hE dX7_feed_0 rfl 0 rfl ?_
  refine pa_iload_n hE dX7_feed_1 rfl 1 rfl ?_
  refine pa_iconst hE dX7_feed_2 (v := 0) (by decide) ?_
  refine pa_bipush hE dX7_feed_3 (v := 127) (by decide) ?_
  refine pa_callVri hE (ct_X7_in l g D q u0 x1 0 127 _ hw) cv_RX7_221 pa_in24 rfl rfl rfl (pa_hR (by omega) (by decide)) rfl (Nat.le_of_ble_eq_true rfl) dX7_feed_5 (fun r1 hw => ?_)
  refine pa_if_ne hE dX7_feed_8 (tgt := 14) (by decide) (fun h2 => ?_) (fun h2 => ?_)
  · have hw := Eq.mp (if_neg h2) hw
    refine pa_aload_n hE dX7_feed_14 rfl 0 rfl ?_
    refine pg_24_10 hE (pa_m4 131 rfl rfl) dX7_feed_15 ?_
    refine pa_bipush hE dX7_feed_18 (v := 100) (by decide) ?_
    refine pa_icmp_ne hE dX7_feed_20 (tgt := 26) (by decide) (fun h3 => ?_) (fun h3 => ?_)
    · have hw := Eq.mp (if_neg h3) hw
      refine pa_aload_n hE dX7_feed_26 rfl 0 rfl ?_
      refine pg_24_13 hE (pa_m4 134 rfl rfl) dX7_feed_27 ?_
      refine pa_aload_n hE dX7_feed_30 rfl 0 rfl ?_
      refine pg_24_10 hE (pa_m4 131 rfl rfl) dX7_feed_31 ?_
      refine pa_iload_n hE dX7_feed_34 rfl 1 rfl ?_
      obtain ⟨h4, hw⟩ := hw
      refine ps_30 hE h4 dX7_feed_35 (fun u5 eu5 => ?_)
      have hw := hw u5 eu5
      refine pa_aload_n hE dX7_feed_36 rfl 0 rfl ?_
      refine pa_dup hE dX7_feed_37 rfl ?_
      refine pg_24_10 hE (pa_m4 131 rfl rfl) dX7_feed_38 ?_
      refine pa_iconst hE dX7_feed_41 (v := 1) (by decide) ?_
      refine pa_iadd hE dX7_feed_42 ?_
      refine pp_24_10 hE (pa_m4 131 rfl rfl) dX7_feed_43 (fun u6 eu6 => ?_)
      have hw := hw u6 eu6
      refine pa_aload_n hE dX7_feed_46 rfl 0 rfl ?_
      refine pg_24_10 hE (pa_m4 131 rfl rfl) dX7_feed_47 ?_
      exact pa_iret hE hr hw rfl dX7_feed_50
    · have hw := Eq.mp (if_pos h3) hw
      refine pa_bipush hE dX7_feed_23 (v := (-4 : Int32)) (by decide) ?_
      exact pa_iret hE hr hw rfl dX7_feed_25
  · have hw := Eq.mp (if_pos h2) hw
    refine pa_bipush hE dX7_feed_11 (v := (-2 : Int32)) (by decide) ?_
    exact pa_iret hE hr hw rfl dX7_feed_13
def wp_X7_feed (u0 : pa_S) (x1 : Int32) (post : Int32 → pa_S → Prop) : Prop := wb_X7_feed_0 u0 x1 post
theorem ct_X7_feed (l : Launch) (g : pa_G) (D : va_G) (q : Nat → Nat → Nat) (u0 : pa_S) (x1 : Int32) (post : Int32 → pa_S → Prop)  (hw : wp_X7_feed u0 x1 post) : pa_Ct l yX7_feed cX7_feed 2 (some .int) 3 g D q u0 [.ref (q 24 0), .int x1] (fun r => some (.int r)) post := pa_met rfl rfl (Nat.le_of_ble_eq_true rfl) rfl (fun p e s m args below meth c A hE hr => tb_X7_feed_0 hE hr  hw)
def wb_X7_next_0 (u0 : pa_S) (post : Int32 → Prop) : Prop :=
  (if (pa_I u0 24 0 10) ≤ (pa_I u0 24 0 11) then post (-1 : Int32) else (vp_in (pa_I u0 24 0 11) 100) ∧ post (pa_A u0 30 0 (pa_I u0 24 0 11).toNatClampNeg))
set_option maxRecDepth 100000 in
set_option maxHeartbeats 4000000 in
theorem tb_X7_next_0 {p : Program} {l : Launch} {e : Env} {s : State} {m : MethodId} {args : Array Value} {below : List Frame} {meth : Method} {c : Code} {A : Nat → Prop} {D : va_G} {g : pa_G} {q : Nat → Nat → Nat} {u0 : pa_S} {post : Int32 → Prop} (hE : pa_Fx p s m args meth c A D g 1 cX7_next RX7) (hr : meth.sig.returnType = (some .int)) (hw : wb_X7_next_0 u0 post) : pa_At p l e (pa_rm 2) s m args below meth c (MQ below (pa_Qc g D q (fun r => some (.int r)) (fun r u => u = u0 ∧ post r) A) args s 0 0 A) A D g 1 0 0 q u0 0 [(0, .ref (q 24 0))] [] := by
  refine pa_aload_n hE dX7_next_0 rfl 0 rfl ?_
  refine pg_24_11 hE (pa_m4 132 rfl rfl) dX7_next_1 ?_
  refine pa_aload_n hE dX7_next_4 rfl 0 rfl ?_
  refine pg_24_10 hE (pa_m4 131 rfl rfl) dX7_next_5 ?_
  refine pa_icmp_ge hE dX7_next_8 (tgt := 23) (by decide) (fun h1 => ?_) (fun h1 => ?_)
  · have hw := Eq.mp (if_pos h1) hw
    refine pa_iconst hE dX7_next_23 (v := (-1 : Int32)) (by decide) ?_
    exact pa_iret hE hr ⟨rfl, hw⟩ rfl dX7_next_24
  · have hw := Eq.mp (if_neg h1) hw
    refine pa_aload_n hE dX7_next_11 rfl 0 rfl ?_
    refine pg_24_13 hE (pa_m4 134 rfl rfl) dX7_next_12 ?_
    refine pa_aload_n hE dX7_next_15 rfl 0 rfl ?_
    refine pg_24_11 hE (pa_m4 132 rfl rfl) dX7_next_16 ?_
    obtain ⟨h2, hw⟩ := hw
    refine pl_30 hE h2 dX7_next_19 ?_
    refine pa_goto hE dX7_next_20 (tgt := 24) (by decide) ?_
    exact pa_iret hE hr ⟨rfl, hw⟩ rfl dX7_next_24
def wp_X7_next (u0 : pa_S) (post : Int32 → Prop) : Prop := wb_X7_next_0 u0 post
theorem ct_X7_next (l : Launch) (g : pa_G) (D : va_G) (q : Nat → Nat → Nat) (u0 : pa_S) (post : Int32 → Prop)  (hw : wp_X7_next u0 post) : pa_Ct l yX7_next cX7_next 1 (some .int) 2 g D q u0 [.ref (q 24 0)] (fun r => some (.int r)) (fun r u => u = u0 ∧ post r) := pa_met rfl rfl (Nat.le_of_ble_eq_true rfl) rfl (fun p e s m args below meth c A hE hr => tb_X7_next_0 hE hr  hw)
def wb_X7_takes_0 (u0 : pa_S) (x1 : Int32) (post : Int32 → pa_S → Prop) : Prop :=
  (wp_X7_next u0 (fun (r1 : Int32) => (if r1 = x1 then ∀ u3 : pa_S, u3 = pa_sI u0 24 0 11 ((pa_I u0 24 0 11) + 1) → post 1 u3 else post 0 u0)))
set_option maxRecDepth 100000 in
set_option maxHeartbeats 4000000 in
theorem tb_X7_takes_0 {p : Program} {l : Launch} {e : Env} {s : State} {m : MethodId} {args : Array Value} {below : List Frame} {meth : Method} {c : Code} {A : Nat → Prop} {D : va_G} {g : pa_G} {q : Nat → Nat → Nat} {u0 : pa_S} {x1 : Int32} {post : Int32 → pa_S → Prop} (hE : pa_Fx p s m args meth c A D g 2 cX7_takes RX7) (hr : meth.sig.returnType = (some .boolean)) (hw : wb_X7_takes_0 u0 x1 post) : pa_At p l e (pa_rm 3) s m args below meth c (MQ below (pa_Qc g D q (fun r => some (.int r)) post A) args s 0 0 A) A D g 2 0 0 q u0 0 [(0, .ref (q 24 0)), (1, .int x1)] [] := by
  refine pa_aload_n hE dX7_takes_0 rfl 0 rfl ?_
  refine pa_callVri hE (ct_X7_next l g D q u0 _ hw) cv_RX7_235 pa_in24 rfl rfl rfl (pa_hR (by omega) (by decide)) rfl (Nat.le_of_ble_eq_true rfl) dX7_takes_1 (fun r1 hw => ?_)
  refine pa_iload_n hE dX7_takes_4 rfl 1 rfl ?_
  refine pa_icmp_eq hE dX7_takes_5 (tgt := 10) (by decide) (fun h2 => ?_) (fun h2 => ?_)
  · have hw := Eq.mp (if_pos h2) hw
    refine pa_aload_n hE dX7_takes_10 rfl 0 rfl ?_
    refine pa_dup hE dX7_takes_11 rfl ?_
    refine pg_24_11 hE (pa_m4 132 rfl rfl) dX7_takes_12 ?_
    refine pa_iconst hE dX7_takes_15 (v := 1) (by decide) ?_
    refine pa_iadd hE dX7_takes_16 ?_
    refine pp_24_11 hE (pa_m4 132 rfl rfl) dX7_takes_17 (fun u3 eu3 => ?_)
    have hw := hw u3 eu3
    refine pa_iconst hE dX7_takes_20 (v := 1) (by decide) ?_
    exact pa_zret hE hr (by decide) hw rfl dX7_takes_21
  · have hw := Eq.mp (if_neg h2) hw
    refine pa_iconst hE dX7_takes_8 (v := 0) (by decide) ?_
    exact pa_zret hE hr (by decide) hw rfl dX7_takes_9
def wp_X7_takes (u0 : pa_S) (x1 : Int32) (post : Int32 → pa_S → Prop) : Prop := wb_X7_takes_0 u0 x1 post
theorem ct_X7_takes (l : Launch) (g : pa_G) (D : va_G) (q : Nat → Nat → Nat) (u0 : pa_S) (x1 : Int32) (post : Int32 → pa_S → Prop)  (hw : wp_X7_takes u0 x1 post) : pa_Ct l yX7_takes cX7_takes 2 (some .boolean) 3 g D q u0 [.ref (q 24 0), .int x1] (fun r => some (.int r)) post := pa_met rfl rfl (Nat.le_of_ble_eq_true rfl) rfl (fun p e s m args below meth c A hE hr => tb_X7_takes_0 hE hr  hw)
def wb_X7_takesWord_2 (k2 : pa_S → Int32 → Int32 → Int32 → Prop) (u0 : pa_S) (x1 : Int32) (x2 : Int32) (x3 : Int32) (post : Int32 → pa_S → Prop) : Prop :=
  (if x2 ≤ x3 then (wp_X7_takes u0 32 (fun (r2 : Int32) (u3 : pa_S) => (r2 &&& 1 = r2) ∧ post r2 u3)) else (vp_in (x1 + x3) 20) ∧ (wp_X7_takes u0 (pa_A u0 38 0 (x1 + x3).toNatClampNeg) (fun (r6 : Int32) (u7 : pa_S) => (if r6 = 0 then post 0 u7 else ∀ v9 : Int32, v9 = x3 + 1 → k2 u7 x1 x2 v9))))
set_option maxRecDepth 100000 in
set_option maxHeartbeats 4000000 in
theorem tb_X7_takesWord_2 {p : Program} {l : Launch} {e : Env} {s : State} {m : MethodId} {args : Array Value} {below : List Frame} {meth : Method} {c : Code} {A : Nat → Prop} {D : va_G} {g : pa_G} {q : Nat → Nat → Nat} {k2 : pa_S → Int32 → Int32 → Int32 → Prop} {u0 : pa_S} {x1 : Int32} {x2 : Int32} {x3 : Int32} {post : Int32 → pa_S → Prop} (hE : pa_Fx p s m args meth c A D g 4 cX7_takesWord RX7) (hr : meth.sig.returnType = (some .boolean)) (hk2 : ∀ (u : pa_S)  (x1 : Int32) (x2 : Int32) (x3 : Int32), k2 u x1 x2 x3 → pa_At p l e (pa_rm 4) s m args below meth c (MQ below (pa_Qc g D q (fun r => some (.int r)) post A) args s 0 0 A) A D g 4 0 0 q u 2 [(0, .ref (q 24 0)), (1, .int x1), (2, .int x2), (3, .int x3)] []) (hw : wb_X7_takesWord_2 k2 u0 x1 x2 x3 post) : pa_At p l e (pa_rm 4) s m args below meth c (MQ below (pa_Qc g D q (fun r => some (.int r)) post A) args s 0 0 A) A D g 4 0 0 q u0 2 [(0, .ref (q 24 0)), (1, .int x1), (2, .int x2), (3, .int x3)] [] := by
  refine pa_iload_n hE dX7_takesWord_2 rfl 3 rfl ?_
  refine pa_iload_n hE dX7_takesWord_3 rfl 2 rfl ?_
  refine pa_icmp_ge hE dX7_takesWord_4 (tgt := 30) (by decide) (fun h1 => ?_) (fun h1 => ?_)
  · have hw := Eq.mp (if_pos h1) hw
    refine pa_aload_n hE dX7_takesWord_30 rfl 0 rfl ?_
    refine pa_bipush hE dX7_takesWord_31 (v := 32) (by decide) ?_
    refine pa_callVi hE (ct_X7_takes l g D q u0 32 _ hw) cv_RX7_239 pa_in24 rfl rfl rfl (pa_hR (by omega) (by decide)) rfl (Nat.le_of_ble_eq_true rfl) dX7_takesWord_33 (fun r2 u3 hw => ?_)
    obtain ⟨h4, hw⟩ := hw
    exact pa_zret hE hr (congrArg Value.int h4) hw rfl dX7_takesWord_36
  · have hw := Eq.mp (if_neg h1) hw
    refine pa_aload_n hE dX7_takesWord_7 rfl 0 rfl ?_
    refine pa_aload_n hE dX7_takesWord_8 rfl 0 rfl ?_
    refine pg_24_24 hE (pa_m4 145 rfl rfl) dX7_takesWord_9 ?_
    refine pa_iload_n hE dX7_takesWord_12 rfl 1 rfl ?_
    refine pa_iload_n hE dX7_takesWord_13 rfl 3 rfl ?_
    refine pa_iadd hE dX7_takesWord_14 ?_
    obtain ⟨h5, hw⟩ := hw
    refine pl_38 hE h5 dX7_takesWord_15 ?_
    refine pa_callVi hE (ct_X7_takes l g D q u0 (pa_A u0 38 0 (x1 + x3).toNatClampNeg) _ hw) cv_RX7_239 pa_in24 rfl rfl rfl (pa_hR (by omega) (by decide)) rfl (Nat.le_of_ble_eq_true rfl) dX7_takesWord_16 (fun r6 u7 hw => ?_)
    refine pa_if_ne hE dX7_takesWord_19 (tgt := 24) (by decide) (fun h8 => ?_) (fun h8 => ?_)
    · have hw := Eq.mp (if_neg h8) hw
      refine pa_iinc hE dX7_takesWord_24 (v := 1) 3 rfl (by decide) (by decide) (lvr := [(0, .ref (q 24 0)), (1, .int x1), (2, .int x2)]) rfl (fun v9 ev9 => ?_)
      have hw := hw v9 ev9
      refine pa_goto hE dX7_takesWord_27 (tgt := 2) (by decide) ?_
      exact pa_sub [1, 2, 3, 0] rfl (hk2 u7 x1 x2 v9 hw)
    · have hw := Eq.mp (if_pos h8) hw
      refine pa_iconst hE dX7_takesWord_22 (v := 0) (by decide) ?_
      exact pa_zret hE hr (by decide) hw rfl dX7_takesWord_23
def wl_X7_takesWord_2 (post : Int32 → pa_S → Prop) : Nat → pa_S → Int32 → Int32 → Int32 → Prop
  | 0, _, _, _, _ => False
  | n + 1, u0, x1, x2, x3 => wb_X7_takesWord_2 (fun u0 x1 x2 x3 => wl_X7_takesWord_2 post n u0 x1 x2 x3) u0 x1 x2 x3 post
set_option maxRecDepth 100000 in
set_option maxHeartbeats 4000000 in
theorem tl_X7_takesWord_2 {p : Program} {l : Launch} {e : Env} {s : State} {m : MethodId} {args : Array Value} {below : List Frame} {meth : Method} {c : Code} {A : Nat → Prop} {D : va_G} {g : pa_G} {q : Nat → Nat → Nat} {post : Int32 → pa_S → Prop} (hE : pa_Fx p s m args meth c A D g 4 cX7_takesWord RX7) (hr : meth.sig.returnType = (some .boolean)) : ∀ (n : Nat) (u0 : pa_S) (x1 : Int32) (x2 : Int32) (x3 : Int32), wl_X7_takesWord_2 post n u0 x1 x2 x3 → pa_At p l e (pa_rm 4) s m args below meth c (MQ below (pa_Qc g D q (fun r => some (.int r)) post A) args s 0 0 A) A D g 4 0 0 q u0 2 [(0, .ref (q 24 0)), (1, .int x1), (2, .int x2), (3, .int x3)] []
  | 0, _, _, _, _, hw => absurd hw (by simp only [wl_X7_takesWord_2]; exact fun z => z)
  | n + 1, u0, x1, x2, x3, hw => tb_X7_takesWord_2 hE hr (fun u0 x1 x2 x3  hw1 => tl_X7_takesWord_2 hE hr  n u0 x1 x2 x3  hw1) hw
def wb_X7_takesWord_0 (u0 : pa_S) (x1 : Int32) (x2 : Int32) (post : Int32 → pa_S → Prop) : Prop :=
  wl_X7_takesWord_2 post 5000 u0 x1 x2 0
set_option maxRecDepth 100000 in
set_option maxHeartbeats 4000000 in
theorem tb_X7_takesWord_0 {p : Program} {l : Launch} {e : Env} {s : State} {m : MethodId} {args : Array Value} {below : List Frame} {meth : Method} {c : Code} {A : Nat → Prop} {D : va_G} {g : pa_G} {q : Nat → Nat → Nat} {u0 : pa_S} {x1 : Int32} {x2 : Int32} {post : Int32 → pa_S → Prop} (hE : pa_Fx p s m args meth c A D g 4 cX7_takesWord RX7) (hr : meth.sig.returnType = (some .boolean)) (hw : wb_X7_takesWord_0 u0 x1 x2 post) : pa_At p l e (pa_rm 4) s m args below meth c (MQ below (pa_Qc g D q (fun r => some (.int r)) post A) args s 0 0 A) A D g 4 0 0 q u0 0 [(0, .ref (q 24 0)), (1, .int x1), (2, .int x2)] [] := by
  refine pa_iconst hE dX7_takesWord_0 (v := 0) (by decide) ?_
  refine pa_istore_n hE dX7_takesWord_1 rfl (by decide) (lvr := [(0, .ref (q 24 0)), (1, .int x1), (2, .int x2)]) rfl ?_
  exact pa_sub [1, 2, 3, 0] rfl (tl_X7_takesWord_2 hE hr 5000 u0 x1 x2 0 hw)
def wp_X7_takesWord (u0 : pa_S) (x1 : Int32) (x2 : Int32) (post : Int32 → pa_S → Prop) : Prop := wb_X7_takesWord_0 u0 x1 x2 post
theorem ct_X7_takesWord (l : Launch) (g : pa_G) (D : va_G) (q : Nat → Nat → Nat) (u0 : pa_S) (x1 : Int32) (x2 : Int32) (post : Int32 → pa_S → Prop)  (hw : wp_X7_takesWord u0 x1 x2 post) : pa_Ct l yX7_takesWord cX7_takesWord 4 (some .boolean) 4 g D q u0 [.ref (q 24 0), .int x1, .int x2] (fun r => some (.int r)) post := pa_met rfl rfl (Nat.le_of_ble_eq_true rfl) rfl (fun p e s m args below meth c A hE hr => tb_X7_takesWord_0 hE hr  hw)
def wb_X7_isDigit_0 (u0 : pa_S) (post : Int32 → Prop) : Prop :=
  (wp_X7_next u0 (fun (r1 : Int32) => (wp_X7_in u0 r1 48 57 (fun (r2 : Int32) => (r2 &&& 1 = r2) ∧ post r2))))
set_option maxRecDepth 100000 in
set_option maxHeartbeats 4000000 in
theorem tb_X7_isDigit_0 {p : Program} {l : Launch} {e : Env} {s : State} {m : MethodId} {args : Array Value} {below : List Frame} {meth : Method} {c : Code} {A : Nat → Prop} {D : va_G} {g : pa_G} {q : Nat → Nat → Nat} {u0 : pa_S} {post : Int32 → Prop} (hE : pa_Fx p s m args meth c A D g 1 cX7_isDigit RX7) (hr : meth.sig.returnType = (some .boolean)) (hw : wb_X7_isDigit_0 u0 post) : pa_At p l e (pa_rm 3) s m args below meth c (MQ below (pa_Qc g D q (fun r => some (.int r)) (fun r u => u = u0 ∧ post r) A) args s 0 0 A) A D g 1 0 0 q u0 0 [(0, .ref (q 24 0))] [] := by
  refine pa_aload_n hE dX7_isDigit_0 rfl 0 rfl ?_
  refine pa_aload_n hE dX7_isDigit_1 rfl 0 rfl ?_
  refine pa_callVri hE (ct_X7_next l g D q u0 _ hw) cv_RX7_235 pa_in24 rfl rfl rfl (pa_hR (by omega) (by decide)) rfl (Nat.le_of_ble_eq_true rfl) dX7_isDigit_2 (fun r1 hw => ?_)
  refine pa_bipush hE dX7_isDigit_5 (v := 48) (by decide) ?_
  refine pa_bipush hE dX7_isDigit_7 (v := 57) (by decide) ?_
  refine pa_callVri hE (ct_X7_in l g D q u0 r1 48 57 _ hw) cv_RX7_221 pa_in24 rfl rfl rfl (pa_hR (by omega) (by decide)) rfl (Nat.le_of_ble_eq_true rfl) dX7_isDigit_9 (fun r2 hw => ?_)
  obtain ⟨h3, hw⟩ := hw
  exact pa_zret hE hr (congrArg Value.int h3) ⟨rfl, hw⟩ rfl dX7_isDigit_12
def wp_X7_isDigit (u0 : pa_S) (post : Int32 → Prop) : Prop := wb_X7_isDigit_0 u0 post
theorem ct_X7_isDigit (l : Launch) (g : pa_G) (D : va_G) (q : Nat → Nat → Nat) (u0 : pa_S) (post : Int32 → Prop)  (hw : wp_X7_isDigit u0 post) : pa_Ct l yX7_isDigit cX7_isDigit 1 (some .boolean) 3 g D q u0 [.ref (q 24 0)] (fun r => some (.int r)) (fun r u => u = u0 ∧ post r) := pa_met rfl rfl (Nat.le_of_ble_eq_true rfl) rfl (fun p e s m args below meth c A hE hr => tb_X7_isDigit_0 hE hr  hw)
def wb_X7_takesNumber_16 (k16 : pa_S → Int32 → Prop) (u0 : pa_S) (x1 : Int32) (post : Int32 → pa_S → Prop) : Prop :=
  (if 2 ≤ x1 then post 1 u0 else (wp_X7_isDigit u0 (fun (r5 : Int32) => (if r5 = 0 then post 1 u0 else (wp_X7_next u0 (fun (r7 : Int32) => ∀ u8 : pa_S, u8 = pa_sI u0 24 0 12 (((10 * (pa_I u0 24 0 12)) + r7) - 48) → ∀ u9 : pa_S, u9 = pa_sI u8 24 0 11 ((pa_I u8 24 0 11) + 1) → ∀ v10 : Int32, v10 = x1 + 1 → k16 u9 v10))))))
set_option maxRecDepth 100000 in
set_option maxHeartbeats 4000000 in
theorem tb_X7_takesNumber_16 {p : Program} {l : Launch} {e : Env} {s : State} {m : MethodId} {args : Array Value} {below : List Frame} {meth : Method} {c : Code} {A : Nat → Prop} {D : va_G} {g : pa_G} {q : Nat → Nat → Nat} {k16 : pa_S → Int32 → Prop} {u0 : pa_S} {x1 : Int32} {post : Int32 → pa_S → Prop} (hE : pa_Fx p s m args meth c A D g 2 cX7_takesNumber RX7) (hr : meth.sig.returnType = (some .boolean)) (hk16 : ∀ (u : pa_S)  (x1 : Int32), k16 u x1 → pa_At p l e (pa_rm 4) s m args below meth c (MQ below (pa_Qc g D q (fun r => some (.int r)) post A) args s 0 0 A) A D g 2 0 0 q u 16 [(0, .ref (q 24 0)), (1, .int x1)] []) (hw : wb_X7_takesNumber_16 k16 u0 x1 post) : pa_At p l e (pa_rm 4) s m args below meth c (MQ below (pa_Qc g D q (fun r => some (.int r)) post A) args s 0 0 A) A D g 2 0 0 q u0 16 [(0, .ref (q 24 0)), (1, .int x1)] [] := by
  refine pa_iload_n hE dX7_takesNumber_16 rfl 1 rfl ?_
  refine pa_iconst hE dX7_takesNumber_17 (v := 2) (by decide) ?_
  refine pa_icmp_ge hE dX7_takesNumber_18 (tgt := 63) (by decide) (fun h4 => ?_) (fun h4 => ?_)
  · have hw := Eq.mp (if_pos h4) hw
    refine pa_iconst hE dX7_takesNumber_63 (v := 1) (by decide) ?_
    exact pa_zret hE hr (by decide) hw rfl dX7_takesNumber_64
  · have hw := Eq.mp (if_neg h4) hw
    refine pa_aload_n hE dX7_takesNumber_21 rfl 0 rfl ?_
    refine pa_callVri hE (ct_X7_isDigit l g D q u0 _ hw) cv_RX7_242 pa_in24 rfl rfl rfl (pa_hR (by omega) (by decide)) rfl (Nat.le_of_ble_eq_true rfl) dX7_takesNumber_22 (fun r5 hw => ?_)
    refine pa_if_eq hE dX7_takesNumber_25 (tgt := 63) (by decide) (fun h6 => ?_) (fun h6 => ?_)
    · have hw := Eq.mp (if_pos h6) hw
      refine pa_iconst hE dX7_takesNumber_63 (v := 1) (by decide) ?_
      exact pa_zret hE hr (by decide) hw rfl dX7_takesNumber_64
    · have hw := Eq.mp (if_neg h6) hw
      refine pa_aload_n hE dX7_takesNumber_28 rfl 0 rfl ?_
      refine pa_bipush hE dX7_takesNumber_29 (v := 10) (by decide) ?_
      refine pa_aload_n hE dX7_takesNumber_31 rfl 0 rfl ?_
      refine pg_24_12 hE (pa_m4 133 rfl rfl) dX7_takesNumber_32 ?_
      refine pa_imul hE dX7_takesNumber_35 ?_
      refine pa_aload_n hE dX7_takesNumber_36 rfl 0 rfl ?_
      refine pa_callVri hE (ct_X7_next l g D q u0 _ hw) cv_RX7_235 pa_in24 rfl rfl rfl (pa_hR (by omega) (by decide)) rfl (Nat.le_of_ble_eq_true rfl) dX7_takesNumber_37 (fun r7 hw => ?_)
      refine pa_iadd hE dX7_takesNumber_40 ?_
      refine pa_bipush hE dX7_takesNumber_41 (v := 48) (by decide) ?_
      refine pa_isub hE dX7_takesNumber_43 ?_
      refine pp_24_12 hE (pa_m4 133 rfl rfl) dX7_takesNumber_44 (fun u8 eu8 => ?_)
      have hw := hw u8 eu8
      refine pa_aload_n hE dX7_takesNumber_47 rfl 0 rfl ?_
      refine pa_dup hE dX7_takesNumber_48 rfl ?_
      refine pg_24_11 hE (pa_m4 132 rfl rfl) dX7_takesNumber_49 ?_
      refine pa_iconst hE dX7_takesNumber_52 (v := 1) (by decide) ?_
      refine pa_iadd hE dX7_takesNumber_53 ?_
      refine pp_24_11 hE (pa_m4 132 rfl rfl) dX7_takesNumber_54 (fun u9 eu9 => ?_)
      have hw := hw u9 eu9
      refine pa_iinc hE dX7_takesNumber_57 (v := 1) 1 rfl (by decide) (by decide) (lvr := [(0, .ref (q 24 0))]) rfl (fun v10 ev10 => ?_)
      have hw := hw v10 ev10
      refine pa_goto hE dX7_takesNumber_60 (tgt := 16) (by decide) ?_
      exact pa_sub [1, 0] rfl (hk16 u9 v10 hw)
def wl_X7_takesNumber_16 (post : Int32 → pa_S → Prop) : Nat → pa_S → Int32 → Prop
  | 0, _, _ => False
  | n + 1, u0, x1 => wb_X7_takesNumber_16 (fun u0 x1 => wl_X7_takesNumber_16 post n u0 x1) u0 x1 post
set_option maxRecDepth 100000 in
set_option maxHeartbeats 4000000 in
theorem tl_X7_takesNumber_16 {p : Program} {l : Launch} {e : Env} {s : State} {m : MethodId} {args : Array Value} {below : List Frame} {meth : Method} {c : Code} {A : Nat → Prop} {D : va_G} {g : pa_G} {q : Nat → Nat → Nat} {post : Int32 → pa_S → Prop} (hE : pa_Fx p s m args meth c A D g 2 cX7_takesNumber RX7) (hr : meth.sig.returnType = (some .boolean)) : ∀ (n : Nat) (u0 : pa_S) (x1 : Int32), wl_X7_takesNumber_16 post n u0 x1 → pa_At p l e (pa_rm 4) s m args below meth c (MQ below (pa_Qc g D q (fun r => some (.int r)) post A) args s 0 0 A) A D g 2 0 0 q u0 16 [(0, .ref (q 24 0)), (1, .int x1)] []
  | 0, _, _, hw => absurd hw (by simp only [wl_X7_takesNumber_16]; exact fun z => z)
  | n + 1, u0, x1, hw => tb_X7_takesNumber_16 hE hr (fun u0 x1  hw1 => tl_X7_takesNumber_16 hE hr  n u0 x1  hw1) hw
def wb_X7_takesNumber_0 (u0 : pa_S) (post : Int32 → pa_S → Prop) : Prop :=
  (wp_X7_isDigit u0 (fun (r1 : Int32) => (if r1 = 0 then post 0 u0 else ∀ u3 : pa_S, u3 = pa_sI u0 24 0 12 0 → wl_X7_takesNumber_16 post 5000 u3 0)))
set_option maxRecDepth 100000 in
set_option maxHeartbeats 4000000 in
theorem tb_X7_takesNumber_0 {p : Program} {l : Launch} {e : Env} {s : State} {m : MethodId} {args : Array Value} {below : List Frame} {meth : Method} {c : Code} {A : Nat → Prop} {D : va_G} {g : pa_G} {q : Nat → Nat → Nat} {u0 : pa_S} {post : Int32 → pa_S → Prop} (hE : pa_Fx p s m args meth c A D g 2 cX7_takesNumber RX7) (hr : meth.sig.returnType = (some .boolean)) (hw : wb_X7_takesNumber_0 u0 post) : pa_At p l e (pa_rm 4) s m args below meth c (MQ below (pa_Qc g D q (fun r => some (.int r)) post A) args s 0 0 A) A D g 2 0 0 q u0 0 [(0, .ref (q 24 0))] [] := by
  refine pa_aload_n hE dX7_takesNumber_0 rfl 0 rfl ?_
  refine pa_callVri hE (ct_X7_isDigit l g D q u0 _ hw) cv_RX7_242 pa_in24 rfl rfl rfl (pa_hR (by omega) (by decide)) rfl (Nat.le_of_ble_eq_true rfl) dX7_takesNumber_1 (fun r1 hw => ?_)
  refine pa_if_ne hE dX7_takesNumber_4 (tgt := 9) (by decide) (fun h2 => ?_) (fun h2 => ?_)
  · have hw := Eq.mp (if_neg h2) hw
    refine pa_aload_n hE dX7_takesNumber_9 rfl 0 rfl ?_
    refine pa_iconst hE dX7_takesNumber_10 (v := 0) (by decide) ?_
    refine pp_24_12 hE (pa_m4 133 rfl rfl) dX7_takesNumber_11 (fun u3 eu3 => ?_)
    have hw := hw u3 eu3
    refine pa_iconst hE dX7_takesNumber_14 (v := 0) (by decide) ?_
    refine pa_istore_n hE dX7_takesNumber_15 rfl (by decide) (lvr := [(0, .ref (q 24 0))]) rfl ?_
    exact pa_sub [1, 0] rfl (tl_X7_takesNumber_16 hE hr 5000 u3 0 hw)
  · have hw := Eq.mp (if_pos h2) hw
    refine pa_iconst hE dX7_takesNumber_7 (v := 0) (by decide) ?_
    exact pa_zret hE hr (by decide) hw rfl dX7_takesNumber_8
def wp_X7_takesNumber (u0 : pa_S) (post : Int32 → pa_S → Prop) : Prop := wb_X7_takesNumber_0 u0 post
theorem ct_X7_takesNumber (l : Launch) (g : pa_G) (D : va_G) (q : Nat → Nat → Nat) (u0 : pa_S) (post : Int32 → pa_S → Prop)  (hw : wp_X7_takesNumber u0 post) : pa_Ct l yX7_takesNumber cX7_takesNumber 2 (some .boolean) 4 g D q u0 [.ref (q 24 0)] (fun r => some (.int r)) post := pa_met rfl rfl (Nat.le_of_ble_eq_true rfl) rfl (fun p e s m args below meth c A hE hr => tb_X7_takesNumber_0 hE hr  hw)
def wb_X7_emits_0 (u0 : pa_S) (x1 : Int32) (post : pa_S → Prop) : Prop :=
  (vp_in (pa_I u0 24 0 21) 600) ∧ ∀ u2 : pa_S, u2 = pa_sA u0 36 0 (upd (pa_A u0 36 0) (pa_I u0 24 0 21).toNatClampNeg x1) → ∀ u3 : pa_S, u3 = pa_sI u2 24 0 21 ((pa_I u2 24 0 21) + 1) → post u3
set_option maxRecDepth 100000 in
set_option maxHeartbeats 4000000 in
theorem tb_X7_emits_0 {p : Program} {l : Launch} {e : Env} {s : State} {m : MethodId} {args : Array Value} {below : List Frame} {meth : Method} {c : Code} {A : Nat → Prop} {D : va_G} {g : pa_G} {q : Nat → Nat → Nat} {u0 : pa_S} {x1 : Int32} {post : pa_S → Prop} (hE : pa_Fx p s m args meth c A D g 2 cX7_emits RX7) (hr : meth.sig.returnType = none) (hw : wb_X7_emits_0 u0 x1 post) : pa_At p l e (pa_rm 2) s m args below meth c (MQ below (pa_Qc g D q (fun (_ : Unit) => none) (fun (_ : Unit) u => post u) A) args s 0 0 A) A D g 2 0 0 q u0 0 [(0, .ref (q 24 0)), (1, .int x1)] [] := by
  refine pa_aload_n hE dX7_emits_0 rfl 0 rfl ?_
  refine pg_24_19 hE (pa_m4 140 rfl rfl) dX7_emits_1 ?_
  refine pa_aload_n hE dX7_emits_4 rfl 0 rfl ?_
  refine pg_24_21 hE (pa_m4 142 rfl rfl) dX7_emits_5 ?_
  refine pa_iload_n hE dX7_emits_8 rfl 1 rfl ?_
  obtain ⟨h1, hw⟩ := hw
  refine ps_36 hE h1 dX7_emits_9 (fun u2 eu2 => ?_)
  have hw := hw u2 eu2
  refine pa_aload_n hE dX7_emits_10 rfl 0 rfl ?_
  refine pa_dup hE dX7_emits_11 rfl ?_
  refine pg_24_21 hE (pa_m4 142 rfl rfl) dX7_emits_12 ?_
  refine pa_iconst hE dX7_emits_15 (v := 1) (by decide) ?_
  refine pa_iadd hE dX7_emits_16 ?_
  refine pp_24_21 hE (pa_m4 142 rfl rfl) dX7_emits_17 (fun u3 eu3 => ?_)
  have hw := hw u3 eu3
  exact pa_vret (r := ()) hE hr hw rfl dX7_emits_20
def wp_X7_emits (u0 : pa_S) (x1 : Int32) (post : pa_S → Prop) : Prop := wb_X7_emits_0 u0 x1 post
theorem ct_X7_emits (l : Launch) (g : pa_G) (D : va_G) (q : Nat → Nat → Nat) (u0 : pa_S) (x1 : Int32) (post : pa_S → Prop)  (hw : wp_X7_emits u0 x1 post) : pa_Ct l yX7_emits cX7_emits 2 none 2 g D q u0 [.ref (q 24 0), .int x1] (fun (_ : Unit) => none) (fun (_ : Unit) u => post u) := pa_met rfl rfl (Nat.le_of_ble_eq_true rfl) rfl (fun p e s m args below meth c A hE hr => tb_X7_emits_0 hE hr  hw)
def wb_X7_whole_0 (k0 : pa_S → Prop) (u0 : pa_S) (post : pa_S → Prop) : Prop :=
  (if (pa_I u0 24 0 22) ≤ 0 then post u0 else (vp_in ((pa_I u0 24 0 22) - 1) 101) ∧ (if (pa_A u0 37 0 ((pa_I u0 24 0 22) - 1).toNatClampNeg) = 33 then (wp_X7_emits u0 (-33 : Int32) (fun (u5 : pa_S) => ∀ u6 : pa_S, u6 = pa_sI u5 24 0 22 ((pa_I u5 24 0 22) - 1) → ∀ u7 : pa_S, u7 = pa_sI u6 24 0 23 ((pa_I u6 24 0 23) - 1) → k0 u7)) else post u0))
set_option maxRecDepth 100000 in
set_option maxHeartbeats 4000000 in
theorem tb_X7_whole_0 {p : Program} {l : Launch} {e : Env} {s : State} {m : MethodId} {args : Array Value} {below : List Frame} {meth : Method} {c : Code} {A : Nat → Prop} {D : va_G} {g : pa_G} {q : Nat → Nat → Nat} {k0 : pa_S → Prop} {u0 : pa_S} {post : pa_S → Prop} (hE : pa_Fx p s m args meth c A D g 1 cX7_whole RX7) (hr : meth.sig.returnType = none) (hk0 : ∀ (u : pa_S), k0 u → pa_At p l e (pa_rm 3) s m args below meth c (MQ below (pa_Qc g D q (fun (_ : Unit) => none) (fun (_ : Unit) u => post u) A) args s 0 0 A) A D g 1 0 0 q u 0 [(0, .ref (q 24 0))] []) (hw : wb_X7_whole_0 k0 u0 post) : pa_At p l e (pa_rm 3) s m args below meth c (MQ below (pa_Qc g D q (fun (_ : Unit) => none) (fun (_ : Unit) u => post u) A) args s 0 0 A) A D g 1 0 0 q u0 0 [(0, .ref (q 24 0))] [] := by
  refine pa_aload_n hE dX7_whole_0 rfl 0 rfl ?_
  refine pg_24_22 hE (pa_m4 143 rfl rfl) dX7_whole_1 ?_
  refine pa_if_le hE dX7_whole_4 (tgt := 52) (by decide) (fun h1 => ?_) (fun h1 => ?_)
  · have hw := Eq.mp (if_pos h1) hw
    exact pa_vret (r := ()) hE hr hw rfl dX7_whole_52
  · have hw := Eq.mp (if_neg h1) hw
    refine pa_aload_n hE dX7_whole_7 rfl 0 rfl ?_
    refine pg_24_20 hE (pa_m4 141 rfl rfl) dX7_whole_8 ?_
    refine pa_aload_n hE dX7_whole_11 rfl 0 rfl ?_
    refine pg_24_22 hE (pa_m4 143 rfl rfl) dX7_whole_12 ?_
    refine pa_iconst hE dX7_whole_15 (v := 1) (by decide) ?_
    refine pa_isub hE dX7_whole_16 ?_
    obtain ⟨h2, hw⟩ := hw
    refine pl_37 hE h2 dX7_whole_17 ?_
    refine pa_bipush hE dX7_whole_18 (v := 33) (by decide) ?_
    refine pa_icmp_ne hE dX7_whole_20 (tgt := 52) (by decide) (fun h3 => ?_) (fun h3 => ?_)
    · have hw := Eq.mp (if_neg h3) hw
      exact pa_vret (r := ()) hE hr hw rfl dX7_whole_52
    · have hw := Eq.mp (if_pos h3) hw
      refine pa_aload_n hE dX7_whole_23 rfl 0 rfl ?_
      refine pa_bipush hE dX7_whole_24 (v := (-33 : Int32)) (by decide) ?_
      refine pa_callVv hE (ct_X7_emits l g D q u0 (-33 : Int32) _ hw) cv_RX7_246 pa_in24 rfl rfl rfl (pa_hR (by omega) (by decide)) rfl (Nat.le_of_ble_eq_true rfl) dX7_whole_26 (fun u5 hw => ?_)
      refine pa_aload_n hE dX7_whole_29 rfl 0 rfl ?_
      refine pa_dup hE dX7_whole_30 rfl ?_
      refine pg_24_22 hE (pa_m4 143 rfl rfl) dX7_whole_31 ?_
      refine pa_iconst hE dX7_whole_34 (v := 1) (by decide) ?_
      refine pa_isub hE dX7_whole_35 ?_
      refine pp_24_22 hE (pa_m4 143 rfl rfl) dX7_whole_36 (fun u6 eu6 => ?_)
      have hw := hw u6 eu6
      refine pa_aload_n hE dX7_whole_39 rfl 0 rfl ?_
      refine pa_dup hE dX7_whole_40 rfl ?_
      refine pg_24_23 hE (pa_m4 144 rfl rfl) dX7_whole_41 ?_
      refine pa_iconst hE dX7_whole_44 (v := 1) (by decide) ?_
      refine pa_isub hE dX7_whole_45 ?_
      refine pp_24_23 hE (pa_m4 144 rfl rfl) dX7_whole_46 (fun u7 eu7 => ?_)
      have hw := hw u7 eu7
      refine pa_goto hE dX7_whole_49 (tgt := 0) (by decide) ?_
      exact pa_sub [0] rfl (hk0 u7 hw)
def wl_X7_whole_0 (post : pa_S → Prop) : Nat → pa_S → Prop
  | 0, _ => False
  | n + 1, u0 => wb_X7_whole_0 (fun u0 => wl_X7_whole_0 post n u0) u0 post
set_option maxRecDepth 100000 in
set_option maxHeartbeats 4000000 in
theorem tl_X7_whole_0 {p : Program} {l : Launch} {e : Env} {s : State} {m : MethodId} {args : Array Value} {below : List Frame} {meth : Method} {c : Code} {A : Nat → Prop} {D : va_G} {g : pa_G} {q : Nat → Nat → Nat} {post : pa_S → Prop} (hE : pa_Fx p s m args meth c A D g 1 cX7_whole RX7) (hr : meth.sig.returnType = none) : ∀ (n : Nat) (u0 : pa_S), wl_X7_whole_0 post n u0 → pa_At p l e (pa_rm 3) s m args below meth c (MQ below (pa_Qc g D q (fun (_ : Unit) => none) (fun (_ : Unit) u => post u) A) args s 0 0 A) A D g 1 0 0 q u0 0 [(0, .ref (q 24 0))] []
  | 0, _, hw => absurd hw (by simp only [wl_X7_whole_0]; exact fun z => z)
  | n + 1, u0, hw => tb_X7_whole_0 hE hr (fun u0  hw1 => tl_X7_whole_0 hE hr  n u0  hw1) hw
def wp_X7_whole (u0 : pa_S) (post : pa_S → Prop) : Prop := wl_X7_whole_0 post 5000 u0
theorem ct_X7_whole (l : Launch) (g : pa_G) (D : va_G) (q : Nat → Nat → Nat) (u0 : pa_S) (post : pa_S → Prop)  (hw : wp_X7_whole u0 post) : pa_Ct l yX7_whole cX7_whole 1 none 3 g D q u0 [.ref (q 24 0)] (fun (_ : Unit) => none) (fun (_ : Unit) u => post u) := pa_met rfl rfl (Nat.le_of_ble_eq_true rfl) rfl (fun p e s m args below meth c A hE hr => tl_X7_whole_0 hE hr  5000 u0 hw)
def wb_X7_settle_45 (k0 : pa_S → Int32 → Prop) (u0 : pa_S) (x1 : Int32) (post : pa_S → Prop) : Prop :=
  ∀ u4 : pa_S, u4 = pa_sI u0 24 0 22 ((pa_I u0 24 0 22) - 1) → (vp_in (pa_I u4 24 0 22) 101) ∧ (wp_X7_emits u4 (-(pa_A u4 37 0 (pa_I u4 24 0 22).toNatClampNeg)) (fun (u7 : pa_S) => k0 u7 x1))
set_option maxRecDepth 100000 in
set_option maxHeartbeats 4000000 in
theorem tb_X7_settle_45 {p : Program} {l : Launch} {e : Env} {s : State} {m : MethodId} {args : Array Value} {below : List Frame} {meth : Method} {c : Code} {A : Nat → Prop} {D : va_G} {g : pa_G} {q : Nat → Nat → Nat} {k0 : pa_S → Int32 → Prop} {u0 : pa_S} {x1 : Int32} {post : pa_S → Prop} (hE : pa_Fx p s m args meth c A D g 2 cX7_settle RX7) (hr : meth.sig.returnType = none) (hk0 : ∀ (u : pa_S)  (x1 : Int32), k0 u x1 → pa_At p l e (pa_rm 3) s m args below meth c (MQ below (pa_Qc g D q (fun (_ : Unit) => none) (fun (_ : Unit) u => post u) A) args s 0 0 A) A D g 2 0 0 q u 0 [(0, .ref (q 24 0)), (1, .int x1)] []) (hw : wb_X7_settle_45 k0 u0 x1 post) : pa_At p l e (pa_rm 3) s m args below meth c (MQ below (pa_Qc g D q (fun (_ : Unit) => none) (fun (_ : Unit) u => post u) A) args s 0 0 A) A D g 2 0 0 q u0 45 [(0, .ref (q 24 0)), (1, .int x1)] [] := by
  refine pa_aload_n hE dX7_settle_45 rfl 0 rfl ?_
  refine pa_dup hE dX7_settle_46 rfl ?_
  refine pg_24_22 hE (pa_m4 143 rfl rfl) dX7_settle_47 ?_
  refine pa_iconst hE dX7_settle_50 (v := 1) (by decide) ?_
  refine pa_isub hE dX7_settle_51 ?_
  refine pp_24_22 hE (pa_m4 143 rfl rfl) dX7_settle_52 (fun u4 eu4 => ?_)
  have hw := hw u4 eu4
  refine pa_aload_n hE dX7_settle_55 rfl 0 rfl ?_
  refine pa_aload_n hE dX7_settle_56 rfl 0 rfl ?_
  refine pg_24_20 hE (pa_m4 141 rfl rfl) dX7_settle_57 ?_
  refine pa_aload_n hE dX7_settle_60 rfl 0 rfl ?_
  refine pg_24_22 hE (pa_m4 143 rfl rfl) dX7_settle_61 ?_
  obtain ⟨h5, hw⟩ := hw
  refine pl_37 hE h5 dX7_settle_64 ?_
  refine pa_ineg hE dX7_settle_65 ?_
  refine pa_callVv hE (ct_X7_emits l g D q u4 (-(pa_A u4 37 0 (pa_I u4 24 0 22).toNatClampNeg)) _ hw) cv_RX7_246 pa_in24 rfl rfl rfl (pa_hR (by omega) (by decide)) rfl (Nat.le_of_ble_eq_true rfl) dX7_settle_66 (fun u7 hw => ?_)
  refine pa_goto hE dX7_settle_69 (tgt := 0) (by decide) ?_
  exact pa_sub [0, 1] rfl (hk0 u7 x1 hw)
def wb_X7_settle_0 (k0 : pa_S → Int32 → Prop) (u0 : pa_S) (x1 : Int32) (post : pa_S → Prop) : Prop :=
  (if (pa_I u0 24 0 22) ≤ 0 then post u0 else (vp_in ((pa_I u0 24 0 22) - 1) 101) ∧ (if (pa_A u0 37 0 ((pa_I u0 24 0 22) - 1).toNatClampNeg) = 38 then wb_X7_settle_45 k0 u0 x1 post else (vp_in ((pa_I u0 24 0 22) - 1) 101) ∧ (if (pa_A u0 37 0 ((pa_I u0 24 0 22) - 1).toNatClampNeg) = 124 then (if x1 = 38 then post u0 else wb_X7_settle_45 k0 u0 x1 post) else post u0)))
set_option maxRecDepth 100000 in
set_option maxHeartbeats 4000000 in
theorem tb_X7_settle_0 {p : Program} {l : Launch} {e : Env} {s : State} {m : MethodId} {args : Array Value} {below : List Frame} {meth : Method} {c : Code} {A : Nat → Prop} {D : va_G} {g : pa_G} {q : Nat → Nat → Nat} {k0 : pa_S → Int32 → Prop} {u0 : pa_S} {x1 : Int32} {post : pa_S → Prop} (hE : pa_Fx p s m args meth c A D g 2 cX7_settle RX7) (hr : meth.sig.returnType = none) (hk0 : ∀ (u : pa_S)  (x1 : Int32), k0 u x1 → pa_At p l e (pa_rm 3) s m args below meth c (MQ below (pa_Qc g D q (fun (_ : Unit) => none) (fun (_ : Unit) u => post u) A) args s 0 0 A) A D g 2 0 0 q u 0 [(0, .ref (q 24 0)), (1, .int x1)] []) (hw : wb_X7_settle_0 k0 u0 x1 post) : pa_At p l e (pa_rm 3) s m args below meth c (MQ below (pa_Qc g D q (fun (_ : Unit) => none) (fun (_ : Unit) u => post u) A) args s 0 0 A) A D g 2 0 0 q u0 0 [(0, .ref (q 24 0)), (1, .int x1)] [] := by
  refine pa_aload_n hE dX7_settle_0 rfl 0 rfl ?_
  refine pg_24_22 hE (pa_m4 143 rfl rfl) dX7_settle_1 ?_
  refine pa_if_le hE dX7_settle_4 (tgt := 72) (by decide) (fun h1 => ?_) (fun h1 => ?_)
  · have hw := Eq.mp (if_pos h1) hw
    exact pa_vret (r := ()) hE hr hw rfl dX7_settle_72
  · have hw := Eq.mp (if_neg h1) hw
    refine pa_aload_n hE dX7_settle_7 rfl 0 rfl ?_
    refine pg_24_20 hE (pa_m4 141 rfl rfl) dX7_settle_8 ?_
    refine pa_aload_n hE dX7_settle_11 rfl 0 rfl ?_
    refine pg_24_22 hE (pa_m4 143 rfl rfl) dX7_settle_12 ?_
    refine pa_iconst hE dX7_settle_15 (v := 1) (by decide) ?_
    refine pa_isub hE dX7_settle_16 ?_
    obtain ⟨h2, hw⟩ := hw
    refine pl_37 hE h2 dX7_settle_17 ?_
    refine pa_bipush hE dX7_settle_18 (v := 38) (by decide) ?_
    refine pa_icmp_eq hE dX7_settle_20 (tgt := 45) (by decide) (fun h3 => ?_) (fun h3 => ?_)
    · have hw := Eq.mp (if_pos h3) hw
      exact pa_sub [0, 1] rfl (tb_X7_settle_45 hE hr hk0 hw)
    · have hw := Eq.mp (if_neg h3) hw
      refine pa_aload_n hE dX7_settle_23 rfl 0 rfl ?_
      refine pg_24_20 hE (pa_m4 141 rfl rfl) dX7_settle_24 ?_
      refine pa_aload_n hE dX7_settle_27 rfl 0 rfl ?_
      refine pg_24_22 hE (pa_m4 143 rfl rfl) dX7_settle_28 ?_
      refine pa_iconst hE dX7_settle_31 (v := 1) (by decide) ?_
      refine pa_isub hE dX7_settle_32 ?_
      obtain ⟨h8, hw⟩ := hw
      refine pl_37 hE h8 dX7_settle_33 ?_
      refine pa_bipush hE dX7_settle_34 (v := 124) (by decide) ?_
      refine pa_icmp_ne hE dX7_settle_36 (tgt := 72) (by decide) (fun h9 => ?_) (fun h9 => ?_)
      · have hw := Eq.mp (if_neg h9) hw
        exact pa_vret (r := ()) hE hr hw rfl dX7_settle_72
      · have hw := Eq.mp (if_pos h9) hw
        refine pa_iload_n hE dX7_settle_39 rfl 1 rfl ?_
        refine pa_bipush hE dX7_settle_40 (v := 38) (by decide) ?_
        refine pa_icmp_eq hE dX7_settle_42 (tgt := 72) (by decide) (fun h10 => ?_) (fun h10 => ?_)
        · have hw := Eq.mp (if_pos h10) hw
          exact pa_vret (r := ()) hE hr hw rfl dX7_settle_72
        · have hw := Eq.mp (if_neg h10) hw
          exact pa_sub [0, 1] rfl (tb_X7_settle_45 hE hr hk0 hw)
def wl_X7_settle_0 (post : pa_S → Prop) : Nat → pa_S → Int32 → Prop
  | 0, _, _ => False
  | n + 1, u0, x1 => wb_X7_settle_0 (fun u0 x1 => wl_X7_settle_0 post n u0 x1) u0 x1 post
set_option maxRecDepth 100000 in
set_option maxHeartbeats 4000000 in
theorem tl_X7_settle_0 {p : Program} {l : Launch} {e : Env} {s : State} {m : MethodId} {args : Array Value} {below : List Frame} {meth : Method} {c : Code} {A : Nat → Prop} {D : va_G} {g : pa_G} {q : Nat → Nat → Nat} {post : pa_S → Prop} (hE : pa_Fx p s m args meth c A D g 2 cX7_settle RX7) (hr : meth.sig.returnType = none) : ∀ (n : Nat) (u0 : pa_S) (x1 : Int32), wl_X7_settle_0 post n u0 x1 → pa_At p l e (pa_rm 3) s m args below meth c (MQ below (pa_Qc g D q (fun (_ : Unit) => none) (fun (_ : Unit) u => post u) A) args s 0 0 A) A D g 2 0 0 q u0 0 [(0, .ref (q 24 0)), (1, .int x1)] []
  | 0, _, _, hw => absurd hw (by simp only [wl_X7_settle_0]; exact fun z => z)
  | n + 1, u0, x1, hw => tb_X7_settle_0 hE hr (fun u0 x1  hw1 => tl_X7_settle_0 hE hr  n u0 x1  hw1) hw
def wp_X7_settle (u0 : pa_S) (x1 : Int32) (post : pa_S → Prop) : Prop := wl_X7_settle_0 post 5000 u0 x1
theorem ct_X7_settle (l : Launch) (g : pa_G) (D : va_G) (q : Nat → Nat → Nat) (u0 : pa_S) (x1 : Int32) (post : pa_S → Prop)  (hw : wp_X7_settle u0 x1 post) : pa_Ct l yX7_settle cX7_settle 2 none 3 g D q u0 [.ref (q 24 0), .int x1] (fun (_ : Unit) => none) (fun (_ : Unit) u => post u) := pa_met rfl rfl (Nat.le_of_ble_eq_true rfl) rfl (fun p e s m args below meth c A hE hr => tl_X7_settle_0 hE hr  5000 u0 x1 hw)
def wb_X7_place_0 (u0 : pa_S) (x1 : Int32) (post : Int32 → Prop) : Prop :=
  (if x1 = 100 then post 5 else (if x1 = 104 then post 0 else (if x1 = 107 then post 2 else (if x1 = 108 then post 1 else (if x1 = 118 then post 3 else (if x1 = 120 then post 4 else post (-1 : Int32)))))))
set_option maxRecDepth 100000 in
set_option maxHeartbeats 4000000 in
theorem tb_X7_place_0 {p : Program} {l : Launch} {e : Env} {s : State} {m : MethodId} {args : Array Value} {below : List Frame} {meth : Method} {c : Code} {A : Nat → Prop} {D : va_G} {g : pa_G} {q : Nat → Nat → Nat} {u0 : pa_S} {x1 : Int32} {post : Int32 → Prop} (hE : pa_Fx p s m args meth c A D g 2 cX7_place RX7) (hr : meth.sig.returnType = (some .int)) (hw : wb_X7_place_0 u0 x1 post) : pa_At p l e (pa_rm 2) s m args below meth c (MQ below (pa_Qc g D q (fun r => some (.int r)) (fun r u => u = u0 ∧ post r) A) args s 0 0 A) A D g 2 0 0 q u0 0 [(0, .ref (q 24 0)), (1, .int x1)] [] := by
  refine pa_iload_n hE dX7_place_0 rfl 1 rfl ?_
  by_cases h1 : x1 = 100
  · have hw := Eq.mp (if_pos h1) hw
    refine pa_lsw hE dX7_place_1 (by decide) (by rw [h1]; first | done | decide) (tgt := 70) (by decide) ?_
    refine pa_iconst hE dX7_place_70 (v := 5) (by decide) ?_
    exact pa_iret hE hr ⟨rfl, hw⟩ rfl dX7_place_71
  · have hw := Eq.mp (if_neg h1) hw
    by_cases h2 : x1 = 104
    · have hw := Eq.mp (if_pos h2) hw
      refine pa_lsw hE dX7_place_1 (by decide) (by rw [h2]; first | done | decide) (tgt := 60) (by decide) ?_
      refine pa_iconst hE dX7_place_60 (v := 0) (by decide) ?_
      exact pa_iret hE hr ⟨rfl, hw⟩ rfl dX7_place_61
    · have hw := Eq.mp (if_neg h2) hw
      by_cases h3 : x1 = 107
      · have hw := Eq.mp (if_pos h3) hw
        refine pa_lsw hE dX7_place_1 (by decide) (by rw [h3]; first | done | decide) (tgt := 64) (by decide) ?_
        refine pa_iconst hE dX7_place_64 (v := 2) (by decide) ?_
        exact pa_iret hE hr ⟨rfl, hw⟩ rfl dX7_place_65
      · have hw := Eq.mp (if_neg h3) hw
        by_cases h4 : x1 = 108
        · have hw := Eq.mp (if_pos h4) hw
          refine pa_lsw hE dX7_place_1 (by decide) (by rw [h4]; first | done | decide) (tgt := 62) (by decide) ?_
          refine pa_iconst hE dX7_place_62 (v := 1) (by decide) ?_
          exact pa_iret hE hr ⟨rfl, hw⟩ rfl dX7_place_63
        · have hw := Eq.mp (if_neg h4) hw
          by_cases h5 : x1 = 118
          · have hw := Eq.mp (if_pos h5) hw
            refine pa_lsw hE dX7_place_1 (by decide) (by rw [h5]; first | done | decide) (tgt := 66) (by decide) ?_
            refine pa_iconst hE dX7_place_66 (v := 3) (by decide) ?_
            exact pa_iret hE hr ⟨rfl, hw⟩ rfl dX7_place_67
          · have hw := Eq.mp (if_neg h5) hw
            by_cases h6 : x1 = 120
            · have hw := Eq.mp (if_pos h6) hw
              refine pa_lsw hE dX7_place_1 (by decide) (by rw [h6]; first | done | decide) (tgt := 68) (by decide) ?_
              refine pa_iconst hE dX7_place_68 (v := 4) (by decide) ?_
              exact pa_iret hE hr ⟨rfl, hw⟩ rfl dX7_place_69
            · have hw := Eq.mp (if_neg h6) hw
              refine pa_lsw hE dX7_place_1 (by decide) (by rw [Op.lookupswitch.offset_cons, if_neg (fun z => h1 (pa_toI (c := 100) (by decide) z)), Op.lookupswitch.offset_cons, if_neg (fun z => h2 (pa_toI (c := 104) (by decide) z)), Op.lookupswitch.offset_cons, if_neg (fun z => h3 (pa_toI (c := 107) (by decide) z)), Op.lookupswitch.offset_cons, if_neg (fun z => h4 (pa_toI (c := 108) (by decide) z)), Op.lookupswitch.offset_cons, if_neg (fun z => h5 (pa_toI (c := 118) (by decide) z)), Op.lookupswitch.offset_cons, if_neg (fun z => h6 (pa_toI (c := 120) (by decide) z)), Op.lookupswitch.offset_nil]) (tgt := 72) (by decide) ?_
              refine pa_iconst hE dX7_place_72 (v := (-1 : Int32)) (by decide) ?_
              exact pa_iret hE hr ⟨rfl, hw⟩ rfl dX7_place_73
def wp_X7_place (u0 : pa_S) (x1 : Int32) (post : Int32 → Prop) : Prop := wb_X7_place_0 u0 x1 post
theorem ct_X7_place (l : Launch) (g : pa_G) (D : va_G) (q : Nat → Nat → Nat) (u0 : pa_S) (x1 : Int32) (post : Int32 → Prop)  (hw : wp_X7_place u0 x1 post) : pa_Ct l yX7_place cX7_place 2 (some .int) 2 g D q u0 [.ref (q 24 0), .int x1] (fun r => some (.int r)) (fun r u => u = u0 ∧ post r) := pa_met rfl rfl (Nat.le_of_ble_eq_true rfl) rfl (fun p e s m args below meth c A hE hr => tb_X7_place_0 hE hr  hw)
def wb_X7_takesTest_0 (u0 : pa_S) (post : Int32 → pa_S → Prop) : Prop :=
  (wp_X7_next u0 (fun (r1 : Int32) => (wp_X7_place u0 r1 (fun (r2 : Int32) => (if 0 ≤ r2 then ∀ u4 : pa_S, u4 = pa_sI u0 24 0 11 ((pa_I u0 24 0 11) + 1) → (wp_X7_next u4 (fun (r5 : Int32) => (wp_X7_in u4 r5 60 62 (fun (r6 : Int32) => (if r6 = 0 then post 0 u4 else ∀ u8 : pa_S, u8 = pa_sI u4 24 0 11 ((pa_I u4 24 0 11) + 1) → (wp_X7_takesNumber u8 (fun (r9 : Int32) (u10 : pa_S) => (if r9 = 0 then post 0 u10 else (wp_X7_emits u10 (((1000 * r2) + (100 * (r5 - 60))) + (pa_I u10 24 0 12)) (fun (u13 : pa_S) => (wp_X7_whole u13 (fun (u15 : pa_S) => post 1 u15)))))))))))) else post 0 u0)))))
set_option maxRecDepth 100000 in
set_option maxHeartbeats 4000000 in
theorem tb_X7_takesTest_0 {p : Program} {l : Launch} {e : Env} {s : State} {m : MethodId} {args : Array Value} {below : List Frame} {meth : Method} {c : Code} {A : Nat → Prop} {D : va_G} {g : pa_G} {q : Nat → Nat → Nat} {u0 : pa_S} {post : Int32 → pa_S → Prop} (hE : pa_Fx p s m args meth c A D g 3 cX7_takesTest RX7) (hr : meth.sig.returnType = (some .boolean)) (hw : wb_X7_takesTest_0 u0 post) : pa_At p l e (pa_rm 5) s m args below meth c (MQ below (pa_Qc g D q (fun r => some (.int r)) post A) args s 0 0 A) A D g 3 0 0 q u0 0 [(0, .ref (q 24 0))] [] := by
  refine pa_aload_n hE dX7_takesTest_0 rfl 0 rfl ?_
  refine pa_aload_n hE dX7_takesTest_1 rfl 0 rfl ?_
  refine pa_callVri hE (ct_X7_next l g D q u0 _ hw) cv_RX7_235 pa_in24 rfl rfl rfl (pa_hR (by omega) (by decide)) rfl (Nat.le_of_ble_eq_true rfl) dX7_takesTest_2 (fun r1 hw => ?_)
  refine pa_callVri hE (ct_X7_place l g D q u0 r1 _ hw) cv_RX7_250 pa_in24 rfl rfl rfl (pa_hR (by omega) (by decide)) rfl (Nat.le_of_ble_eq_true rfl) dX7_takesTest_5 (fun r2 hw => ?_)
  refine pa_istore_n hE dX7_takesTest_8 rfl (by decide) (lvr := [(0, .ref (q 24 0))]) rfl ?_
  refine pa_iload_n hE dX7_takesTest_9 rfl 0 rfl ?_
  refine pa_if_ge hE dX7_takesTest_10 (tgt := 15) (by decide) (fun h3 => ?_) (fun h3 => ?_)
  · have hw := Eq.mp (if_pos h3) hw
    refine pa_aload_n hE dX7_takesTest_15 rfl 1 rfl ?_
    refine pa_dup hE dX7_takesTest_16 rfl ?_
    refine pg_24_11 hE (pa_m4 132 rfl rfl) dX7_takesTest_17 ?_
    refine pa_iconst hE dX7_takesTest_20 (v := 1) (by decide) ?_
    refine pa_iadd hE dX7_takesTest_21 ?_
    refine pp_24_11 hE (pa_m4 132 rfl rfl) dX7_takesTest_22 (fun u4 eu4 => ?_)
    have hw := hw u4 eu4
    refine pa_aload_n hE dX7_takesTest_25 rfl 1 rfl ?_
    refine pa_callVri hE (ct_X7_next l g D q u4 _ hw) cv_RX7_235 pa_in24 rfl rfl rfl (pa_hR (by omega) (by decide)) rfl (Nat.le_of_ble_eq_true rfl) dX7_takesTest_26 (fun r5 hw => ?_)
    refine pa_istore_n hE dX7_takesTest_29 rfl (by decide) (lvr := [(1, .int r2), (0, .ref (q 24 0))]) rfl ?_
    refine pa_aload_n hE dX7_takesTest_30 rfl 2 rfl ?_
    refine pa_iload_n hE dX7_takesTest_31 rfl 0 rfl ?_
    refine pa_bipush hE dX7_takesTest_32 (v := 60) (by decide) ?_
    refine pa_bipush hE dX7_takesTest_34 (v := 62) (by decide) ?_
    refine pa_callVri hE (ct_X7_in l g D q u4 r5 60 62 _ hw) cv_RX7_221 pa_in24 rfl rfl rfl (pa_hR (by omega) (by decide)) rfl (Nat.le_of_ble_eq_true rfl) dX7_takesTest_36 (fun r6 hw => ?_)
    refine pa_if_ne hE dX7_takesTest_39 (tgt := 44) (by decide) (fun h7 => ?_) (fun h7 => ?_)
    · have hw := Eq.mp (if_neg h7) hw
      refine pa_aload_n hE dX7_takesTest_44 rfl 2 rfl ?_
      refine pa_dup hE dX7_takesTest_45 rfl ?_
      refine pg_24_11 hE (pa_m4 132 rfl rfl) dX7_takesTest_46 ?_
      refine pa_iconst hE dX7_takesTest_49 (v := 1) (by decide) ?_
      refine pa_iadd hE dX7_takesTest_50 ?_
      refine pp_24_11 hE (pa_m4 132 rfl rfl) dX7_takesTest_51 (fun u8 eu8 => ?_)
      have hw := hw u8 eu8
      refine pa_aload_n hE dX7_takesTest_54 rfl 2 rfl ?_
      refine pa_callVi hE (ct_X7_takesNumber l g D q u8 _ hw) cv_RX7_254 pa_in24 rfl rfl rfl (pa_hR (by omega) (by decide)) rfl (Nat.le_of_ble_eq_true rfl) dX7_takesTest_55 (fun r9 u10 hw => ?_)
      refine pa_if_ne hE dX7_takesTest_58 (tgt := 63) (by decide) (fun h11 => ?_) (fun h11 => ?_)
      · have hw := Eq.mp (if_neg h11) hw
        refine pa_aload_n hE dX7_takesTest_63 rfl 2 rfl ?_
        refine pa_sipush hE dX7_takesTest_64 (v := 1000) (by decide) ?_
        refine pa_iload_n hE dX7_takesTest_67 rfl 1 rfl ?_
        refine pa_imul hE dX7_takesTest_68 ?_
        refine pa_bipush hE dX7_takesTest_69 (v := 100) (by decide) ?_
        refine pa_iload_n hE dX7_takesTest_71 rfl 0 rfl ?_
        refine pa_bipush hE dX7_takesTest_72 (v := 60) (by decide) ?_
        refine pa_isub hE dX7_takesTest_74 ?_
        refine pa_imul hE dX7_takesTest_75 ?_
        refine pa_iadd hE dX7_takesTest_76 ?_
        refine pa_aload_n hE dX7_takesTest_77 rfl 2 rfl ?_
        refine pg_24_12 hE (pa_m4 133 rfl rfl) dX7_takesTest_78 ?_
        refine pa_iadd hE dX7_takesTest_81 ?_
        refine pa_callVv hE (ct_X7_emits l g D q u10 (((1000 * r2) + (100 * (r5 - 60))) + (pa_I u10 24 0 12)) _ hw) cv_RX7_246 pa_in24 rfl rfl rfl (pa_hR (by omega) (by decide)) rfl (Nat.le_of_ble_eq_true rfl) dX7_takesTest_82 (fun u13 hw => ?_)
        refine pa_aload_n hE dX7_takesTest_85 rfl 2 rfl ?_
        refine pa_callVv hE (ct_X7_whole l g D q u13 _ hw) cv_RX7_257 pa_in24 rfl rfl rfl (pa_hR (by omega) (by decide)) rfl (Nat.le_of_ble_eq_true rfl) dX7_takesTest_86 (fun u15 hw => ?_)
        refine pa_iconst hE dX7_takesTest_89 (v := 1) (by decide) ?_
        exact pa_zret hE hr (by decide) hw rfl dX7_takesTest_90
      · have hw := Eq.mp (if_pos h11) hw
        refine pa_iconst hE dX7_takesTest_61 (v := 0) (by decide) ?_
        exact pa_zret hE hr (by decide) hw rfl dX7_takesTest_62
    · have hw := Eq.mp (if_pos h7) hw
      refine pa_iconst hE dX7_takesTest_42 (v := 0) (by decide) ?_
      exact pa_zret hE hr (by decide) hw rfl dX7_takesTest_43
  · have hw := Eq.mp (if_neg h3) hw
    refine pa_iconst hE dX7_takesTest_13 (v := 0) (by decide) ?_
    exact pa_zret hE hr (by decide) hw rfl dX7_takesTest_14
def wp_X7_takesTest (u0 : pa_S) (post : Int32 → pa_S → Prop) : Prop := wb_X7_takesTest_0 u0 post
theorem ct_X7_takesTest (l : Launch) (g : pa_G) (D : va_G) (q : Nat → Nat → Nat) (u0 : pa_S) (post : Int32 → pa_S → Prop)  (hw : wp_X7_takesTest u0 post) : pa_Ct l yX7_takesTest cX7_takesTest 3 (some .boolean) 5 g D q u0 [.ref (q 24 0)] (fun r => some (.int r)) post := pa_met rfl rfl (Nat.le_of_ble_eq_true rfl) rfl (fun p e s m args below meth c A hE hr => tb_X7_takesTest_0 hE hr  hw)
def wb_X7_takesE_122 (k22 : pa_S → Int32 → Int32 → Prop) (u0 : pa_S) (x1 : Int32) (x3 : Int32) (post : Int32 → pa_S → Prop) : Prop :=
  (wp_X7_settle u0 x3 (fun (u9 : pa_S) => (vp_in (pa_I u9 24 0 22) 101) ∧ ∀ u11 : pa_S, u11 = pa_sA u9 37 0 (upd (pa_A u9 37 0) (pa_I u9 24 0 22).toNatClampNeg x3) → ∀ u12 : pa_S, u12 = pa_sI u11 24 0 22 ((pa_I u11 24 0 22) + 1) → ∀ u13 : pa_S, u13 = pa_sI u12 24 0 11 ((pa_I u12 24 0 11) + 1) → k22 u13 x1 1))
set_option maxRecDepth 100000 in
set_option maxHeartbeats 4000000 in
theorem tb_X7_takesE_122 {p : Program} {l : Launch} {e : Env} {s : State} {m : MethodId} {args : Array Value} {below : List Frame} {meth : Method} {c : Code} {A : Nat → Prop} {D : va_G} {g : pa_G} {q : Nat → Nat → Nat} {k22 : pa_S → Int32 → Int32 → Prop} {u0 : pa_S} {x1 : Int32} {x3 : Int32} {post : Int32 → pa_S → Prop} (hE : pa_Fx p s m args meth c A D g 4 cX7_takesE RX7) (hr : meth.sig.returnType = (some .boolean)) (hk22 : ∀ (u : pa_S)  (x1 : Int32) (x2 : Int32), k22 u x1 x2 → pa_At p l e (pa_rm 6) s m args below meth c (MQ below (pa_Qc g D q (fun r => some (.int r)) post A) args s 0 0 A) A D g 4 0 0 q u 22 [(0, .ref (q 24 0)), (1, .int x1), (2, .int x2)] []) (hw : wb_X7_takesE_122 k22 u0 x1 x3 post) : pa_At p l e (pa_rm 6) s m args below meth c (MQ below (pa_Qc g D q (fun r => some (.int r)) post A) args s 0 0 A) A D g 4 0 0 q u0 122 [(0, .ref (q 24 0)), (1, .int x1), (3, .int x3)] [] := by
  refine pa_aload_n hE dX7_takesE_122 rfl 0 rfl ?_
  refine pa_iload_n hE dX7_takesE_123 rfl 2 rfl ?_
  refine pa_callVv hE (ct_X7_settle l g D q u0 x3 _ hw) cv_RX7_263 pa_in24 rfl rfl rfl (pa_hR (by omega) (by decide)) rfl (Nat.le_of_ble_eq_true rfl) dX7_takesE_124 (fun u9 hw => ?_)
  refine pa_aload_n hE dX7_takesE_127 rfl 0 rfl ?_
  refine pg_24_20 hE (pa_m4 141 rfl rfl) dX7_takesE_128 ?_
  refine pa_aload_n hE dX7_takesE_131 rfl 0 rfl ?_
  refine pg_24_22 hE (pa_m4 143 rfl rfl) dX7_takesE_132 ?_
  refine pa_iload_n hE dX7_takesE_135 rfl 2 rfl ?_
  obtain ⟨h10, hw⟩ := hw
  refine ps_37 hE h10 dX7_takesE_136 (fun u11 eu11 => ?_)
  have hw := hw u11 eu11
  refine pa_aload_n hE dX7_takesE_137 rfl 0 rfl ?_
  refine pa_dup hE dX7_takesE_138 rfl ?_
  refine pg_24_22 hE (pa_m4 143 rfl rfl) dX7_takesE_139 ?_
  refine pa_iconst hE dX7_takesE_142 (v := 1) (by decide) ?_
  refine pa_iadd hE dX7_takesE_143 ?_
  refine pp_24_22 hE (pa_m4 143 rfl rfl) dX7_takesE_144 (fun u12 eu12 => ?_)
  have hw := hw u12 eu12
  refine pa_iconst hE dX7_takesE_147 (v := 1) (by decide) ?_
  refine pa_istore_n hE dX7_takesE_148 rfl (by decide) (lvr := [(0, .ref (q 24 0)), (1, .int x1), (3, .int x3)]) rfl ?_
  refine pa_aload_n hE dX7_takesE_149 rfl 1 rfl ?_
  refine pa_dup hE dX7_takesE_150 rfl ?_
  refine pg_24_11 hE (pa_m4 132 rfl rfl) dX7_takesE_151 ?_
  refine pa_iconst hE dX7_takesE_154 (v := 1) (by decide) ?_
  refine pa_iadd hE dX7_takesE_155 ?_
  refine pp_24_11 hE (pa_m4 132 rfl rfl) dX7_takesE_156 (fun u13 eu13 => ?_)
  have hw := hw u13 eu13
  refine pa_goto hE dX7_takesE_159 (tgt := 22) (by decide) ?_
  exact pa_sub [1, 2, 0] rfl (hk22 u13 x1 1 hw)
def wb_X7_takesE_43 (k22 : pa_S → Int32 → Int32 → Prop) (u0 : pa_S) (x1 : Int32) (x2 : Int32) (x3 : Int32) (post : Int32 → pa_S → Prop) : Prop :=
  (if (pa_I u0 24 0 23) = 4 then post 0 u0 else ∀ u28 : pa_S, u28 = pa_sI u0 24 0 23 ((pa_I u0 24 0 23) + 1) → (vp_in (pa_I u28 24 0 22) 101) ∧ ∀ u30 : pa_S, u30 = pa_sA u28 37 0 (upd (pa_A u28 37 0) (pa_I u28 24 0 22).toNatClampNeg x3) → ∀ u31 : pa_S, u31 = pa_sI u30 24 0 22 ((pa_I u30 24 0 22) + 1) → ∀ u32 : pa_S, u32 = pa_sI u31 24 0 11 ((pa_I u31 24 0 11) + 1) → k22 u32 x1 x2)
set_option maxRecDepth 100000 in
set_option maxHeartbeats 4000000 in
theorem tb_X7_takesE_43 {p : Program} {l : Launch} {e : Env} {s : State} {m : MethodId} {args : Array Value} {below : List Frame} {meth : Method} {c : Code} {A : Nat → Prop} {D : va_G} {g : pa_G} {q : Nat → Nat → Nat} {k22 : pa_S → Int32 → Int32 → Prop} {u0 : pa_S} {x1 : Int32} {x2 : Int32} {x3 : Int32} {post : Int32 → pa_S → Prop} (hE : pa_Fx p s m args meth c A D g 4 cX7_takesE RX7) (hr : meth.sig.returnType = (some .boolean)) (hk22 : ∀ (u : pa_S)  (x1 : Int32) (x2 : Int32), k22 u x1 x2 → pa_At p l e (pa_rm 6) s m args below meth c (MQ below (pa_Qc g D q (fun r => some (.int r)) post A) args s 0 0 A) A D g 4 0 0 q u 22 [(0, .ref (q 24 0)), (1, .int x1), (2, .int x2)] []) (hw : wb_X7_takesE_43 k22 u0 x1 x2 x3 post) : pa_At p l e (pa_rm 6) s m args below meth c (MQ below (pa_Qc g D q (fun r => some (.int r)) post A) args s 0 0 A) A D g 4 0 0 q u0 43 [(0, .ref (q 24 0)), (1, .int x1), (2, .int x2), (3, .int x3)] [] := by
  refine pa_aload_n hE dX7_takesE_43 rfl 0 rfl ?_
  refine pg_24_23 hE (pa_m4 144 rfl rfl) dX7_takesE_44 ?_
  refine pa_iconst hE dX7_takesE_47 (v := 4) (by decide) ?_
  refine pa_icmp_ne hE dX7_takesE_48 (tgt := 53) (by decide) (fun h27 => ?_) (fun h27 => ?_)
  · have hw := Eq.mp (if_neg h27) hw
    refine pa_aload_n hE dX7_takesE_53 rfl 0 rfl ?_
    refine pa_dup hE dX7_takesE_54 rfl ?_
    refine pg_24_23 hE (pa_m4 144 rfl rfl) dX7_takesE_55 ?_
    refine pa_iconst hE dX7_takesE_58 (v := 1) (by decide) ?_
    refine pa_iadd hE dX7_takesE_59 ?_
    refine pp_24_23 hE (pa_m4 144 rfl rfl) dX7_takesE_60 (fun u28 eu28 => ?_)
    have hw := hw u28 eu28
    refine pa_aload_n hE dX7_takesE_63 rfl 0 rfl ?_
    refine pg_24_20 hE (pa_m4 141 rfl rfl) dX7_takesE_64 ?_
    refine pa_aload_n hE dX7_takesE_67 rfl 0 rfl ?_
    refine pg_24_22 hE (pa_m4 143 rfl rfl) dX7_takesE_68 ?_
    refine pa_iload_n hE dX7_takesE_71 rfl 3 rfl ?_
    obtain ⟨h29, hw⟩ := hw
    refine ps_37 hE h29 dX7_takesE_72 (fun u30 eu30 => ?_)
    have hw := hw u30 eu30
    refine pa_aload_n hE dX7_takesE_73 rfl 0 rfl ?_
    refine pa_dup hE dX7_takesE_74 rfl ?_
    refine pg_24_22 hE (pa_m4 143 rfl rfl) dX7_takesE_75 ?_
    refine pa_iconst hE dX7_takesE_78 (v := 1) (by decide) ?_
    refine pa_iadd hE dX7_takesE_79 ?_
    refine pp_24_22 hE (pa_m4 143 rfl rfl) dX7_takesE_80 (fun u31 eu31 => ?_)
    have hw := hw u31 eu31
    refine pa_aload_n hE dX7_takesE_83 rfl 0 rfl ?_
    refine pa_dup hE dX7_takesE_84 rfl ?_
    refine pg_24_11 hE (pa_m4 132 rfl rfl) dX7_takesE_85 ?_
    refine pa_iconst hE dX7_takesE_88 (v := 1) (by decide) ?_
    refine pa_iadd hE dX7_takesE_89 ?_
    refine pp_24_11 hE (pa_m4 132 rfl rfl) dX7_takesE_90 (fun u32 eu32 => ?_)
    have hw := hw u32 eu32
    refine pa_goto hE dX7_takesE_93 (tgt := 22) (by decide) ?_
    exact pa_sub [0, 1, 2] rfl (hk22 u32 x1 x2 hw)
  · have hw := Eq.mp (if_pos h27) hw
    refine pa_iconst hE dX7_takesE_51 (v := 0) (by decide) ?_
    exact pa_zret hE hr (by decide) hw rfl dX7_takesE_52
def wb_X7_takesE_22 (k22 : pa_S → Int32 → Int32 → Prop) (u0 : pa_S) (x1 : Int32) (x2 : Int32) (post : Int32 → pa_S → Prop) : Prop :=
  (wp_X7_next u0 (fun (r5 : Int32) => (if x2 = 0 then (if r5 = 38 then wb_X7_takesE_122 k22 u0 x1 r5 post else (if r5 = 124 then wb_X7_takesE_122 k22 u0 x1 r5 post else (wp_X7_settle u0 124 (fun (u16 : pa_S) => (vp_in x1 60) ∧ ∀ u18 : pa_S, u18 = pa_sA u16 35 0 (upd (pa_A u16 35 0) x1.toNatClampNeg (pa_I u16 24 0 21)) → (if (pa_I u18 24 0 22) = 0 then post 1 u18 else (if r5 = 41 then ∀ u21 : pa_S, u21 = pa_sI u18 24 0 22 ((pa_I u18 24 0 22) - 1) → ∀ u22 : pa_S, u22 = pa_sI u21 24 0 23 ((pa_I u21 24 0 23) - 1) → ∀ u23 : pa_S, u23 = pa_sI u22 24 0 11 ((pa_I u22 24 0 11) + 1) → (wp_X7_whole u23 (fun (u25 : pa_S) => k22 u25 x1 x2)) else post 0 u18)))))) else (if r5 = 33 then wb_X7_takesE_43 k22 u0 x1 x2 r5 post else (if r5 = 40 then wb_X7_takesE_43 k22 u0 x1 x2 r5 post else (wp_X7_takesTest u0 (fun (r34 : Int32) (u35 : pa_S) => (if r34 = 0 then post 0 u35 else k22 u35 x1 0))))))))
set_option maxRecDepth 100000 in
set_option maxHeartbeats 4000000 in
theorem tb_X7_takesE_22 {p : Program} {l : Launch} {e : Env} {s : State} {m : MethodId} {args : Array Value} {below : List Frame} {meth : Method} {c : Code} {A : Nat → Prop} {D : va_G} {g : pa_G} {q : Nat → Nat → Nat} {k22 : pa_S → Int32 → Int32 → Prop} {u0 : pa_S} {x1 : Int32} {x2 : Int32} {post : Int32 → pa_S → Prop} (hE : pa_Fx p s m args meth c A D g 4 cX7_takesE RX7) (hr : meth.sig.returnType = (some .boolean)) (hk22 : ∀ (u : pa_S)  (x1 : Int32) (x2 : Int32), k22 u x1 x2 → pa_At p l e (pa_rm 6) s m args below meth c (MQ below (pa_Qc g D q (fun r => some (.int r)) post A) args s 0 0 A) A D g 4 0 0 q u 22 [(0, .ref (q 24 0)), (1, .int x1), (2, .int x2)] []) (hw : wb_X7_takesE_22 k22 u0 x1 x2 post) : pa_At p l e (pa_rm 6) s m args below meth c (MQ below (pa_Qc g D q (fun r => some (.int r)) post A) args s 0 0 A) A D g 4 0 0 q u0 22 [(0, .ref (q 24 0)), (1, .int x1), (2, .int x2)] [] := by
  refine pa_aload_n hE dX7_takesE_22 rfl 0 rfl ?_
  refine pa_callVri hE (ct_X7_next l g D q u0 _ hw) cv_RX7_235 pa_in24 rfl rfl rfl (pa_hR (by omega) (by decide)) rfl (Nat.le_of_ble_eq_true rfl) dX7_takesE_23 (fun r5 hw => ?_)
  refine pa_istore_n hE dX7_takesE_26 rfl (by decide) (lvr := [(0, .ref (q 24 0)), (1, .int x1), (2, .int x2)]) rfl ?_
  refine pa_iload_n hE dX7_takesE_27 rfl 3 rfl ?_
  refine pa_if_eq hE dX7_takesE_28 (tgt := 110) (by decide) (fun h6 => ?_) (fun h6 => ?_)
  · have hw := Eq.mp (if_pos h6) hw
    refine pa_iload_n hE dX7_takesE_110 rfl 0 rfl ?_
    refine pa_bipush hE dX7_takesE_111 (v := 38) (by decide) ?_
    refine pa_icmp_eq hE dX7_takesE_113 (tgt := 122) (by decide) (fun h7 => ?_) (fun h7 => ?_)
    · have hw := Eq.mp (if_pos h7) hw
      exact pa_sub [1, 2, 0] rfl (tb_X7_takesE_122 hE hr hk22 hw)
    · have hw := Eq.mp (if_neg h7) hw
      refine pa_iload_n hE dX7_takesE_116 rfl 0 rfl ?_
      refine pa_bipush hE dX7_takesE_117 (v := 124) (by decide) ?_
      refine pa_icmp_ne hE dX7_takesE_119 (tgt := 162) (by decide) (fun h14 => ?_) (fun h14 => ?_)
      · have hw := Eq.mp (if_neg h14) hw
        refine pa_aload_n hE dX7_takesE_162 rfl 1 rfl ?_
        refine pa_bipush hE dX7_takesE_163 (v := 124) (by decide) ?_
        refine pa_callVv hE (ct_X7_settle l g D q u0 124 _ hw) cv_RX7_263 pa_in24 rfl rfl rfl (pa_hR (by omega) (by decide)) rfl (Nat.le_of_ble_eq_true rfl) dX7_takesE_165 (fun u16 hw => ?_)
        refine pa_aload_n hE dX7_takesE_168 rfl 1 rfl ?_
        refine pg_24_18 hE (pa_m4 139 rfl rfl) dX7_takesE_169 ?_
        refine pa_iload_n hE dX7_takesE_172 rfl 2 rfl ?_
        refine pa_aload_n hE dX7_takesE_173 rfl 1 rfl ?_
        refine pg_24_21 hE (pa_m4 142 rfl rfl) dX7_takesE_174 ?_
        obtain ⟨h17, hw⟩ := hw
        refine ps_35 hE h17 dX7_takesE_177 (fun u18 eu18 => ?_)
        have hw := hw u18 eu18
        refine pa_aload_n hE dX7_takesE_178 rfl 1 rfl ?_
        refine pg_24_22 hE (pa_m4 143 rfl rfl) dX7_takesE_179 ?_
        refine pa_if_ne hE dX7_takesE_182 (tgt := 187) (by decide) (fun h19 => ?_) (fun h19 => ?_)
        · have hw := Eq.mp (if_neg h19) hw
          refine pa_iload_n hE dX7_takesE_187 rfl 0 rfl ?_
          refine pa_bipush hE dX7_takesE_188 (v := 41) (by decide) ?_
          refine pa_icmp_eq hE dX7_takesE_190 (tgt := 195) (by decide) (fun h20 => ?_) (fun h20 => ?_)
          · have hw := Eq.mp (if_pos h20) hw
            refine pa_aload_n hE dX7_takesE_195 rfl 1 rfl ?_
            refine pa_dup hE dX7_takesE_196 rfl ?_
            refine pg_24_22 hE (pa_m4 143 rfl rfl) dX7_takesE_197 ?_
            refine pa_iconst hE dX7_takesE_200 (v := 1) (by decide) ?_
            refine pa_isub hE dX7_takesE_201 ?_
            refine pp_24_22 hE (pa_m4 143 rfl rfl) dX7_takesE_202 (fun u21 eu21 => ?_)
            have hw := hw u21 eu21
            refine pa_aload_n hE dX7_takesE_205 rfl 1 rfl ?_
            refine pa_dup hE dX7_takesE_206 rfl ?_
            refine pg_24_23 hE (pa_m4 144 rfl rfl) dX7_takesE_207 ?_
            refine pa_iconst hE dX7_takesE_210 (v := 1) (by decide) ?_
            refine pa_isub hE dX7_takesE_211 ?_
            refine pp_24_23 hE (pa_m4 144 rfl rfl) dX7_takesE_212 (fun u22 eu22 => ?_)
            have hw := hw u22 eu22
            refine pa_aload_n hE dX7_takesE_215 rfl 1 rfl ?_
            refine pa_dup hE dX7_takesE_216 rfl ?_
            refine pg_24_11 hE (pa_m4 132 rfl rfl) dX7_takesE_217 ?_
            refine pa_iconst hE dX7_takesE_220 (v := 1) (by decide) ?_
            refine pa_iadd hE dX7_takesE_221 ?_
            refine pp_24_11 hE (pa_m4 132 rfl rfl) dX7_takesE_222 (fun u23 eu23 => ?_)
            have hw := hw u23 eu23
            refine pa_aload_n hE dX7_takesE_225 rfl 1 rfl ?_
            refine pa_callVv hE (ct_X7_whole l g D q u23 _ hw) cv_RX7_257 pa_in24 rfl rfl rfl (pa_hR (by omega) (by decide)) rfl (Nat.le_of_ble_eq_true rfl) dX7_takesE_226 (fun u25 hw => ?_)
            refine pa_goto hE dX7_takesE_229 (tgt := 22) (by decide) ?_
            exact pa_sub [1, 2, 3] rfl (hk22 u25 x1 x2 hw)
          · have hw := Eq.mp (if_neg h20) hw
            refine pa_iconst hE dX7_takesE_193 (v := 0) (by decide) ?_
            exact pa_zret hE hr (by decide) hw rfl dX7_takesE_194
        · have hw := Eq.mp (if_pos h19) hw
          refine pa_iconst hE dX7_takesE_185 (v := 1) (by decide) ?_
          exact pa_zret hE hr (by decide) hw rfl dX7_takesE_186
      · have hw := Eq.mp (if_pos h14) hw
        exact pa_sub [1, 2, 0] rfl (tb_X7_takesE_122 hE hr hk22 hw)
  · have hw := Eq.mp (if_neg h6) hw
    refine pa_iload_n hE dX7_takesE_31 rfl 0 rfl ?_
    refine pa_bipush hE dX7_takesE_32 (v := 33) (by decide) ?_
    refine pa_icmp_eq hE dX7_takesE_34 (tgt := 43) (by decide) (fun h26 => ?_) (fun h26 => ?_)
    · have hw := Eq.mp (if_pos h26) hw
      exact pa_sub [1, 2, 3, 0] rfl (tb_X7_takesE_43 hE hr hk22 hw)
    · have hw := Eq.mp (if_neg h26) hw
      refine pa_iload_n hE dX7_takesE_37 rfl 0 rfl ?_
      refine pa_bipush hE dX7_takesE_38 (v := 40) (by decide) ?_
      refine pa_icmp_ne hE dX7_takesE_40 (tgt := 96) (by decide) (fun h33 => ?_) (fun h33 => ?_)
      · have hw := Eq.mp (if_neg h33) hw
        refine pa_aload_n hE dX7_takesE_96 rfl 1 rfl ?_
        refine pa_callVi hE (ct_X7_takesTest l g D q u0 _ hw) cv_RX7_260 pa_in24 rfl rfl rfl (pa_hR (by omega) (by decide)) rfl (Nat.le_of_ble_eq_true rfl) dX7_takesE_97 (fun r34 u35 hw => ?_)
        refine pa_if_eq hE dX7_takesE_100 (tgt := 108) (by decide) (fun h36 => ?_) (fun h36 => ?_)
        · have hw := Eq.mp (if_pos h36) hw
          refine pa_iconst hE dX7_takesE_108 (v := 0) (by decide) ?_
          exact pa_zret hE hr (by decide) hw rfl dX7_takesE_109
        · have hw := Eq.mp (if_neg h36) hw
          refine pa_iconst hE dX7_takesE_103 (v := 0) (by decide) ?_
          refine pa_istore_n hE dX7_takesE_104 rfl (by decide) (lvr := [(3, .int r5), (0, .ref (q 24 0)), (1, .int x1)]) rfl ?_
          refine pa_goto hE dX7_takesE_105 (tgt := 22) (by decide) ?_
          exact pa_sub [2, 3, 0] rfl (hk22 u35 x1 0 hw)
      · have hw := Eq.mp (if_pos h33) hw
        exact pa_sub [1, 2, 3, 0] rfl (tb_X7_takesE_43 hE hr hk22 hw)
def wl_X7_takesE_22 (post : Int32 → pa_S → Prop) : Nat → pa_S → Int32 → Int32 → Prop
  | 0, _, _, _ => False
  | n + 1, u0, x1, x2 => wb_X7_takesE_22 (fun u0 x1 x2 => wl_X7_takesE_22 post n u0 x1 x2) u0 x1 x2 post
set_option maxRecDepth 100000 in
set_option maxHeartbeats 4000000 in
theorem tl_X7_takesE_22 {p : Program} {l : Launch} {e : Env} {s : State} {m : MethodId} {args : Array Value} {below : List Frame} {meth : Method} {c : Code} {A : Nat → Prop} {D : va_G} {g : pa_G} {q : Nat → Nat → Nat} {post : Int32 → pa_S → Prop} (hE : pa_Fx p s m args meth c A D g 4 cX7_takesE RX7) (hr : meth.sig.returnType = (some .boolean)) : ∀ (n : Nat) (u0 : pa_S) (x1 : Int32) (x2 : Int32), wl_X7_takesE_22 post n u0 x1 x2 → pa_At p l e (pa_rm 6) s m args below meth c (MQ below (pa_Qc g D q (fun r => some (.int r)) post A) args s 0 0 A) A D g 4 0 0 q u0 22 [(0, .ref (q 24 0)), (1, .int x1), (2, .int x2)] []
  | 0, _, _, _, hw => absurd hw (by simp only [wl_X7_takesE_22]; exact fun z => z)
  | n + 1, u0, x1, x2, hw => tb_X7_takesE_22 hE hr (fun u0 x1 x2  hw1 => tl_X7_takesE_22 hE hr  n u0 x1 x2  hw1) hw
def wb_X7_takesE_0 (u0 : pa_S) (x1 : Int32) (post : Int32 → pa_S → Prop) : Prop :=
  ∀ u1 : pa_S, u1 = pa_sI u0 24 0 22 0 → ∀ u2 : pa_S, u2 = pa_sI u1 24 0 23 0 → (vp_in x1 60) ∧ ∀ u4 : pa_S, u4 = pa_sA u2 34 0 (upd (pa_A u2 34 0) x1.toNatClampNeg (pa_I u2 24 0 21)) → wl_X7_takesE_22 post 5000 u4 x1 1
set_option maxRecDepth 100000 in
set_option maxHeartbeats 4000000 in
theorem tb_X7_takesE_0 {p : Program} {l : Launch} {e : Env} {s : State} {m : MethodId} {args : Array Value} {below : List Frame} {meth : Method} {c : Code} {A : Nat → Prop} {D : va_G} {g : pa_G} {q : Nat → Nat → Nat} {u0 : pa_S} {x1 : Int32} {post : Int32 → pa_S → Prop} (hE : pa_Fx p s m args meth c A D g 4 cX7_takesE RX7) (hr : meth.sig.returnType = (some .boolean)) (hw : wb_X7_takesE_0 u0 x1 post) : pa_At p l e (pa_rm 6) s m args below meth c (MQ below (pa_Qc g D q (fun r => some (.int r)) post A) args s 0 0 A) A D g 4 0 0 q u0 0 [(0, .ref (q 24 0)), (1, .int x1)] [] := by
  refine pa_aload_n hE dX7_takesE_0 rfl 0 rfl ?_
  refine pa_iconst hE dX7_takesE_1 (v := 0) (by decide) ?_
  refine pp_24_22 hE (pa_m4 143 rfl rfl) dX7_takesE_2 (fun u1 eu1 => ?_)
  have hw := hw u1 eu1
  refine pa_aload_n hE dX7_takesE_5 rfl 0 rfl ?_
  refine pa_iconst hE dX7_takesE_6 (v := 0) (by decide) ?_
  refine pp_24_23 hE (pa_m4 144 rfl rfl) dX7_takesE_7 (fun u2 eu2 => ?_)
  have hw := hw u2 eu2
  refine pa_aload_n hE dX7_takesE_10 rfl 0 rfl ?_
  refine pg_24_17 hE (pa_m4 138 rfl rfl) dX7_takesE_11 ?_
  refine pa_iload_n hE dX7_takesE_14 rfl 1 rfl ?_
  refine pa_aload_n hE dX7_takesE_15 rfl 0 rfl ?_
  refine pg_24_21 hE (pa_m4 142 rfl rfl) dX7_takesE_16 ?_
  obtain ⟨h3, hw⟩ := hw
  refine ps_34 hE h3 dX7_takesE_19 (fun u4 eu4 => ?_)
  have hw := hw u4 eu4
  refine pa_iconst hE dX7_takesE_20 (v := 1) (by decide) ?_
  refine pa_istore_n hE dX7_takesE_21 rfl (by decide) (lvr := [(0, .ref (q 24 0)), (1, .int x1)]) rfl ?_
  exact pa_sub [1, 2, 0] rfl (tl_X7_takesE_22 hE hr 5000 u4 x1 1 hw)
def wp_X7_takesE (u0 : pa_S) (x1 : Int32) (post : Int32 → pa_S → Prop) : Prop := wb_X7_takesE_0 u0 x1 post
theorem ct_X7_takesE (l : Launch) (g : pa_G) (D : va_G) (q : Nat → Nat → Nat) (u0 : pa_S) (x1 : Int32) (post : Int32 → pa_S → Prop)  (hw : wp_X7_takesE u0 x1 post) : pa_Ct l yX7_takesE cX7_takesE 4 (some .boolean) 6 g D q u0 [.ref (q 24 0), .int x1] (fun r => some (.int r)) post := pa_met rfl rfl (Nat.le_of_ble_eq_true rfl) rfl (fun p e s m args below meth c A hE hr => tb_X7_takesE_0 hE hr  hw)
def wb_X7_takesHead_71 (u0 : pa_S) (x1 : Int32) (y1 : Int32) (y2 : Int32) (post : Int32 → pa_S → Prop) : Prop :=
  (vp_in y1 60) ∧ ∀ u6 : pa_S, u6 = pa_sA u0 32 0 (upd (pa_A u0 32 0) y1.toNatClampNeg y2) → (vp_in x1 60) ∧ (if (pa_A u6 32 0 x1.toNatClampNeg) = 1 then (wp_X7_takesWord u6 5 6 (fun (r12 : Int32) (u13 : pa_S) => (r12 &&& 1 = r12) ∧ post r12 u13)) else (wp_X7_takesWord u6 0 5 (fun (r9 : Int32) (u10 : pa_S) => (r9 &&& 1 = r9) ∧ post r9 u10)))
set_option maxRecDepth 100000 in
set_option maxHeartbeats 4000000 in
theorem tb_X7_takesHead_71 {p : Program} {l : Launch} {e : Env} {s : State} {m : MethodId} {args : Array Value} {below : List Frame} {meth : Method} {c : Code} {A : Nat → Prop} {D : va_G} {g : pa_G} {q : Nat → Nat → Nat} {u0 : pa_S} {x1 : Int32} {y1 : Int32} {y2 : Int32} {post : Int32 → pa_S → Prop} (hE : pa_Fx p s m args meth c A D g 2 cX7_takesHead RX7) (hr : meth.sig.returnType = (some .boolean)) (hw : wb_X7_takesHead_71 u0 x1 y1 y2 post) : pa_At p l e (pa_rm 5) s m args below meth c (MQ below (pa_Qc g D q (fun r => some (.int r)) post A) args s 0 0 A) A D g 2 0 0 q u0 71 [(0, .ref (q 24 0)), (1, .int x1)] [.int y2, .int y1, .ref (q 32 0)] := by
  obtain ⟨h5, hw⟩ := hw
  refine ps_32 hE h5 dX7_takesHead_71 (fun u6 eu6 => ?_)
  have hw := hw u6 eu6
  refine pa_aload_n hE dX7_takesHead_72 rfl 0 rfl ?_
  refine pg_24_15 hE (pa_m4 136 rfl rfl) dX7_takesHead_73 ?_
  refine pa_iload_n hE dX7_takesHead_76 rfl 1 rfl ?_
  obtain ⟨h7, hw⟩ := hw
  refine pl_32 hE h7 dX7_takesHead_77 ?_
  refine pa_iconst hE dX7_takesHead_78 (v := 1) (by decide) ?_
  refine pa_icmp_ne hE dX7_takesHead_79 (tgt := 92) (by decide) (fun h8 => ?_) (fun h8 => ?_)
  · have hw := Eq.mp (if_neg h8) hw
    refine pa_aload_n hE dX7_takesHead_92 rfl 0 rfl ?_
    refine pa_iconst hE dX7_takesHead_93 (v := 0) (by decide) ?_
    refine pa_iconst hE dX7_takesHead_94 (v := 5) (by decide) ?_
    refine pa_callVi hE (ct_X7_takesWord l g D q u6 0 5 _ hw) cv_RX7_266 pa_in24 rfl rfl rfl (pa_hR (by omega) (by decide)) rfl (Nat.le_of_ble_eq_true rfl) dX7_takesHead_95 (fun r9 u10 hw => ?_)
    obtain ⟨h11, hw⟩ := hw
    exact pa_zret hE hr (congrArg Value.int h11) hw rfl dX7_takesHead_98
  · have hw := Eq.mp (if_pos h8) hw
    refine pa_aload_n hE dX7_takesHead_82 rfl 0 rfl ?_
    refine pa_iconst hE dX7_takesHead_83 (v := 5) (by decide) ?_
    refine pa_bipush hE dX7_takesHead_84 (v := 6) (by decide) ?_
    refine pa_callVi hE (ct_X7_takesWord l g D q u6 5 6 _ hw) cv_RX7_266 pa_in24 rfl rfl rfl (pa_hR (by omega) (by decide)) rfl (Nat.le_of_ble_eq_true rfl) dX7_takesHead_86 (fun r12 u13 hw => ?_)
    refine pa_goto hE dX7_takesHead_89 (tgt := 98) (by decide) ?_
    obtain ⟨h14, hw⟩ := hw
    exact pa_zret hE hr (congrArg Value.int h14) hw rfl dX7_takesHead_98
def wb_X7_takesHead_70 (u0 : pa_S) (x1 : Int32) (y1 : Int32) (post : Int32 → pa_S → Prop) : Prop :=
  wb_X7_takesHead_71 u0 x1 y1 0 post
set_option maxRecDepth 100000 in
set_option maxHeartbeats 4000000 in
theorem tb_X7_takesHead_70 {p : Program} {l : Launch} {e : Env} {s : State} {m : MethodId} {args : Array Value} {below : List Frame} {meth : Method} {c : Code} {A : Nat → Prop} {D : va_G} {g : pa_G} {q : Nat → Nat → Nat} {u0 : pa_S} {x1 : Int32} {y1 : Int32} {post : Int32 → pa_S → Prop} (hE : pa_Fx p s m args meth c A D g 2 cX7_takesHead RX7) (hr : meth.sig.returnType = (some .boolean)) (hw : wb_X7_takesHead_70 u0 x1 y1 post) : pa_At p l e (pa_rm 5) s m args below meth c (MQ below (pa_Qc g D q (fun r => some (.int r)) post A) args s 0 0 A) A D g 2 0 0 q u0 70 [(0, .ref (q 24 0)), (1, .int x1)] [.int y1, .ref (q 32 0)] := by
  refine pa_iconst hE dX7_takesHead_70 (v := 0) (by decide) ?_
  exact pa_sub [0, 1] rfl (tb_X7_takesHead_71 hE hr hw)
def wb_X7_takesHead_0 (u0 : pa_S) (x1 : Int32) (post : Int32 → pa_S → Prop) : Prop :=
  (wp_X7_next u0 (fun (r1 : Int32) => (if r1 = 98 then (if (pa_I u0 24 0 10) ≤ ((pa_I u0 24 0 11) + 2) then wb_X7_takesHead_70 u0 x1 x1 post else (vp_in ((pa_I u0 24 0 11) + 2) 100) ∧ (if (pa_A u0 30 0 ((pa_I u0 24 0 11) + 2).toNatClampNeg) = 105 then wb_X7_takesHead_71 u0 x1 x1 1 post else wb_X7_takesHead_70 u0 x1 x1 post)) else (if r1 = 114 then (vp_in x1 60) ∧ ∀ u18 : pa_S, u18 = pa_sA u0 32 0 (upd (pa_A u0 32 0) x1.toNatClampNeg 2) → (wp_X7_takesWord u18 11 4 (fun (r19 : Int32) (u20 : pa_S) => (r19 &&& 1 = r19) ∧ post r19 u20)) else (vp_in x1 60) ∧ ∀ u23 : pa_S, u23 = pa_sA u0 32 0 (upd (pa_A u0 32 0) x1.toNatClampNeg 3) → (wp_X7_takesWord u23 15 5 (fun (r24 : Int32) (u25 : pa_S) => (r24 &&& 1 = r24) ∧ post r24 u25))))))
set_option maxRecDepth 100000 in
set_option maxHeartbeats 4000000 in
theorem tb_X7_takesHead_0 {p : Program} {l : Launch} {e : Env} {s : State} {m : MethodId} {args : Array Value} {below : List Frame} {meth : Method} {c : Code} {A : Nat → Prop} {D : va_G} {g : pa_G} {q : Nat → Nat → Nat} {u0 : pa_S} {x1 : Int32} {post : Int32 → pa_S → Prop} (hE : pa_Fx p s m args meth c A D g 2 cX7_takesHead RX7) (hr : meth.sig.returnType = (some .boolean)) (hw : wb_X7_takesHead_0 u0 x1 post) : pa_At p l e (pa_rm 5) s m args below meth c (MQ below (pa_Qc g D q (fun r => some (.int r)) post A) args s 0 0 A) A D g 2 0 0 q u0 0 [(0, .ref (q 24 0)), (1, .int x1)] [] := by
  refine pa_aload_n hE dX7_takesHead_0 rfl 0 rfl ?_
  refine pa_callVri hE (ct_X7_next l g D q u0 _ hw) cv_RX7_235 pa_in24 rfl rfl rfl (pa_hR (by omega) (by decide)) rfl (Nat.le_of_ble_eq_true rfl) dX7_takesHead_1 (fun r1 hw => ?_)
  by_cases h2 : r1 = 98
  · have hw := Eq.mp (if_pos h2) hw
    refine pa_lsw hE dX7_takesHead_4 (by decide) (by rw [h2]; first | done | decide) (tgt := 32) (by decide) ?_
    refine pa_aload_n hE dX7_takesHead_32 rfl 0 rfl ?_
    refine pg_24_15 hE (pa_m4 136 rfl rfl) dX7_takesHead_33 ?_
    refine pa_iload_n hE dX7_takesHead_36 rfl 1 rfl ?_
    refine pa_aload_n hE dX7_takesHead_37 rfl 0 rfl ?_
    refine pg_24_11 hE (pa_m4 132 rfl rfl) dX7_takesHead_38 ?_
    refine pa_iconst hE dX7_takesHead_41 (v := 2) (by decide) ?_
    refine pa_iadd hE dX7_takesHead_42 ?_
    refine pa_aload_n hE dX7_takesHead_43 rfl 0 rfl ?_
    refine pg_24_10 hE (pa_m4 131 rfl rfl) dX7_takesHead_44 ?_
    refine pa_icmp_ge hE dX7_takesHead_47 (tgt := 70) (by decide) (fun h4 => ?_) (fun h4 => ?_)
    · have hw := Eq.mp (if_pos h4) hw
      exact pa_sub [0, 1] rfl (tb_X7_takesHead_70 hE hr hw)
    · have hw := Eq.mp (if_neg h4) hw
      refine pa_aload_n hE dX7_takesHead_50 rfl 0 rfl ?_
      refine pg_24_13 hE (pa_m4 134 rfl rfl) dX7_takesHead_51 ?_
      refine pa_aload_n hE dX7_takesHead_54 rfl 0 rfl ?_
      refine pg_24_11 hE (pa_m4 132 rfl rfl) dX7_takesHead_55 ?_
      refine pa_iconst hE dX7_takesHead_58 (v := 2) (by decide) ?_
      refine pa_iadd hE dX7_takesHead_59 ?_
      obtain ⟨h15, hw⟩ := hw
      refine pl_30 hE h15 dX7_takesHead_60 ?_
      refine pa_bipush hE dX7_takesHead_61 (v := 105) (by decide) ?_
      refine pa_icmp_ne hE dX7_takesHead_63 (tgt := 70) (by decide) (fun h16 => ?_) (fun h16 => ?_)
      · have hw := Eq.mp (if_neg h16) hw
        exact pa_sub [0, 1] rfl (tb_X7_takesHead_70 hE hr hw)
      · have hw := Eq.mp (if_pos h16) hw
        refine pa_iconst hE dX7_takesHead_66 (v := 1) (by decide) ?_
        refine pa_goto hE dX7_takesHead_67 (tgt := 71) (by decide) ?_
        exact pa_sub [0, 1] rfl (tb_X7_takesHead_71 hE hr hw)
  · have hw := Eq.mp (if_neg h2) hw
    by_cases h3 : r1 = 114
    · have hw := Eq.mp (if_pos h3) hw
      refine pa_lsw hE dX7_takesHead_4 (by decide) (by rw [h3]; first | done | decide) (tgt := 99) (by decide) ?_
      refine pa_aload_n hE dX7_takesHead_99 rfl 0 rfl ?_
      refine pg_24_15 hE (pa_m4 136 rfl rfl) dX7_takesHead_100 ?_
      refine pa_iload_n hE dX7_takesHead_103 rfl 1 rfl ?_
      refine pa_iconst hE dX7_takesHead_104 (v := 2) (by decide) ?_
      obtain ⟨h17, hw⟩ := hw
      refine ps_32 hE h17 dX7_takesHead_105 (fun u18 eu18 => ?_)
      have hw := hw u18 eu18
      refine pa_aload_n hE dX7_takesHead_106 rfl 0 rfl ?_
      refine pa_bipush hE dX7_takesHead_107 (v := 11) (by decide) ?_
      refine pa_iconst hE dX7_takesHead_109 (v := 4) (by decide) ?_
      refine pa_callVi hE (ct_X7_takesWord l g D q u18 11 4 _ hw) cv_RX7_266 pa_in24 rfl rfl rfl (pa_hR (by omega) (by decide)) rfl (Nat.le_of_ble_eq_true rfl) dX7_takesHead_110 (fun r19 u20 hw => ?_)
      obtain ⟨h21, hw⟩ := hw
      exact pa_zret hE hr (congrArg Value.int h21) hw rfl dX7_takesHead_113
    · have hw := Eq.mp (if_neg h3) hw
      refine pa_lsw hE dX7_takesHead_4 (by decide) (by rw [Op.lookupswitch.offset_cons, if_neg (fun z => h2 (pa_toI (c := 98) (by decide) z)), Op.lookupswitch.offset_cons, if_neg (fun z => h3 (pa_toI (c := 114) (by decide) z)), Op.lookupswitch.offset_nil]) (tgt := 114) (by decide) ?_
      refine pa_aload_n hE dX7_takesHead_114 rfl 0 rfl ?_
      refine pg_24_15 hE (pa_m4 136 rfl rfl) dX7_takesHead_115 ?_
      refine pa_iload_n hE dX7_takesHead_118 rfl 1 rfl ?_
      refine pa_iconst hE dX7_takesHead_119 (v := 3) (by decide) ?_
      obtain ⟨h22, hw⟩ := hw
      refine ps_32 hE h22 dX7_takesHead_120 (fun u23 eu23 => ?_)
      have hw := hw u23 eu23
      refine pa_aload_n hE dX7_takesHead_121 rfl 0 rfl ?_
      refine pa_bipush hE dX7_takesHead_122 (v := 15) (by decide) ?_
      refine pa_iconst hE dX7_takesHead_124 (v := 5) (by decide) ?_
      refine pa_callVi hE (ct_X7_takesWord l g D q u23 15 5 _ hw) cv_RX7_266 pa_in24 rfl rfl rfl (pa_hR (by omega) (by decide)) rfl (Nat.le_of_ble_eq_true rfl) dX7_takesHead_125 (fun r24 u25 hw => ?_)
      obtain ⟨h26, hw⟩ := hw
      exact pa_zret hE hr (congrArg Value.int h26) hw rfl dX7_takesHead_128
def wp_X7_takesHead (u0 : pa_S) (x1 : Int32) (post : Int32 → pa_S → Prop) : Prop := wb_X7_takesHead_0 u0 x1 post
theorem ct_X7_takesHead (l : Launch) (g : pa_G) (D : va_G) (q : Nat → Nat → Nat) (u0 : pa_S) (x1 : Int32) (post : Int32 → pa_S → Prop)  (hw : wp_X7_takesHead u0 x1 post) : pa_Ct l yX7_takesHead cX7_takesHead 2 (some .boolean) 5 g D q u0 [.ref (q 24 0), .int x1] (fun r => some (.int r)) post := pa_met rfl rfl (Nat.le_of_ble_eq_true rfl) rfl (fun p e s m args below meth c A hE hr => tb_X7_takesHead_0 hE hr  hw)
def wb_X7_takesClause_0 (u0 : pa_S) (x1 : Int32) (post : Int32 → pa_S → Prop) : Prop :=
  (wp_X7_takesHead u0 x1 (fun (r1 : Int32) (u2 : pa_S) => (if r1 = 0 then post 0 u2 else (wp_X7_takesNumber u2 (fun (r4 : Int32) (u5 : pa_S) => (if r4 = 0 then post 0 u5 else (vp_in x1 60) ∧ ∀ u8 : pa_S, u8 = pa_sA u5 33 0 (upd (pa_A u5 33 0) x1.toNatClampNeg (pa_I u5 24 0 12)) → (vp_in x1 60) ∧ (if 2 ≤ (pa_A u8 32 0 x1.toNatClampNeg) then post 1 u8 else (wp_X7_takes u8 32 (fun (r11 : Int32) (u12 : pa_S) => (if r11 = 0 then post 0 u12 else (wp_X7_takesE u12 x1 (fun (r14 : Int32) (u15 : pa_S) => (if r14 = 0 then post 0 u15 else post 1 u15)))))))))))))
set_option maxRecDepth 100000 in
set_option maxHeartbeats 4000000 in
theorem tb_X7_takesClause_0 {p : Program} {l : Launch} {e : Env} {s : State} {m : MethodId} {args : Array Value} {below : List Frame} {meth : Method} {c : Code} {A : Nat → Prop} {D : va_G} {g : pa_G} {q : Nat → Nat → Nat} {u0 : pa_S} {x1 : Int32} {post : Int32 → pa_S → Prop} (hE : pa_Fx p s m args meth c A D g 2 cX7_takesClause RX7) (hr : meth.sig.returnType = (some .boolean)) (hw : wb_X7_takesClause_0 u0 x1 post) : pa_At p l e (pa_rm 7) s m args below meth c (MQ below (pa_Qc g D q (fun r => some (.int r)) post A) args s 0 0 A) A D g 2 0 0 q u0 0 [(0, .ref (q 24 0)), (1, .int x1)] [] := by
  refine pa_aload_n hE dX7_takesClause_0 rfl 0 rfl ?_
  refine pa_iload_n hE dX7_takesClause_1 rfl 1 rfl ?_
  refine pa_callVi hE (ct_X7_takesHead l g D q u0 x1 _ hw) cv_RX7_270 pa_in24 rfl rfl rfl (pa_hR (by omega) (by decide)) rfl (Nat.le_of_ble_eq_true rfl) dX7_takesClause_2 (fun r1 u2 hw => ?_)
  refine pa_if_eq hE dX7_takesClause_5 (tgt := 15) (by decide) (fun h3 => ?_) (fun h3 => ?_)
  · have hw := Eq.mp (if_pos h3) hw
    refine pa_iconst hE dX7_takesClause_15 (v := 0) (by decide) ?_
    exact pa_zret hE hr (by decide) hw rfl dX7_takesClause_16
  · have hw := Eq.mp (if_neg h3) hw
    refine pa_aload_n hE dX7_takesClause_8 rfl 0 rfl ?_
    refine pa_callVi hE (ct_X7_takesNumber l g D q u2 _ hw) cv_RX7_254 pa_in24 rfl rfl rfl (pa_hR (by omega) (by decide)) rfl (Nat.le_of_ble_eq_true rfl) dX7_takesClause_9 (fun r4 u5 hw => ?_)
    refine pa_if_ne hE dX7_takesClause_12 (tgt := 17) (by decide) (fun h6 => ?_) (fun h6 => ?_)
    · have hw := Eq.mp (if_neg h6) hw
      refine pa_aload_n hE dX7_takesClause_17 rfl 0 rfl ?_
      refine pg_24_16 hE (pa_m4 137 rfl rfl) dX7_takesClause_18 ?_
      refine pa_iload_n hE dX7_takesClause_21 rfl 1 rfl ?_
      refine pa_aload_n hE dX7_takesClause_22 rfl 0 rfl ?_
      refine pg_24_12 hE (pa_m4 133 rfl rfl) dX7_takesClause_23 ?_
      obtain ⟨h7, hw⟩ := hw
      refine ps_33 hE h7 dX7_takesClause_26 (fun u8 eu8 => ?_)
      have hw := hw u8 eu8
      refine pa_aload_n hE dX7_takesClause_27 rfl 0 rfl ?_
      refine pg_24_15 hE (pa_m4 136 rfl rfl) dX7_takesClause_28 ?_
      refine pa_iload_n hE dX7_takesClause_31 rfl 1 rfl ?_
      obtain ⟨h9, hw⟩ := hw
      refine pl_32 hE h9 dX7_takesClause_32 ?_
      refine pa_iconst hE dX7_takesClause_33 (v := 2) (by decide) ?_
      refine pa_icmp_ge hE dX7_takesClause_34 (tgt := 54) (by decide) (fun h10 => ?_) (fun h10 => ?_)
      · have hw := Eq.mp (if_pos h10) hw
        refine pa_iconst hE dX7_takesClause_54 (v := 1) (by decide) ?_
        refine pa_goto hE dX7_takesClause_55 (tgt := 59) (by decide) ?_
        exact pa_zret hE hr (by decide) hw rfl dX7_takesClause_59
      · have hw := Eq.mp (if_neg h10) hw
        refine pa_aload_n hE dX7_takesClause_37 rfl 0 rfl ?_
        refine pa_bipush hE dX7_takesClause_38 (v := 32) (by decide) ?_
        refine pa_callVi hE (ct_X7_takes l g D q u8 32 _ hw) cv_RX7_239 pa_in24 rfl rfl rfl (pa_hR (by omega) (by decide)) rfl (Nat.le_of_ble_eq_true rfl) dX7_takesClause_40 (fun r11 u12 hw => ?_)
        refine pa_if_eq hE dX7_takesClause_43 (tgt := 58) (by decide) (fun h13 => ?_) (fun h13 => ?_)
        · have hw := Eq.mp (if_pos h13) hw
          refine pa_iconst hE dX7_takesClause_58 (v := 0) (by decide) ?_
          exact pa_zret hE hr (by decide) hw rfl dX7_takesClause_59
        · have hw := Eq.mp (if_neg h13) hw
          refine pa_aload_n hE dX7_takesClause_46 rfl 0 rfl ?_
          refine pa_iload_n hE dX7_takesClause_47 rfl 1 rfl ?_
          refine pa_callVi hE (ct_X7_takesE l g D q u12 x1 _ hw) cv_RX7_273 pa_in24 rfl rfl rfl (pa_hR (by omega) (by decide)) rfl (Nat.le_of_ble_eq_true rfl) dX7_takesClause_48 (fun r14 u15 hw => ?_)
          refine pa_if_eq hE dX7_takesClause_51 (tgt := 58) (by decide) (fun h16 => ?_) (fun h16 => ?_)
          · have hw := Eq.mp (if_pos h16) hw
            refine pa_iconst hE dX7_takesClause_58 (v := 0) (by decide) ?_
            exact pa_zret hE hr (by decide) hw rfl dX7_takesClause_59
          · have hw := Eq.mp (if_neg h16) hw
            refine pa_iconst hE dX7_takesClause_54 (v := 1) (by decide) ?_
            refine pa_goto hE dX7_takesClause_55 (tgt := 59) (by decide) ?_
            exact pa_zret hE hr (by decide) hw rfl dX7_takesClause_59
    · have hw := Eq.mp (if_pos h6) hw
      refine pa_iconst hE dX7_takesClause_15 (v := 0) (by decide) ?_
      exact pa_zret hE hr (by decide) hw rfl dX7_takesClause_16
def wp_X7_takesClause (u0 : pa_S) (x1 : Int32) (post : Int32 → pa_S → Prop) : Prop := wb_X7_takesClause_0 u0 x1 post
theorem ct_X7_takesClause (l : Launch) (g : pa_G) (D : va_G) (q : Nat → Nat → Nat) (u0 : pa_S) (x1 : Int32) (post : Int32 → pa_S → Prop)  (hw : wp_X7_takesClause u0 x1 post) : pa_Ct l yX7_takesClause cX7_takesClause 2 (some .boolean) 7 g D q u0 [.ref (q 24 0), .int x1] (fun r => some (.int r)) post := pa_met rfl rfl (Nat.le_of_ble_eq_true rfl) rfl (fun p e s m args below meth c A hE hr => tb_X7_takesClause_0 hE hr  hw)
def wb_X7_goesText_15 (k15 : pa_S → Int32 → Int32 → Prop) (u0 : pa_S) (x1 : Int32) (x2 : Int32) (post : Int32 → pa_S → Prop) : Prop :=
  (wp_X7_takesClause u0 ((10 * x1) + x2) (fun (r3 : Int32) (u4 : pa_S) => (if r3 = 0 then post 0 u4 else ∀ v6 : Int32, v6 = x2 + 1 → (vp_in x1 6) ∧ ∀ u8 : pa_S, u8 = pa_sA u4 31 0 (upd (pa_A u4 31 0) x1.toNatClampNeg v6) → (if (pa_I u8 24 0 11) = (pa_I u8 24 0 10) then post 1 u8 else (if v6 = 10 then post 0 u8 else (wp_X7_takes u8 59 (fun (r11 : Int32) (u12 : pa_S) => (if r11 = 0 then post 0 u12 else k15 u12 x1 v6))))))))
set_option maxRecDepth 100000 in
set_option maxHeartbeats 4000000 in
theorem tb_X7_goesText_15 {p : Program} {l : Launch} {e : Env} {s : State} {m : MethodId} {args : Array Value} {below : List Frame} {meth : Method} {c : Code} {A : Nat → Prop} {D : va_G} {g : pa_G} {q : Nat → Nat → Nat} {k15 : pa_S → Int32 → Int32 → Prop} {u0 : pa_S} {x1 : Int32} {x2 : Int32} {post : Int32 → pa_S → Prop} (hE : pa_Fx p s m args meth c A D g 3 cX7_goesText RX7) (hr : meth.sig.returnType = (some .boolean)) (hk15 : ∀ (u : pa_S)  (x1 : Int32) (x2 : Int32), k15 u x1 x2 → pa_At p l e (pa_rm 8) s m args below meth c (MQ below (pa_Qc g D q (fun r => some (.int r)) post A) args s 0 0 A) A D g 3 0 0 q u 15 [(0, .ref (q 24 0)), (1, .int x1), (2, .int x2)] []) (hw : wb_X7_goesText_15 k15 u0 x1 x2 post) : pa_At p l e (pa_rm 8) s m args below meth c (MQ below (pa_Qc g D q (fun r => some (.int r)) post A) args s 0 0 A) A D g 3 0 0 q u0 15 [(0, .ref (q 24 0)), (1, .int x1), (2, .int x2)] [] := by
  refine pa_aload_n hE dX7_goesText_15 rfl 0 rfl ?_
  refine pa_bipush hE dX7_goesText_16 (v := 10) (by decide) ?_
  refine pa_iload_n hE dX7_goesText_18 rfl 1 rfl ?_
  refine pa_imul hE dX7_goesText_19 ?_
  refine pa_iload_n hE dX7_goesText_20 rfl 2 rfl ?_
  refine pa_iadd hE dX7_goesText_21 ?_
  refine pa_callVi hE (ct_X7_takesClause l g D q u0 ((10 * x1) + x2) _ hw) cv_RX7_276 pa_in24 rfl rfl rfl (pa_hR (by omega) (by decide)) rfl (Nat.le_of_ble_eq_true rfl) dX7_goesText_22 (fun r3 u4 hw => ?_)
  refine pa_if_ne hE dX7_goesText_25 (tgt := 30) (by decide) (fun h5 => ?_) (fun h5 => ?_)
  · have hw := Eq.mp (if_neg h5) hw
    refine pa_iinc hE dX7_goesText_30 (v := 1) 2 rfl (by decide) (by decide) (lvr := [(0, .ref (q 24 0)), (1, .int x1)]) rfl (fun v6 ev6 => ?_)
    have hw := hw v6 ev6
    refine pa_aload_n hE dX7_goesText_33 rfl 1 rfl ?_
    refine pg_24_14 hE (pa_m4 135 rfl rfl) dX7_goesText_34 ?_
    refine pa_iload_n hE dX7_goesText_37 rfl 2 rfl ?_
    refine pa_iload_n hE dX7_goesText_38 rfl 0 rfl ?_
    obtain ⟨h7, hw⟩ := hw
    refine ps_31 hE h7 dX7_goesText_39 (fun u8 eu8 => ?_)
    have hw := hw u8 eu8
    refine pa_aload_n hE dX7_goesText_40 rfl 1 rfl ?_
    refine pg_24_11 hE (pa_m4 132 rfl rfl) dX7_goesText_41 ?_
    refine pa_aload_n hE dX7_goesText_44 rfl 1 rfl ?_
    refine pg_24_10 hE (pa_m4 131 rfl rfl) dX7_goesText_45 ?_
    refine pa_icmp_ne hE dX7_goesText_48 (tgt := 53) (by decide) (fun h9 => ?_) (fun h9 => ?_)
    · have hw := Eq.mp (if_neg h9) hw
      refine pa_iload_n hE dX7_goesText_53 rfl 0 rfl ?_
      refine pa_bipush hE dX7_goesText_54 (v := 10) (by decide) ?_
      refine pa_icmp_eq hE dX7_goesText_56 (tgt := 68) (by decide) (fun h10 => ?_) (fun h10 => ?_)
      · have hw := Eq.mp (if_pos h10) hw
        refine pa_iconst hE dX7_goesText_68 (v := 0) (by decide) ?_
        exact pa_zret hE hr (by decide) hw rfl dX7_goesText_69
      · have hw := Eq.mp (if_neg h10) hw
        refine pa_aload_n hE dX7_goesText_59 rfl 1 rfl ?_
        refine pa_bipush hE dX7_goesText_60 (v := 59) (by decide) ?_
        refine pa_callVi hE (ct_X7_takes l g D q u8 59 _ hw) cv_RX7_239 pa_in24 rfl rfl rfl (pa_hR (by omega) (by decide)) rfl (Nat.le_of_ble_eq_true rfl) dX7_goesText_62 (fun r11 u12 hw => ?_)
        refine pa_if_ne hE dX7_goesText_65 (tgt := 15) (by decide) (fun h13 => ?_) (fun h13 => ?_)
        · have hw := Eq.mp (if_neg h13) hw
          exact pa_sub [1, 2, 0] rfl (hk15 u12 x1 v6 hw)
        · have hw := Eq.mp (if_pos h13) hw
          refine pa_iconst hE dX7_goesText_68 (v := 0) (by decide) ?_
          exact pa_zret hE hr (by decide) hw rfl dX7_goesText_69
    · have hw := Eq.mp (if_pos h9) hw
      refine pa_iconst hE dX7_goesText_51 (v := 1) (by decide) ?_
      exact pa_zret hE hr (by decide) hw rfl dX7_goesText_52
  · have hw := Eq.mp (if_pos h5) hw
    refine pa_iconst hE dX7_goesText_28 (v := 0) (by decide) ?_
    exact pa_zret hE hr (by decide) hw rfl dX7_goesText_29
def wl_X7_goesText_15 (post : Int32 → pa_S → Prop) : Nat → pa_S → Int32 → Int32 → Prop
  | 0, _, _, _ => False
  | n + 1, u0, x1, x2 => wb_X7_goesText_15 (fun u0 x1 x2 => wl_X7_goesText_15 post n u0 x1 x2) u0 x1 x2 post
set_option maxRecDepth 100000 in
set_option maxHeartbeats 4000000 in
theorem tl_X7_goesText_15 {p : Program} {l : Launch} {e : Env} {s : State} {m : MethodId} {args : Array Value} {below : List Frame} {meth : Method} {c : Code} {A : Nat → Prop} {D : va_G} {g : pa_G} {q : Nat → Nat → Nat} {post : Int32 → pa_S → Prop} (hE : pa_Fx p s m args meth c A D g 3 cX7_goesText RX7) (hr : meth.sig.returnType = (some .boolean)) : ∀ (n : Nat) (u0 : pa_S) (x1 : Int32) (x2 : Int32), wl_X7_goesText_15 post n u0 x1 x2 → pa_At p l e (pa_rm 8) s m args below meth c (MQ below (pa_Qc g D q (fun r => some (.int r)) post A) args s 0 0 A) A D g 3 0 0 q u0 15 [(0, .ref (q 24 0)), (1, .int x1), (2, .int x2)] []
  | 0, _, _, _, hw => absurd hw (by simp only [wl_X7_goesText_15]; exact fun z => z)
  | n + 1, u0, x1, x2, hw => tb_X7_goesText_15 hE hr (fun u0 x1 x2  hw1 => tl_X7_goesText_15 hE hr  n u0 x1 x2  hw1) hw
def wb_X7_goesText_0 (u0 : pa_S) (x1 : Int32) (post : Int32 → pa_S → Prop) : Prop :=
  ∀ u1 : pa_S, u1 = pa_sI u0 24 0 11 0 → ∀ u2 : pa_S, u2 = pa_sI u1 24 0 21 (100 * x1) → wl_X7_goesText_15 post 5000 u2 x1 0
set_option maxRecDepth 100000 in
set_option maxHeartbeats 4000000 in
theorem tb_X7_goesText_0 {p : Program} {l : Launch} {e : Env} {s : State} {m : MethodId} {args : Array Value} {below : List Frame} {meth : Method} {c : Code} {A : Nat → Prop} {D : va_G} {g : pa_G} {q : Nat → Nat → Nat} {u0 : pa_S} {x1 : Int32} {post : Int32 → pa_S → Prop} (hE : pa_Fx p s m args meth c A D g 3 cX7_goesText RX7) (hr : meth.sig.returnType = (some .boolean)) (hw : wb_X7_goesText_0 u0 x1 post) : pa_At p l e (pa_rm 8) s m args below meth c (MQ below (pa_Qc g D q (fun r => some (.int r)) post A) args s 0 0 A) A D g 3 0 0 q u0 0 [(0, .ref (q 24 0)), (1, .int x1)] [] := by
  refine pa_aload_n hE dX7_goesText_0 rfl 0 rfl ?_
  refine pa_iconst hE dX7_goesText_1 (v := 0) (by decide) ?_
  refine pp_24_11 hE (pa_m4 132 rfl rfl) dX7_goesText_2 (fun u1 eu1 => ?_)
  have hw := hw u1 eu1
  refine pa_aload_n hE dX7_goesText_5 rfl 0 rfl ?_
  refine pa_bipush hE dX7_goesText_6 (v := 100) (by decide) ?_
  refine pa_iload_n hE dX7_goesText_8 rfl 1 rfl ?_
  refine pa_imul hE dX7_goesText_9 ?_
  refine pp_24_21 hE (pa_m4 142 rfl rfl) dX7_goesText_10 (fun u2 eu2 => ?_)
  have hw := hw u2 eu2
  refine pa_iconst hE dX7_goesText_13 (v := 0) (by decide) ?_
  refine pa_istore_n hE dX7_goesText_14 rfl (by decide) (lvr := [(0, .ref (q 24 0)), (1, .int x1)]) rfl ?_
  exact pa_sub [1, 2, 0] rfl (tl_X7_goesText_15 hE hr 5000 u2 x1 0 hw)
def wp_X7_goesText (u0 : pa_S) (x1 : Int32) (post : Int32 → pa_S → Prop) : Prop := wb_X7_goesText_0 u0 x1 post
theorem ct_X7_goesText (l : Launch) (g : pa_G) (D : va_G) (q : Nat → Nat → Nat) (u0 : pa_S) (x1 : Int32) (post : Int32 → pa_S → Prop)  (hw : wp_X7_goesText u0 x1 post) : pa_Ct l yX7_goesText cX7_goesText 3 (some .boolean) 8 g D q u0 [.ref (q 24 0), .int x1] (fun r => some (.int r)) post := pa_met rfl rfl (Nat.le_of_ble_eq_true rfl) rfl (fun p e s m args below meth c A hE hr => tb_X7_goesText_0 hE hr  hw)
def wb_X7_booth_0 (u0 : pa_S) (post : Int32 → pa_S → Prop) : Prop :=
  (if (pa_I u0 24 0 8) = 6 then post (-4 : Int32) u0 else (wp_X7_goesText u0 (pa_I u0 24 0 8) (fun (r2 : Int32) (u3 : pa_S) => ∀ u4 : pa_S, u4 = pa_sI u3 24 0 10 0 → (if r2 = 0 then post ((-10 : Int32) - (pa_I u4 24 0 11)) u4 else ∀ u6 : pa_S, u6 = pa_sI u4 24 0 9 (pa_I u4 24 0 8) → ∀ u7 : pa_S, u7 = pa_sI u6 24 0 8 ((pa_I u6 24 0 8) + 1) → post (pa_I u7 24 0 9) u7))))
set_option maxRecDepth 100000 in
set_option maxHeartbeats 4000000 in
theorem tb_X7_booth_0 {p : Program} {l : Launch} {e : Env} {s : State} {m : MethodId} {args : Array Value} {below : List Frame} {meth : Method} {c : Code} {A : Nat → Prop} {D : va_G} {g : pa_G} {q : Nat → Nat → Nat} {u0 : pa_S} {post : Int32 → pa_S → Prop} (hE : pa_Fx p s m args meth c A D g 2 cX7_booth RX7) (hr : meth.sig.returnType = (some .int)) (hw : wb_X7_booth_0 u0 post) : pa_At p l e (pa_rm 9) s m args below meth c (MQ below (pa_Qc g D q (fun r => some (.int r)) post A) args s 0 0 A) A D g 2 0 0 q u0 0 [(0, .ref (q 24 0))] [] := by
  refine pa_aload_n hE dX7_booth_0 rfl 0 rfl ?_
  refine pg_24_8 hE (pa_m4 129 rfl rfl) dX7_booth_1 ?_
  refine pa_bipush hE dX7_booth_4 (v := 6) (by decide) ?_
  refine pa_icmp_ne hE dX7_booth_6 (tgt := 12) (by decide) (fun h1 => ?_) (fun h1 => ?_)
  · have hw := Eq.mp (if_neg h1) hw
    refine pa_aload_n hE dX7_booth_12 rfl 0 rfl ?_
    refine pa_aload_n hE dX7_booth_13 rfl 0 rfl ?_
    refine pg_24_8 hE (pa_m4 129 rfl rfl) dX7_booth_14 ?_
    refine pa_callVi hE (ct_X7_goesText l g D q u0 (pa_I u0 24 0 8) _ hw) cv_RX7_279 pa_in24 rfl rfl rfl (pa_hR (by omega) (by decide)) rfl (Nat.le_of_ble_eq_true rfl) dX7_booth_17 (fun r2 u3 hw => ?_)
    refine pa_istore_n hE dX7_booth_20 rfl (by decide) (lvr := [(0, .ref (q 24 0))]) rfl ?_
    refine pa_aload_n hE dX7_booth_21 rfl 1 rfl ?_
    refine pa_iconst hE dX7_booth_22 (v := 0) (by decide) ?_
    refine pp_24_10 hE (pa_m4 131 rfl rfl) dX7_booth_23 (fun u4 eu4 => ?_)
    have hw := hw u4 eu4
    refine pa_iload_n hE dX7_booth_26 rfl 0 rfl ?_
    refine pa_if_ne hE dX7_booth_27 (tgt := 38) (by decide) (fun h5 => ?_) (fun h5 => ?_)
    · have hw := Eq.mp (if_neg h5) hw
      refine pa_aload_n hE dX7_booth_38 rfl 1 rfl ?_
      refine pa_aload_n hE dX7_booth_39 rfl 1 rfl ?_
      refine pg_24_8 hE (pa_m4 129 rfl rfl) dX7_booth_40 ?_
      refine pp_24_9 hE (pa_m4 130 rfl rfl) dX7_booth_43 (fun u6 eu6 => ?_)
      have hw := hw u6 eu6
      refine pa_aload_n hE dX7_booth_46 rfl 1 rfl ?_
      refine pa_dup hE dX7_booth_47 rfl ?_
      refine pg_24_8 hE (pa_m4 129 rfl rfl) dX7_booth_48 ?_
      refine pa_iconst hE dX7_booth_51 (v := 1) (by decide) ?_
      refine pa_iadd hE dX7_booth_52 ?_
      refine pp_24_8 hE (pa_m4 129 rfl rfl) dX7_booth_53 (fun u7 eu7 => ?_)
      have hw := hw u7 eu7
      refine pa_aload_n hE dX7_booth_56 rfl 1 rfl ?_
      refine pg_24_9 hE (pa_m4 130 rfl rfl) dX7_booth_57 ?_
      exact pa_iret hE hr hw rfl dX7_booth_60
    · have hw := Eq.mp (if_pos h5) hw
      refine pa_bipush hE dX7_booth_30 (v := (-10 : Int32)) (by decide) ?_
      refine pa_aload_n hE dX7_booth_32 rfl 1 rfl ?_
      refine pg_24_11 hE (pa_m4 132 rfl rfl) dX7_booth_33 ?_
      refine pa_isub hE dX7_booth_36 ?_
      exact pa_iret hE hr hw rfl dX7_booth_37
  · have hw := Eq.mp (if_pos h1) hw
    refine pa_bipush hE dX7_booth_9 (v := (-4 : Int32)) (by decide) ?_
    exact pa_iret hE hr hw rfl dX7_booth_11
def wp_X7_booth (u0 : pa_S) (post : Int32 → pa_S → Prop) : Prop := wb_X7_booth_0 u0 post
theorem ct_X7_booth (l : Launch) (g : pa_G) (D : va_G) (q : Nat → Nat → Nat) (u0 : pa_S) (post : Int32 → pa_S → Prop)  (hw : wp_X7_booth u0 post) : pa_Ct l yX7_booth cX7_booth 2 (some .int) 9 g D q u0 [.ref (q 24 0)] (fun r => some (.int r)) post := pa_met rfl rfl (Nat.le_of_ble_eq_true rfl) rfl (fun p e s m args below meth c A hE hr => tb_X7_booth_0 hE hr  hw)
def wb_X7_begin_0 (u0 : pa_S) (post : Int32 → Prop) : Prop :=
  (if 0 ≤ (pa_I u0 24 0 9) then post (10 * (pa_I u0 24 0 9)) else post 0)
set_option maxRecDepth 100000 in
set_option maxHeartbeats 4000000 in
theorem tb_X7_begin_0 {p : Program} {l : Launch} {e : Env} {s : State} {m : MethodId} {args : Array Value} {below : List Frame} {meth : Method} {c : Code} {A : Nat → Prop} {D : va_G} {g : pa_G} {q : Nat → Nat → Nat} {u0 : pa_S} {post : Int32 → Prop} (hE : pa_Fx p s m args meth c A D g 1 cX7_begin RX7) (hr : meth.sig.returnType = (some .int)) (hw : wb_X7_begin_0 u0 post) : pa_At p l e (pa_rm 2) s m args below meth c (MQ below (pa_Qc g D q (fun r => some (.int r)) (fun r u => u = u0 ∧ post r) A) args s 0 0 A) A D g 1 0 0 q u0 0 [(0, .ref (q 24 0))] [] := by
  refine pa_aload_n hE dX7_begin_0 rfl 0 rfl ?_
  refine pg_24_9 hE (pa_m4 130 rfl rfl) dX7_begin_1 ?_
  refine pa_if_ge hE dX7_begin_4 (tgt := 11) (by decide) (fun h1 => ?_) (fun h1 => ?_)
  · have hw := Eq.mp (if_pos h1) hw
    refine pa_bipush hE dX7_begin_11 (v := 10) (by decide) ?_
    refine pa_aload_n hE dX7_begin_13 rfl 0 rfl ?_
    refine pg_24_9 hE (pa_m4 130 rfl rfl) dX7_begin_14 ?_
    refine pa_imul hE dX7_begin_17 ?_
    exact pa_iret hE hr ⟨rfl, hw⟩ rfl dX7_begin_18
  · have hw := Eq.mp (if_neg h1) hw
    refine pa_iconst hE dX7_begin_7 (v := 0) (by decide) ?_
    refine pa_goto hE dX7_begin_8 (tgt := 18) (by decide) ?_
    exact pa_iret hE hr ⟨rfl, hw⟩ rfl dX7_begin_18
def wp_X7_begin (u0 : pa_S) (post : Int32 → Prop) : Prop := wb_X7_begin_0 u0 post
theorem ct_X7_begin (l : Launch) (g : pa_G) (D : va_G) (q : Nat → Nat → Nat) (u0 : pa_S) (post : Int32 → Prop)  (hw : wp_X7_begin u0 post) : pa_Ct l yX7_begin cX7_begin 1 (some .int) 2 g D q u0 [.ref (q 24 0)] (fun r => some (.int r)) (fun r u => u = u0 ∧ post r) := pa_met rfl rfl (Nat.le_of_ble_eq_true rfl) rfl (fun p e s m args below meth c A hE hr => tb_X7_begin_0 hE hr  hw)
def wb_X7_behind_0 (u0 : pa_S) (post : Int32 → Prop) : Prop :=
  (if 0 ≤ (pa_I u0 24 0 9) then (vp_in (pa_I u0 24 0 9) 6) ∧ post ((10 * (pa_I u0 24 0 9)) + (pa_A u0 31 0 (pa_I u0 24 0 9).toNatClampNeg)) else post 0)
set_option maxRecDepth 100000 in
set_option maxHeartbeats 4000000 in
theorem tb_X7_behind_0 {p : Program} {l : Launch} {e : Env} {s : State} {m : MethodId} {args : Array Value} {below : List Frame} {meth : Method} {c : Code} {A : Nat → Prop} {D : va_G} {g : pa_G} {q : Nat → Nat → Nat} {u0 : pa_S} {post : Int32 → Prop} (hE : pa_Fx p s m args meth c A D g 1 cX7_behind RX7) (hr : meth.sig.returnType = (some .int)) (hw : wb_X7_behind_0 u0 post) : pa_At p l e (pa_rm 2) s m args below meth c (MQ below (pa_Qc g D q (fun r => some (.int r)) (fun r u => u = u0 ∧ post r) A) args s 0 0 A) A D g 1 0 0 q u0 0 [(0, .ref (q 24 0))] [] := by
  refine pa_aload_n hE dX7_behind_0 rfl 0 rfl ?_
  refine pg_24_9 hE (pa_m4 130 rfl rfl) dX7_behind_1 ?_
  refine pa_if_ge hE dX7_behind_4 (tgt := 11) (by decide) (fun h1 => ?_) (fun h1 => ?_)
  · have hw := Eq.mp (if_pos h1) hw
    refine pa_bipush hE dX7_behind_11 (v := 10) (by decide) ?_
    refine pa_aload_n hE dX7_behind_13 rfl 0 rfl ?_
    refine pg_24_9 hE (pa_m4 130 rfl rfl) dX7_behind_14 ?_
    refine pa_imul hE dX7_behind_17 ?_
    refine pa_aload_n hE dX7_behind_18 rfl 0 rfl ?_
    refine pg_24_14 hE (pa_m4 135 rfl rfl) dX7_behind_19 ?_
    refine pa_aload_n hE dX7_behind_22 rfl 0 rfl ?_
    refine pg_24_9 hE (pa_m4 130 rfl rfl) dX7_behind_23 ?_
    obtain ⟨h2, hw⟩ := hw
    refine pl_31 hE h2 dX7_behind_26 ?_
    refine pa_iadd hE dX7_behind_27 ?_
    exact pa_iret hE hr ⟨rfl, hw⟩ rfl dX7_behind_28
  · have hw := Eq.mp (if_neg h1) hw
    refine pa_iconst hE dX7_behind_7 (v := 0) (by decide) ?_
    refine pa_goto hE dX7_behind_8 (tgt := 28) (by decide) ?_
    exact pa_iret hE hr ⟨rfl, hw⟩ rfl dX7_behind_28
def wp_X7_behind (u0 : pa_S) (post : Int32 → Prop) : Prop := wb_X7_behind_0 u0 post
theorem ct_X7_behind (l : Launch) (g : pa_G) (D : va_G) (q : Nat → Nat → Nat) (u0 : pa_S) (post : Int32 → Prop)  (hw : wp_X7_behind u0 post) : pa_Ct l yX7_behind cX7_behind 1 (some .int) 2 g D q u0 [.ref (q 24 0)] (fun r => some (.int r)) (fun r u => u = u0 ∧ post r) := pa_met rfl rfl (Nat.le_of_ble_eq_true rfl) rfl (fun p e s m args below meth c A hE hr => tb_X7_behind_0 hE hr  hw)
def wb_X7_lastOf_39 (k8 : Int32 → Int32 → Int32 → Prop) (u0 : pa_S) (x1 : Int32) (x4 : Int32) (y0 : Int32) (post : Int32 → Prop) : Prop :=
  ∀ v6 : Int32, v6 = x4 + 1 → k8 x1 y0 v6
set_option maxRecDepth 100000 in
set_option maxHeartbeats 4000000 in
theorem tb_X7_lastOf_39 {p : Program} {l : Launch} {e : Env} {s : State} {m : MethodId} {args : Array Value} {below : List Frame} {meth : Method} {c : Code} {A : Nat → Prop} {D : va_G} {g : pa_G} {q : Nat → Nat → Nat} {k8 : Int32 → Int32 → Int32 → Prop} {u0 : pa_S} {x1 : Int32} {x4 : Int32} {y0 : Int32} {post : Int32 → Prop} (hE : pa_Fx p s m args meth c A D g 5 cX7_lastOf RX7) (hr : meth.sig.returnType = (some .int)) (hk8 : ∀ (x1 : Int32) (x3 : Int32) (x4 : Int32), k8 x1 x3 x4 → pa_At p l e (pa_rm 3) s m args below meth c (MQ below (pa_Qc g D q (fun r => some (.int r)) (fun r u => u = u0 ∧ post r) A) args s 0 0 A) A D g 5 0 0 q u0 8 [(0, .ref (q 24 0)), (1, .int x1), (3, .int x3), (4, .int x4)] []) (hw : wb_X7_lastOf_39 k8 u0 x1 x4 y0 post) : pa_At p l e (pa_rm 3) s m args below meth c (MQ below (pa_Qc g D q (fun r => some (.int r)) (fun r u => u = u0 ∧ post r) A) args s 0 0 A) A D g 5 0 0 q u0 39 [(0, .ref (q 24 0)), (1, .int x1), (4, .int x4)] [.int y0] := by
  refine pa_istore_n hE dX7_lastOf_39 rfl (by decide) (lvr := [(0, .ref (q 24 0)), (1, .int x1), (4, .int x4)]) rfl ?_
  refine pa_iinc hE dX7_lastOf_40 (v := 1) 3 rfl (by decide) (by decide) (lvr := [(3, .int y0), (0, .ref (q 24 0)), (1, .int x1)]) rfl (fun v6 ev6 => ?_)
  have hw := hw v6 ev6
  refine pa_goto hE dX7_lastOf_43 (tgt := 8) (by decide) ?_
  exact pa_sub [2, 3, 1, 0] rfl (hk8 x1 y0 v6 hw)
def wb_X7_lastOf_8 (k8 : Int32 → Int32 → Int32 → Prop) (u0 : pa_S) (x1 : Int32) (x3 : Int32) (x4 : Int32) (post : Int32 → Prop) : Prop :=
  (wp_X7_behind u0 (fun (r2 : Int32) => (if r2 ≤ x4 then post x3 else (vp_in x4 60) ∧ (if (pa_A u0 32 0 x4.toNatClampNeg) = x1 then (vp_in x4 60) ∧ wb_X7_lastOf_39 k8 u0 x1 x4 (pa_A u0 33 0 x4.toNatClampNeg) post else wb_X7_lastOf_39 k8 u0 x1 x4 x3 post))))
set_option maxRecDepth 100000 in
set_option maxHeartbeats 4000000 in
theorem tb_X7_lastOf_8 {p : Program} {l : Launch} {e : Env} {s : State} {m : MethodId} {args : Array Value} {below : List Frame} {meth : Method} {c : Code} {A : Nat → Prop} {D : va_G} {g : pa_G} {q : Nat → Nat → Nat} {k8 : Int32 → Int32 → Int32 → Prop} {u0 : pa_S} {x1 : Int32} {x3 : Int32} {x4 : Int32} {post : Int32 → Prop} (hE : pa_Fx p s m args meth c A D g 5 cX7_lastOf RX7) (hr : meth.sig.returnType = (some .int)) (hk8 : ∀ (x1 : Int32) (x3 : Int32) (x4 : Int32), k8 x1 x3 x4 → pa_At p l e (pa_rm 3) s m args below meth c (MQ below (pa_Qc g D q (fun r => some (.int r)) (fun r u => u = u0 ∧ post r) A) args s 0 0 A) A D g 5 0 0 q u0 8 [(0, .ref (q 24 0)), (1, .int x1), (3, .int x3), (4, .int x4)] []) (hw : wb_X7_lastOf_8 k8 u0 x1 x3 x4 post) : pa_At p l e (pa_rm 3) s m args below meth c (MQ below (pa_Qc g D q (fun r => some (.int r)) (fun r u => u = u0 ∧ post r) A) args s 0 0 A) A D g 5 0 0 q u0 8 [(0, .ref (q 24 0)), (1, .int x1), (3, .int x3), (4, .int x4)] [] := by
  refine pa_iload hE dX7_lastOf_8 3 rfl ?_
  refine pa_aload_n hE dX7_lastOf_10 rfl 0 rfl ?_
  refine pa_callVri hE (ct_X7_behind l g D q u0 _ hw) cv_RX7_285 pa_in24 rfl rfl rfl (pa_hR (by omega) (by decide)) rfl (Nat.le_of_ble_eq_true rfl) dX7_lastOf_11 (fun r2 hw => ?_)
  refine pa_icmp_ge hE dX7_lastOf_14 (tgt := 46) (by decide) (fun h3 => ?_) (fun h3 => ?_)
  · have hw := Eq.mp (if_pos h3) hw
    refine pa_iload_n hE dX7_lastOf_46 rfl 2 rfl ?_
    exact pa_iret hE hr ⟨rfl, hw⟩ rfl dX7_lastOf_47
  · have hw := Eq.mp (if_neg h3) hw
    refine pa_aload_n hE dX7_lastOf_17 rfl 0 rfl ?_
    refine pg_24_15 hE (pa_m4 136 rfl rfl) dX7_lastOf_18 ?_
    refine pa_iload hE dX7_lastOf_21 3 rfl ?_
    obtain ⟨h4, hw⟩ := hw
    refine pl_32 hE h4 dX7_lastOf_23 ?_
    refine pa_iload_n hE dX7_lastOf_24 rfl 1 rfl ?_
    refine pa_icmp_ne hE dX7_lastOf_25 (tgt := 38) (by decide) (fun h5 => ?_) (fun h5 => ?_)
    · have hw := Eq.mp (if_neg h5) hw
      refine pa_iload_n hE dX7_lastOf_38 rfl 2 rfl ?_
      exact pa_sub [0, 1, 3] rfl (tb_X7_lastOf_39 hE hr hk8 hw)
    · have hw := Eq.mp (if_pos h5) hw
      refine pa_aload_n hE dX7_lastOf_28 rfl 0 rfl ?_
      refine pg_24_16 hE (pa_m4 137 rfl rfl) dX7_lastOf_29 ?_
      refine pa_iload hE dX7_lastOf_32 3 rfl ?_
      obtain ⟨h7, hw⟩ := hw
      refine pl_33 hE h7 dX7_lastOf_34 ?_
      refine pa_goto hE dX7_lastOf_35 (tgt := 39) (by decide) ?_
      exact pa_sub [0, 1, 3] rfl (tb_X7_lastOf_39 hE hr hk8 hw)
def wl_X7_lastOf_8 (post : Int32 → Prop) (u0 : pa_S) : Nat → Int32 → Int32 → Int32 → Prop
  | 0, _, _, _ => False
  | n + 1, x1, x3, x4 => wb_X7_lastOf_8 (fun x1 x3 x4 => wl_X7_lastOf_8 post u0 n x1 x3 x4) u0 x1 x3 x4 post
set_option maxRecDepth 100000 in
set_option maxHeartbeats 4000000 in
theorem tl_X7_lastOf_8 {p : Program} {l : Launch} {e : Env} {s : State} {m : MethodId} {args : Array Value} {below : List Frame} {meth : Method} {c : Code} {A : Nat → Prop} {D : va_G} {g : pa_G} {q : Nat → Nat → Nat} {u0 : pa_S} {post : Int32 → Prop} (hE : pa_Fx p s m args meth c A D g 5 cX7_lastOf RX7) (hr : meth.sig.returnType = (some .int)) : ∀ (n : Nat) (x1 : Int32) (x3 : Int32) (x4 : Int32), wl_X7_lastOf_8 post u0 n x1 x3 x4 → pa_At p l e (pa_rm 3) s m args below meth c (MQ below (pa_Qc g D q (fun r => some (.int r)) (fun r u => u = u0 ∧ post r) A) args s 0 0 A) A D g 5 0 0 q u0 8 [(0, .ref (q 24 0)), (1, .int x1), (3, .int x3), (4, .int x4)] []
  | 0, _, _, _, hw => absurd hw (by simp only [wl_X7_lastOf_8]; exact fun z => z)
  | n + 1, x1, x3, x4, hw => tb_X7_lastOf_8 hE hr (fun x1 x3 x4  hw1 => tl_X7_lastOf_8 hE hr  n x1 x3 x4  hw1) hw
def wb_X7_lastOf_0 (u0 : pa_S) (x1 : Int32) (x2 : Int32) (post : Int32 → Prop) : Prop :=
  (wp_X7_begin u0 (fun (r1 : Int32) => wl_X7_lastOf_8 post u0 5000 x1 x2 r1))
set_option maxRecDepth 100000 in
set_option maxHeartbeats 4000000 in
theorem tb_X7_lastOf_0 {p : Program} {l : Launch} {e : Env} {s : State} {m : MethodId} {args : Array Value} {below : List Frame} {meth : Method} {c : Code} {A : Nat → Prop} {D : va_G} {g : pa_G} {q : Nat → Nat → Nat} {u0 : pa_S} {x1 : Int32} {x2 : Int32} {post : Int32 → Prop} (hE : pa_Fx p s m args meth c A D g 5 cX7_lastOf RX7) (hr : meth.sig.returnType = (some .int)) (hw : wb_X7_lastOf_0 u0 x1 x2 post) : pa_At p l e (pa_rm 3) s m args below meth c (MQ below (pa_Qc g D q (fun r => some (.int r)) (fun r u => u = u0 ∧ post r) A) args s 0 0 A) A D g 5 0 0 q u0 0 [(0, .ref (q 24 0)), (1, .int x1), (2, .int x2)] [] := by
  refine pa_iload_n hE dX7_lastOf_0 rfl 2 rfl ?_
  refine pa_istore_n hE dX7_lastOf_1 rfl (by decide) (lvr := [(0, .ref (q 24 0)), (1, .int x1), (2, .int x2)]) rfl ?_
  refine pa_aload_n hE dX7_lastOf_2 rfl 1 rfl ?_
  refine pa_callVri hE (ct_X7_begin l g D q u0 _ hw) cv_RX7_282 pa_in24 rfl rfl rfl (pa_hR (by omega) (by decide)) rfl (Nat.le_of_ble_eq_true rfl) dX7_lastOf_3 (fun r1 hw => ?_)
  refine pa_istore hE dX7_lastOf_6 (by decide) (lvr := [(3, .int x2), (0, .ref (q 24 0)), (1, .int x1), (2, .int x2)]) rfl ?_
  exact pa_sub [2, 3, 1, 0] rfl (tl_X7_lastOf_8 hE hr 5000 x1 x2 r1 hw)
def wp_X7_lastOf (u0 : pa_S) (x1 : Int32) (x2 : Int32) (post : Int32 → Prop) : Prop := wb_X7_lastOf_0 u0 x1 x2 post
theorem ct_X7_lastOf (l : Launch) (g : pa_G) (D : va_G) (q : Nat → Nat → Nat) (u0 : pa_S) (x1 : Int32) (x2 : Int32) (post : Int32 → Prop)  (hw : wp_X7_lastOf u0 x1 x2 post) : pa_Ct l yX7_lastOf cX7_lastOf 5 (some .int) 3 g D q u0 [.ref (q 24 0), .int x1, .int x2] (fun r => some (.int r)) (fun r u => u = u0 ∧ post r) := pa_met rfl rfl (Nat.le_of_ble_eq_true rfl) rfl (fun p e s m args below meth c A hE hr => tb_X7_lastOf_0 hE hr  hw)
def wb_X7_room_0 (u0 : pa_S) (post : Int32 → Prop) : Prop :=
  (wp_X7_lastOf u0 2 20 (fun (r1 : Int32) => (wp_X7_least u0 r1 60 (fun (r2 : Int32) => post r2))))
set_option maxRecDepth 100000 in
set_option maxHeartbeats 4000000 in
theorem tb_X7_room_0 {p : Program} {l : Launch} {e : Env} {s : State} {m : MethodId} {args : Array Value} {below : List Frame} {meth : Method} {c : Code} {A : Nat → Prop} {D : va_G} {g : pa_G} {q : Nat → Nat → Nat} {u0 : pa_S} {post : Int32 → Prop} (hE : pa_Fx p s m args meth c A D g 1 cX7_room RX7) (hr : meth.sig.returnType = (some .int)) (hw : wb_X7_room_0 u0 post) : pa_At p l e (pa_rm 4) s m args below meth c (MQ below (pa_Qc g D q (fun r => some (.int r)) (fun r u => u = u0 ∧ post r) A) args s 0 0 A) A D g 1 0 0 q u0 0 [(0, .ref (q 24 0))] [] := by
  refine pa_aload_n hE dX7_room_0 rfl 0 rfl ?_
  refine pa_aload_n hE dX7_room_1 rfl 0 rfl ?_
  refine pa_iconst hE dX7_room_2 (v := 2) (by decide) ?_
  refine pa_bipush hE dX7_room_3 (v := 20) (by decide) ?_
  refine pa_callVri hE (ct_X7_lastOf l g D q u0 2 20 _ hw) cv_RX7_288 pa_in24 rfl rfl rfl (pa_hR (by omega) (by decide)) rfl (Nat.le_of_ble_eq_true rfl) dX7_room_5 (fun r1 hw => ?_)
  refine pa_bipush hE dX7_room_8 (v := 60) (by decide) ?_
  refine pa_callVri hE (ct_X7_least l g D q u0 r1 60 _ hw) cv_RX7_292 pa_in24 rfl rfl rfl (pa_hR (by omega) (by decide)) rfl (Nat.le_of_ble_eq_true rfl) dX7_room_10 (fun r2 hw => ?_)
  exact pa_iret hE hr ⟨rfl, hw⟩ rfl dX7_room_13
def wp_X7_room (u0 : pa_S) (post : Int32 → Prop) : Prop := wb_X7_room_0 u0 post
theorem ct_X7_room (l : Launch) (g : pa_G) (D : va_G) (q : Nat → Nat → Nat) (u0 : pa_S) (post : Int32 → Prop)  (hw : wp_X7_room u0 post) : pa_Ct l yX7_room cX7_room 1 (some .int) 4 g D q u0 [.ref (q 24 0)] (fun r => some (.int r)) (fun r u => u = u0 ∧ post r) := pa_met rfl rfl (Nat.le_of_ble_eq_true rfl) rfl (fun p e s m args below meth c A hE hr => tb_X7_room_0 hE hr  hw)
def wb_X7_press_0 (u0 : pa_S) (post : Int32 → Prop) : Prop :=
  (wp_X7_lastOf u0 3 4 (fun (r1 : Int32) => (if 1 ≤ r1 then post r1 else post 1)))
set_option maxRecDepth 100000 in
set_option maxHeartbeats 4000000 in
theorem tb_X7_press_0 {p : Program} {l : Launch} {e : Env} {s : State} {m : MethodId} {args : Array Value} {below : List Frame} {meth : Method} {c : Code} {A : Nat → Prop} {D : va_G} {g : pa_G} {q : Nat → Nat → Nat} {u0 : pa_S} {post : Int32 → Prop} (hE : pa_Fx p s m args meth c A D g 2 cX7_press RX7) (hr : meth.sig.returnType = (some .int)) (hw : wb_X7_press_0 u0 post) : pa_At p l e (pa_rm 4) s m args below meth c (MQ below (pa_Qc g D q (fun r => some (.int r)) (fun r u => u = u0 ∧ post r) A) args s 0 0 A) A D g 2 0 0 q u0 0 [(0, .ref (q 24 0))] [] := by
  refine pa_aload_n hE dX7_press_0 rfl 0 rfl ?_
  refine pa_iconst hE dX7_press_1 (v := 3) (by decide) ?_
  refine pa_iconst hE dX7_press_2 (v := 4) (by decide) ?_
  refine pa_callVri hE (ct_X7_lastOf l g D q u0 3 4 _ hw) cv_RX7_288 pa_in24 rfl rfl rfl (pa_hR (by omega) (by decide)) rfl (Nat.le_of_ble_eq_true rfl) dX7_press_3 (fun r1 hw => ?_)
  refine pa_istore_n hE dX7_press_6 rfl (by decide) (lvr := [(0, .ref (q 24 0))]) rfl ?_
  refine pa_iload_n hE dX7_press_7 rfl 0 rfl ?_
  refine pa_iconst hE dX7_press_8 (v := 1) (by decide) ?_
  refine pa_icmp_ge hE dX7_press_9 (tgt := 16) (by decide) (fun h2 => ?_) (fun h2 => ?_)
  · have hw := Eq.mp (if_pos h2) hw
    refine pa_iload_n hE dX7_press_16 rfl 0 rfl ?_
    exact pa_iret hE hr ⟨rfl, hw⟩ rfl dX7_press_17
  · have hw := Eq.mp (if_neg h2) hw
    refine pa_iconst hE dX7_press_12 (v := 1) (by decide) ?_
    refine pa_goto hE dX7_press_13 (tgt := 17) (by decide) ?_
    exact pa_iret hE hr ⟨rfl, hw⟩ rfl dX7_press_17
def wp_X7_press (u0 : pa_S) (post : Int32 → Prop) : Prop := wb_X7_press_0 u0 post
theorem ct_X7_press (l : Launch) (g : pa_G) (D : va_G) (q : Nat → Nat → Nat) (u0 : pa_S) (post : Int32 → Prop)  (hw : wp_X7_press u0 post) : pa_Ct l yX7_press cX7_press 2 (some .int) 4 g D q u0 [.ref (q 24 0)] (fun r => some (.int r)) (fun r u => u = u0 ∧ post r) := pa_met rfl rfl (Nat.le_of_ble_eq_true rfl) rfl (fun p e s m args below meth c A hE hr => tb_X7_press_0 hE hr  hw)
def wb_X7_factOf_0 (u0 : pa_S) (x1 : Int32) (x2 : Int32) (x3 : Int32) (post : Int32 → Prop) : Prop :=
  (if x1 = 0 then post x2 else (if x1 = 1 then post x3 else (if x1 = 2 then (vp_in x2 5) ∧ post (pa_A u0 25 0 x2.toNatClampNeg) else (if x1 = 3 then (vp_in x2 5) ∧ post (pa_A u0 26 0 x2.toNatClampNeg) else (if x1 = 4 then (vp_in ((3 * x2) + x3) 15) ∧ post (pa_A u0 28 0 ((3 * x2) + x3).toNatClampNeg) else post (pa_rem (pa_I u0 24 0 1) 10))))))
set_option maxRecDepth 100000 in
set_option maxHeartbeats 4000000 in
theorem tb_X7_factOf_0 {p : Program} {l : Launch} {e : Env} {s : State} {m : MethodId} {args : Array Value} {below : List Frame} {meth : Method} {c : Code} {A : Nat → Prop} {D : va_G} {g : pa_G} {q : Nat → Nat → Nat} {u0 : pa_S} {x1 : Int32} {x2 : Int32} {x3 : Int32} {post : Int32 → Prop} (hE : pa_Fx p s m args meth c A D g 4 cX7_factOf RX7) (hr : meth.sig.returnType = (some .int)) (hw : wb_X7_factOf_0 u0 x1 x2 x3 post) : pa_At p l e (pa_rm 2) s m args below meth c (MQ below (pa_Qc g D q (fun r => some (.int r)) (fun r u => u = u0 ∧ post r) A) args s 0 0 A) A D g 4 0 0 q u0 0 [(0, .ref (q 24 0)), (1, .int x1), (2, .int x2), (3, .int x3)] [] := by
  refine pa_iload_n hE dX7_factOf_0 rfl 1 rfl ?_
  by_cases h1 : x1 = 0
  · have hw := Eq.mp (if_pos h1) hw
    refine pa_tswIn hE dX7_factOf_1 (z := 0) h1 (by decide) (by decide) rfl (tgt := 36) (by decide) ?_
    refine pa_iload_n hE dX7_factOf_36 rfl 2 rfl ?_
    exact pa_iret hE hr ⟨rfl, hw⟩ rfl dX7_factOf_37
  · have hw := Eq.mp (if_neg h1) hw
    by_cases h2 : x1 = 1
    · have hw := Eq.mp (if_pos h2) hw
      refine pa_tswIn hE dX7_factOf_1 (z := 1) h2 (by decide) (by decide) rfl (tgt := 38) (by decide) ?_
      refine pa_iload_n hE dX7_factOf_38 rfl 3 rfl ?_
      exact pa_iret hE hr ⟨rfl, hw⟩ rfl dX7_factOf_39
    · have hw := Eq.mp (if_neg h2) hw
      by_cases h3 : x1 = 2
      · have hw := Eq.mp (if_pos h3) hw
        refine pa_tswIn hE dX7_factOf_1 (z := 2) h3 (by decide) (by decide) rfl (tgt := 40) (by decide) ?_
        refine pa_aload_n hE dX7_factOf_40 rfl 0 rfl ?_
        refine pg_24_3 hE (pa_m4 124 rfl rfl) dX7_factOf_41 ?_
        refine pa_iload_n hE dX7_factOf_44 rfl 2 rfl ?_
        obtain ⟨h6, hw⟩ := hw
        refine pl_25 hE h6 dX7_factOf_45 ?_
        exact pa_iret hE hr ⟨rfl, hw⟩ rfl dX7_factOf_46
      · have hw := Eq.mp (if_neg h3) hw
        by_cases h4 : x1 = 3
        · have hw := Eq.mp (if_pos h4) hw
          refine pa_tswIn hE dX7_factOf_1 (z := 3) h4 (by decide) (by decide) rfl (tgt := 47) (by decide) ?_
          refine pa_aload_n hE dX7_factOf_47 rfl 0 rfl ?_
          refine pg_24_4 hE (pa_m4 125 rfl rfl) dX7_factOf_48 ?_
          refine pa_iload_n hE dX7_factOf_51 rfl 2 rfl ?_
          obtain ⟨h7, hw⟩ := hw
          refine pl_26 hE h7 dX7_factOf_52 ?_
          exact pa_iret hE hr ⟨rfl, hw⟩ rfl dX7_factOf_53
        · have hw := Eq.mp (if_neg h4) hw
          by_cases h5 : x1 = 4
          · have hw := Eq.mp (if_pos h5) hw
            refine pa_tswIn hE dX7_factOf_1 (z := 4) h5 (by decide) (by decide) rfl (tgt := 54) (by decide) ?_
            refine pa_aload_n hE dX7_factOf_54 rfl 0 rfl ?_
            refine pg_24_6 hE (pa_m4 127 rfl rfl) dX7_factOf_55 ?_
            refine pa_iconst hE dX7_factOf_58 (v := 3) (by decide) ?_
            refine pa_iload_n hE dX7_factOf_59 rfl 2 rfl ?_
            refine pa_imul hE dX7_factOf_60 ?_
            refine pa_iload_n hE dX7_factOf_61 rfl 3 rfl ?_
            refine pa_iadd hE dX7_factOf_62 ?_
            obtain ⟨h8, hw⟩ := hw
            refine pl_28 hE h8 dX7_factOf_63 ?_
            exact pa_iret hE hr ⟨rfl, hw⟩ rfl dX7_factOf_64
          · have hw := Eq.mp (if_neg h5) hw
            refine pa_tswOut hE dX7_factOf_1 (by have eh1 := pa_neL h1 (by decide : (0 : Int32).toInt = 0); have eh2 := pa_neL h2 (by decide : (1 : Int32).toInt = 1); have eh3 := pa_neL h3 (by decide : (2 : Int32).toInt = 2); have eh4 := pa_neL h4 (by decide : (3 : Int32).toInt = 3); have eh5 := pa_neL h5 (by decide : (4 : Int32).toInt = 4); omega) (tgt := 65) (by decide) ?_
            refine pa_aload_n hE dX7_factOf_65 rfl 0 rfl ?_
            refine pg_24_1 hE (pa_m4 122 rfl rfl) dX7_factOf_66 ?_
            refine pa_bipush hE dX7_factOf_69 (v := 10) (by decide) ?_
            refine pa_irem hE dX7_factOf_71 (by decide) ?_
            exact pa_iret hE hr ⟨rfl, hw⟩ rfl dX7_factOf_72
def wp_X7_factOf (u0 : pa_S) (x1 : Int32) (x2 : Int32) (x3 : Int32) (post : Int32 → Prop) : Prop := wb_X7_factOf_0 u0 x1 x2 x3 post
theorem ct_X7_factOf (l : Launch) (g : pa_G) (D : va_G) (q : Nat → Nat → Nat) (u0 : pa_S) (x1 : Int32) (x2 : Int32) (x3 : Int32) (post : Int32 → Prop)  (hw : wp_X7_factOf u0 x1 x2 x3 post) : pa_Ct l yX7_factOf cX7_factOf 4 (some .int) 2 g D q u0 [.ref (q 24 0), .int x1, .int x2, .int x3] (fun r => some (.int r)) (fun r u => u = u0 ∧ post r) := pa_met rfl rfl (Nat.le_of_ble_eq_true rfl) rfl (fun p e s m args below meth c A hE hr => tb_X7_factOf_0 hE hr  hw)
def wb_X7_holds_247 (k11 : pa_S → Int32 → Int32 → Int32 → Int32 → Int32 → Prop) (u0 : pa_S) (x1 : Int32) (x2 : Int32) (x3 : Int32) (x4 : Int32) (x5 : Int32) (post : Int32 → pa_S → Prop) : Prop :=
  ∀ v18 : Int32, v18 = x5 + 1 → k11 u0 x1 x2 x3 x4 v18
set_option maxRecDepth 100000 in
set_option maxHeartbeats 4000000 in
theorem tb_X7_holds_247 {p : Program} {l : Launch} {e : Env} {s : State} {m : MethodId} {args : Array Value} {below : List Frame} {meth : Method} {c : Code} {A : Nat → Prop} {D : va_G} {g : pa_G} {q : Nat → Nat → Nat} {k11 : pa_S → Int32 → Int32 → Int32 → Int32 → Int32 → Prop} {u0 : pa_S} {x1 : Int32} {x2 : Int32} {x3 : Int32} {x4 : Int32} {x5 : Int32} {post : Int32 → pa_S → Prop} (hE : pa_Fx p s m args meth c A D g 9 cX7_holds RX7) (hr : meth.sig.returnType = (some .boolean)) (hk11 : ∀ (u : pa_S)  (x1 : Int32) (x2 : Int32) (x3 : Int32) (x4 : Int32) (x5 : Int32), k11 u x1 x2 x3 x4 x5 → pa_At p l e (pa_rm 3) s m args below meth c (MQ below (pa_Qc g D q (fun r => some (.int r)) post A) args s 0 0 A) A D g 9 0 0 q u 11 [(0, .ref (q 24 0)), (1, .int x1), (2, .int x2), (3, .int x3), (4, .int x4), (5, .int x5)] []) (hw : wb_X7_holds_247 k11 u0 x1 x2 x3 x4 x5 post) : pa_At p l e (pa_rm 3) s m args below meth c (MQ below (pa_Qc g D q (fun r => some (.int r)) post A) args s 0 0 A) A D g 9 0 0 q u0 247 [(0, .ref (q 24 0)), (1, .int x1), (2, .int x2), (3, .int x3), (4, .int x4), (5, .int x5)] [] := by
  refine pa_iinc hE dX7_holds_247 (v := 1) 5 rfl (by decide) (by decide) (lvr := [(0, .ref (q 24 0)), (1, .int x1), (2, .int x2), (3, .int x3), (4, .int x4)]) rfl (fun v18 ev18 => ?_)
  have hw := hw v18 ev18
  refine pa_goto hE dX7_holds_250 (tgt := 11) (by decide) ?_
  exact pa_sub [1, 2, 3, 4, 5, 0] rfl (hk11 u0 x1 x2 x3 x4 v18 hw)
def wb_X7_holds_243 (k11 : pa_S → Int32 → Int32 → Int32 → Int32 → Int32 → Prop) (u0 : pa_S) (x1 : Int32) (x2 : Int32) (x3 : Int32) (x4 : Int32) (x5 : Int32) (y1 : Int32) (y2 : Int32) (post : Int32 → pa_S → Prop) : Prop :=
  (vp_in y1 100) ∧ ∀ u16 : pa_S, u16 = pa_sA u0 39 0 (upd (pa_A u0 39 0) y1.toNatClampNeg (vp_nar .boolean y2)) → ∀ v17 : Int32, v17 = x4 + 1 → wb_X7_holds_247 k11 u16 x1 x2 x3 v17 x5 post
set_option maxRecDepth 100000 in
set_option maxHeartbeats 4000000 in
theorem tb_X7_holds_243 {p : Program} {l : Launch} {e : Env} {s : State} {m : MethodId} {args : Array Value} {below : List Frame} {meth : Method} {c : Code} {A : Nat → Prop} {D : va_G} {g : pa_G} {q : Nat → Nat → Nat} {k11 : pa_S → Int32 → Int32 → Int32 → Int32 → Int32 → Prop} {u0 : pa_S} {x1 : Int32} {x2 : Int32} {x3 : Int32} {x4 : Int32} {x5 : Int32} {y1 : Int32} {y2 : Int32} {post : Int32 → pa_S → Prop} (hE : pa_Fx p s m args meth c A D g 9 cX7_holds RX7) (hr : meth.sig.returnType = (some .boolean)) (hk11 : ∀ (u : pa_S)  (x1 : Int32) (x2 : Int32) (x3 : Int32) (x4 : Int32) (x5 : Int32), k11 u x1 x2 x3 x4 x5 → pa_At p l e (pa_rm 3) s m args below meth c (MQ below (pa_Qc g D q (fun r => some (.int r)) post A) args s 0 0 A) A D g 9 0 0 q u 11 [(0, .ref (q 24 0)), (1, .int x1), (2, .int x2), (3, .int x3), (4, .int x4), (5, .int x5)] []) (hw : wb_X7_holds_243 k11 u0 x1 x2 x3 x4 x5 y1 y2 post) : pa_At p l e (pa_rm 3) s m args below meth c (MQ below (pa_Qc g D q (fun r => some (.int r)) post A) args s 0 0 A) A D g 9 0 0 q u0 243 [(0, .ref (q 24 0)), (1, .int x1), (2, .int x2), (3, .int x3), (4, .int x4), (5, .int x5)] [.int y2, .int y1, .ref (q 39 0)] := by
  obtain ⟨h15, hw⟩ := hw
  refine ps_39 hE h15 dX7_holds_243 (fun u16 eu16 => ?_)
  have hw := hw u16 eu16
  refine pa_iinc hE dX7_holds_244 (v := 1) 4 rfl (by decide) (by decide) (lvr := [(0, .ref (q 24 0)), (1, .int x1), (2, .int x2), (3, .int x3), (5, .int x5)]) rfl (fun v17 ev17 => ?_)
  have hw := hw v17 ev17
  exact pa_sub [1, 2, 3, 4, 0, 5] rfl (tb_X7_holds_247 hE hr hk11 hw)
def wb_X7_holds_147 (k11 : pa_S → Int32 → Int32 → Int32 → Int32 → Int32 → Prop) (u0 : pa_S) (x1 : Int32) (x2 : Int32) (x3 : Int32) (x4 : Int32) (x5 : Int32) (y1 : Int32) (y2 : Int32) (post : Int32 → pa_S → Prop) : Prop :=
  (vp_in y1 100) ∧ ∀ u26 : pa_S, u26 = pa_sA u0 39 0 (upd (pa_A u0 39 0) y1.toNatClampNeg (vp_nar .boolean y2)) → wb_X7_holds_247 k11 u26 x1 x2 x3 x4 x5 post
set_option maxRecDepth 100000 in
set_option maxHeartbeats 4000000 in
theorem tb_X7_holds_147 {p : Program} {l : Launch} {e : Env} {s : State} {m : MethodId} {args : Array Value} {below : List Frame} {meth : Method} {c : Code} {A : Nat → Prop} {D : va_G} {g : pa_G} {q : Nat → Nat → Nat} {k11 : pa_S → Int32 → Int32 → Int32 → Int32 → Int32 → Prop} {u0 : pa_S} {x1 : Int32} {x2 : Int32} {x3 : Int32} {x4 : Int32} {x5 : Int32} {y1 : Int32} {y2 : Int32} {post : Int32 → pa_S → Prop} (hE : pa_Fx p s m args meth c A D g 9 cX7_holds RX7) (hr : meth.sig.returnType = (some .boolean)) (hk11 : ∀ (u : pa_S)  (x1 : Int32) (x2 : Int32) (x3 : Int32) (x4 : Int32) (x5 : Int32), k11 u x1 x2 x3 x4 x5 → pa_At p l e (pa_rm 3) s m args below meth c (MQ below (pa_Qc g D q (fun r => some (.int r)) post A) args s 0 0 A) A D g 9 0 0 q u 11 [(0, .ref (q 24 0)), (1, .int x1), (2, .int x2), (3, .int x3), (4, .int x4), (5, .int x5)] []) (hw : wb_X7_holds_147 k11 u0 x1 x2 x3 x4 x5 y1 y2 post) : pa_At p l e (pa_rm 3) s m args below meth c (MQ below (pa_Qc g D q (fun r => some (.int r)) post A) args s 0 0 A) A D g 9 0 0 q u0 147 [(0, .ref (q 24 0)), (1, .int x1), (2, .int x2), (3, .int x3), (4, .int x4), (5, .int x5)] [.int y2, .int y1, .ref (q 39 0)] := by
  obtain ⟨h25, hw⟩ := hw
  refine ps_39 hE h25 dX7_holds_147 (fun u26 eu26 => ?_)
  have hw := hw u26 eu26
  refine pa_goto hE dX7_holds_148 (tgt := 247) (by decide) ?_
  exact pa_sub [0, 1, 2, 3, 4, 5] rfl (tb_X7_holds_247 hE hr hk11 hw)
def wb_X7_holds_142 (k11 : pa_S → Int32 → Int32 → Int32 → Int32 → Int32 → Prop) (u0 : pa_S) (x1 : Int32) (x2 : Int32) (x3 : Int32) (x4 : Int32) (x5 : Int32) (y1 : Int32) (post : Int32 → pa_S → Prop) : Prop :=
  wb_X7_holds_147 k11 u0 x1 x2 x3 x4 x5 y1 1 post
set_option maxRecDepth 100000 in
set_option maxHeartbeats 4000000 in
theorem tb_X7_holds_142 {p : Program} {l : Launch} {e : Env} {s : State} {m : MethodId} {args : Array Value} {below : List Frame} {meth : Method} {c : Code} {A : Nat → Prop} {D : va_G} {g : pa_G} {q : Nat → Nat → Nat} {k11 : pa_S → Int32 → Int32 → Int32 → Int32 → Int32 → Prop} {u0 : pa_S} {x1 : Int32} {x2 : Int32} {x3 : Int32} {x4 : Int32} {x5 : Int32} {y1 : Int32} {post : Int32 → pa_S → Prop} (hE : pa_Fx p s m args meth c A D g 9 cX7_holds RX7) (hr : meth.sig.returnType = (some .boolean)) (hk11 : ∀ (u : pa_S)  (x1 : Int32) (x2 : Int32) (x3 : Int32) (x4 : Int32) (x5 : Int32), k11 u x1 x2 x3 x4 x5 → pa_At p l e (pa_rm 3) s m args below meth c (MQ below (pa_Qc g D q (fun r => some (.int r)) post A) args s 0 0 A) A D g 9 0 0 q u 11 [(0, .ref (q 24 0)), (1, .int x1), (2, .int x2), (3, .int x3), (4, .int x4), (5, .int x5)] []) (hw : wb_X7_holds_142 k11 u0 x1 x2 x3 x4 x5 y1 post) : pa_At p l e (pa_rm 3) s m args below meth c (MQ below (pa_Qc g D q (fun r => some (.int r)) post A) args s 0 0 A) A D g 9 0 0 q u0 142 [(0, .ref (q 24 0)), (1, .int x1), (2, .int x2), (3, .int x3), (4, .int x4), (5, .int x5)] [.int y1, .ref (q 39 0)] := by
  refine pa_iconst hE dX7_holds_142 (v := 1) (by decide) ?_
  refine pa_goto hE dX7_holds_143 (tgt := 147) (by decide) ?_
  exact pa_sub [0, 1, 2, 3, 4, 5] rfl (tb_X7_holds_147 hE hr hk11 hw)
def wb_X7_holds_116 (k11 : pa_S → Int32 → Int32 → Int32 → Int32 → Int32 → Prop) (u0 : pa_S) (x1 : Int32) (x2 : Int32) (x3 : Int32) (x4 : Int32) (x5 : Int32) (y1 : Int32) (post : Int32 → pa_S → Prop) : Prop :=
  wb_X7_holds_147 k11 u0 x1 x2 x3 x4 x5 y1 0 post
set_option maxRecDepth 100000 in
set_option maxHeartbeats 4000000 in
theorem tb_X7_holds_116 {p : Program} {l : Launch} {e : Env} {s : State} {m : MethodId} {args : Array Value} {below : List Frame} {meth : Method} {c : Code} {A : Nat → Prop} {D : va_G} {g : pa_G} {q : Nat → Nat → Nat} {k11 : pa_S → Int32 → Int32 → Int32 → Int32 → Int32 → Prop} {u0 : pa_S} {x1 : Int32} {x2 : Int32} {x3 : Int32} {x4 : Int32} {x5 : Int32} {y1 : Int32} {post : Int32 → pa_S → Prop} (hE : pa_Fx p s m args meth c A D g 9 cX7_holds RX7) (hr : meth.sig.returnType = (some .boolean)) (hk11 : ∀ (u : pa_S)  (x1 : Int32) (x2 : Int32) (x3 : Int32) (x4 : Int32) (x5 : Int32), k11 u x1 x2 x3 x4 x5 → pa_At p l e (pa_rm 3) s m args below meth c (MQ below (pa_Qc g D q (fun r => some (.int r)) post A) args s 0 0 A) A D g 9 0 0 q u 11 [(0, .ref (q 24 0)), (1, .int x1), (2, .int x2), (3, .int x3), (4, .int x4), (5, .int x5)] []) (hw : wb_X7_holds_116 k11 u0 x1 x2 x3 x4 x5 y1 post) : pa_At p l e (pa_rm 3) s m args below meth c (MQ below (pa_Qc g D q (fun r => some (.int r)) post A) args s 0 0 A) A D g 9 0 0 q u0 116 [(0, .ref (q 24 0)), (1, .int x1), (2, .int x2), (3, .int x3), (4, .int x4), (5, .int x5)] [.int y1, .ref (q 39 0)] := by
  refine pa_iconst hE dX7_holds_116 (v := 0) (by decide) ?_
  refine pa_goto hE dX7_holds_117 (tgt := 147) (by decide) ?_
  exact pa_sub [0, 1, 2, 3, 4, 5] rfl (tb_X7_holds_147 hE hr hk11 hw)
def wb_X7_holds_63 (k11 : pa_S → Int32 → Int32 → Int32 → Int32 → Int32 → Prop) (u0 : pa_S) (x1 : Int32) (x2 : Int32) (x3 : Int32) (x4 : Int32) (x5 : Int32) (y1 : Int32) (y2 : Int32) (post : Int32 → pa_S → Prop) : Prop :=
  (vp_in y1 100) ∧ ∀ u36 : pa_S, u36 = pa_sA u0 39 0 (upd (pa_A u0 39 0) y1.toNatClampNeg (vp_nar .boolean y2)) → wb_X7_holds_247 k11 u36 x1 x2 x3 x4 x5 post
set_option maxRecDepth 100000 in
set_option maxHeartbeats 4000000 in
theorem tb_X7_holds_63 {p : Program} {l : Launch} {e : Env} {s : State} {m : MethodId} {args : Array Value} {below : List Frame} {meth : Method} {c : Code} {A : Nat → Prop} {D : va_G} {g : pa_G} {q : Nat → Nat → Nat} {k11 : pa_S → Int32 → Int32 → Int32 → Int32 → Int32 → Prop} {u0 : pa_S} {x1 : Int32} {x2 : Int32} {x3 : Int32} {x4 : Int32} {x5 : Int32} {y1 : Int32} {y2 : Int32} {post : Int32 → pa_S → Prop} (hE : pa_Fx p s m args meth c A D g 9 cX7_holds RX7) (hr : meth.sig.returnType = (some .boolean)) (hk11 : ∀ (u : pa_S)  (x1 : Int32) (x2 : Int32) (x3 : Int32) (x4 : Int32) (x5 : Int32), k11 u x1 x2 x3 x4 x5 → pa_At p l e (pa_rm 3) s m args below meth c (MQ below (pa_Qc g D q (fun r => some (.int r)) post A) args s 0 0 A) A D g 9 0 0 q u 11 [(0, .ref (q 24 0)), (1, .int x1), (2, .int x2), (3, .int x3), (4, .int x4), (5, .int x5)] []) (hw : wb_X7_holds_63 k11 u0 x1 x2 x3 x4 x5 y1 y2 post) : pa_At p l e (pa_rm 3) s m args below meth c (MQ below (pa_Qc g D q (fun r => some (.int r)) post A) args s 0 0 A) A D g 9 0 0 q u0 63 [(0, .ref (q 24 0)), (1, .int x1), (2, .int x2), (3, .int x3), (4, .int x4), (5, .int x5)] [.int y2, .int y1, .ref (q 39 0)] := by
  obtain ⟨h35, hw⟩ := hw
  refine ps_39 hE h35 dX7_holds_63 (fun u36 eu36 => ?_)
  have hw := hw u36 eu36
  refine pa_goto hE dX7_holds_64 (tgt := 247) (by decide) ?_
  exact pa_sub [0, 1, 2, 3, 4, 5] rfl (tb_X7_holds_247 hE hr hk11 hw)
def wb_X7_holds_11 (k11 : pa_S → Int32 → Int32 → Int32 → Int32 → Int32 → Prop) (u0 : pa_S) (x1 : Int32) (x2 : Int32) (x3 : Int32) (x4 : Int32) (x5 : Int32) (post : Int32 → pa_S → Prop) : Prop :=
  (vp_in x1 60) ∧ (if (pa_A u0 35 0 x1.toNatClampNeg) ≤ x5 then ((pa_A u0 39 0 0) &&& 1 = (pa_A u0 39 0 0)) ∧ post (pa_A u0 39 0 0) u0 else (vp_in x5 600) ∧ ∀ v7 : Int32, v7 = (pa_A u0 36 0 x5.toNatClampNeg) → (if v7 = (-33 : Int32) then (vp_in (x4 - 1) 100) ∧ (if (pa_A u0 39 0 (x4 - 1).toNatClampNeg) = 0 then wb_X7_holds_63 k11 u0 x1 x2 x3 x4 x5 (x4 - 1) 1 post else wb_X7_holds_63 k11 u0 x1 x2 x3 x4 x5 (x4 - 1) 0 post) else (if 0 ≤ v7 then (wp_X7_factOf u0 (v7 / 1000) x2 x3 (fun (r10 : Int32) => ∀ v11 : Int32, v11 = (pa_rem (v7 / 100) 10) → (if v11 = 0 then (if (pa_rem v7 100) ≤ r10 then wb_X7_holds_243 k11 u0 x1 x2 x3 x4 x5 x4 0 post else wb_X7_holds_243 k11 u0 x1 x2 x3 x4 x5 x4 1 post) else (if v11 = 1 then (if r10 = (pa_rem v7 100) then wb_X7_holds_243 k11 u0 x1 x2 x3 x4 x5 x4 1 post else wb_X7_holds_243 k11 u0 x1 x2 x3 x4 x5 x4 0 post) else (if r10 ≤ (pa_rem v7 100) then wb_X7_holds_243 k11 u0 x1 x2 x3 x4 x5 x4 0 post else wb_X7_holds_243 k11 u0 x1 x2 x3 x4 x5 x4 1 post))))) else ∀ v21 : Int32, v21 = x4 + (-1 : Int32) → (if v7 = (-38 : Int32) then (vp_in (v21 - 1) 100) ∧ (if (pa_A u0 39 0 (v21 - 1).toNatClampNeg) = 0 then wb_X7_holds_116 k11 u0 x1 x2 x3 v21 x5 (v21 - 1) post else (vp_in v21 100) ∧ (if (pa_A u0 39 0 v21.toNatClampNeg) = 0 then wb_X7_holds_116 k11 u0 x1 x2 x3 v21 x5 (v21 - 1) post else wb_X7_holds_147 k11 u0 x1 x2 x3 v21 x5 (v21 - 1) 1 post)) else (vp_in (v21 - 1) 100) ∧ (if (pa_A u0 39 0 (v21 - 1).toNatClampNeg) = 0 then (vp_in v21 100) ∧ (if (pa_A u0 39 0 v21.toNatClampNeg) = 0 then wb_X7_holds_147 k11 u0 x1 x2 x3 v21 x5 (v21 - 1) 0 post else wb_X7_holds_142 k11 u0 x1 x2 x3 v21 x5 (v21 - 1) post) else wb_X7_holds_142 k11 u0 x1 x2 x3 v21 x5 (v21 - 1) post)))))
set_option maxRecDepth 100000 in
set_option maxHeartbeats 4000000 in
theorem tb_X7_holds_11 {p : Program} {l : Launch} {e : Env} {s : State} {m : MethodId} {args : Array Value} {below : List Frame} {meth : Method} {c : Code} {A : Nat → Prop} {D : va_G} {g : pa_G} {q : Nat → Nat → Nat} {k11 : pa_S → Int32 → Int32 → Int32 → Int32 → Int32 → Prop} {u0 : pa_S} {x1 : Int32} {x2 : Int32} {x3 : Int32} {x4 : Int32} {x5 : Int32} {post : Int32 → pa_S → Prop} (hE : pa_Fx p s m args meth c A D g 9 cX7_holds RX7) (hr : meth.sig.returnType = (some .boolean)) (hk11 : ∀ (u : pa_S)  (x1 : Int32) (x2 : Int32) (x3 : Int32) (x4 : Int32) (x5 : Int32), k11 u x1 x2 x3 x4 x5 → pa_At p l e (pa_rm 3) s m args below meth c (MQ below (pa_Qc g D q (fun r => some (.int r)) post A) args s 0 0 A) A D g 9 0 0 q u 11 [(0, .ref (q 24 0)), (1, .int x1), (2, .int x2), (3, .int x3), (4, .int x4), (5, .int x5)] []) (hw : wb_X7_holds_11 k11 u0 x1 x2 x3 x4 x5 post) : pa_At p l e (pa_rm 3) s m args below meth c (MQ below (pa_Qc g D q (fun r => some (.int r)) post A) args s 0 0 A) A D g 9 0 0 q u0 11 [(0, .ref (q 24 0)), (1, .int x1), (2, .int x2), (3, .int x3), (4, .int x4), (5, .int x5)] [] := by
  refine pa_iload hE dX7_holds_11 5 rfl ?_
  refine pa_aload_n hE dX7_holds_13 rfl 0 rfl ?_
  refine pg_24_18 hE (pa_m4 139 rfl rfl) dX7_holds_14 ?_
  refine pa_iload_n hE dX7_holds_17 rfl 1 rfl ?_
  obtain ⟨h3, hw⟩ := hw
  refine pl_35 hE h3 dX7_holds_18 ?_
  refine pa_icmp_ge hE dX7_holds_19 (tgt := 253) (by decide) (fun h4 => ?_) (fun h4 => ?_)
  · have hw := Eq.mp (if_pos h4) hw
    refine pa_aload_n hE dX7_holds_253 rfl 0 rfl ?_
    refine pg_24_25 hE (pa_m4 146 rfl rfl) dX7_holds_254 ?_
    refine pa_iconst hE dX7_holds_257 (v := 0) (by decide) ?_
    refine pl_39 hE (by unfold vp_in; decide) dX7_holds_258 ?_
    obtain ⟨h5, hw⟩ := hw
    exact pa_zret hE hr (congrArg Value.int h5) hw rfl dX7_holds_259
  · have hw := Eq.mp (if_neg h4) hw
    refine pa_aload_n hE dX7_holds_22 rfl 0 rfl ?_
    refine pg_24_19 hE (pa_m4 140 rfl rfl) dX7_holds_23 ?_
    refine pa_iload hE dX7_holds_26 5 rfl ?_
    obtain ⟨h6, hw⟩ := hw
    refine pl_36 hE h6 dX7_holds_28 ?_
    refine pa_namei (fun v7 ev7 => ?_)
    have hw := hw v7 ev7
    refine pa_istore hE dX7_holds_29 (by decide) (lvr := [(0, .ref (q 24 0)), (1, .int x1), (2, .int x2), (3, .int x3), (4, .int x4), (5, .int x5)]) rfl ?_
    refine pa_iload hE dX7_holds_31 0 rfl ?_
    refine pa_bipush hE dX7_holds_33 (v := (-33 : Int32)) (by decide) ?_
    refine pa_icmp_ne hE dX7_holds_35 (tgt := 67) (by decide) (fun h8 => ?_) (fun h8 => ?_)
    · have hw := Eq.mp (if_neg h8) hw
      refine pa_iload hE dX7_holds_67 0 rfl ?_
      refine pa_if_ge hE dX7_holds_69 (tgt := 151) (by decide) (fun h9 => ?_) (fun h9 => ?_)
      · have hw := Eq.mp (if_pos h9) hw
        refine pa_aload_n hE dX7_holds_151 rfl 1 rfl ?_
        refine pa_iload hE dX7_holds_152 0 rfl ?_
        refine pa_sipush hE dX7_holds_154 (v := 1000) (by decide) ?_
        refine pa_idiv hE dX7_holds_157 (by decide) ?_
        refine pa_iload_n hE dX7_holds_158 rfl 3 rfl ?_
        refine pa_iload_n hE dX7_holds_159 rfl 4 rfl ?_
        refine pa_callVri hE (ct_X7_factOf l g D q u0 (v7 / 1000) x2 x3 _ hw) cv_RX7_295 pa_in24 rfl rfl rfl (pa_hR (by omega) (by decide)) rfl (Nat.le_of_ble_eq_true rfl) dX7_holds_160 (fun r10 hw => ?_)
        refine pa_istore hE dX7_holds_163 (by decide) (lvr := [(6, .int v7), (0, .ref (q 24 0)), (1, .int x1), (2, .int x2), (3, .int x3), (4, .int x4), (5, .int x5)]) rfl ?_
        refine pa_iload hE dX7_holds_165 1 rfl ?_
        refine pa_bipush hE dX7_holds_167 (v := 100) (by decide) ?_
        refine pa_idiv hE dX7_holds_169 (by decide) ?_
        refine pa_bipush hE dX7_holds_170 (v := 10) (by decide) ?_
        refine pa_irem hE dX7_holds_172 (by decide) ?_
        refine pa_namei (fun v11 ev11 => ?_)
        have hw := hw v11 ev11
        refine pa_istore hE dX7_holds_173 (by decide) (lvr := [(7, .int r10), (6, .int v7), (0, .ref (q 24 0)), (1, .int x1), (2, .int x2), (3, .int x3), (4, .int x4), (5, .int x5)]) rfl ?_
        refine pa_aload_n hE dX7_holds_175 rfl 3 rfl ?_
        refine pg_24_25 hE (pa_m4 146 rfl rfl) dX7_holds_176 ?_
        refine pa_iload hE dX7_holds_179 7 rfl ?_
        refine pa_iload hE dX7_holds_181 0 rfl ?_
        refine pa_if_ne hE dX7_holds_183 (tgt := 204) (by decide) (fun h12 => ?_) (fun h12 => ?_)
        · have hw := Eq.mp (if_neg h12) hw
          refine pa_iload hE dX7_holds_204 0 rfl ?_
          refine pa_iconst hE dX7_holds_206 (v := 1) (by decide) ?_
          refine pa_icmp_ne hE dX7_holds_207 (tgt := 228) (by decide) (fun h13 => ?_) (fun h13 => ?_)
          · have hw := Eq.mp (if_neg h13) hw
            refine pa_iload hE dX7_holds_228 1 rfl ?_
            refine pa_iload hE dX7_holds_230 2 rfl ?_
            refine pa_bipush hE dX7_holds_232 (v := 100) (by decide) ?_
            refine pa_irem hE dX7_holds_234 (by decide) ?_
            refine pa_icmp_le hE dX7_holds_235 (tgt := 242) (by decide) (fun h14 => ?_) (fun h14 => ?_)
            · have hw := Eq.mp (if_pos h14) hw
              refine pa_iconst hE dX7_holds_242 (v := 0) (by decide) ?_
              exact pa_sub [3, 4, 5, 6, 7, 8] rfl (tb_X7_holds_243 hE hr hk11 hw)
            · have hw := Eq.mp (if_neg h14) hw
              refine pa_iconst hE dX7_holds_238 (v := 1) (by decide) ?_
              refine pa_goto hE dX7_holds_239 (tgt := 243) (by decide) ?_
              exact pa_sub [3, 4, 5, 6, 7, 8] rfl (tb_X7_holds_243 hE hr hk11 hw)
          · have hw := Eq.mp (if_pos h13) hw
            refine pa_iload hE dX7_holds_210 1 rfl ?_
            refine pa_iload hE dX7_holds_212 2 rfl ?_
            refine pa_bipush hE dX7_holds_214 (v := 100) (by decide) ?_
            refine pa_irem hE dX7_holds_216 (by decide) ?_
            refine pa_icmp_ne hE dX7_holds_217 (tgt := 224) (by decide) (fun h19 => ?_) (fun h19 => ?_)
            · have hw := Eq.mp (if_neg h19) hw
              refine pa_iconst hE dX7_holds_224 (v := 0) (by decide) ?_
              refine pa_goto hE dX7_holds_225 (tgt := 243) (by decide) ?_
              exact pa_sub [3, 4, 5, 6, 7, 8] rfl (tb_X7_holds_243 hE hr hk11 hw)
            · have hw := Eq.mp (if_pos h19) hw
              refine pa_iconst hE dX7_holds_220 (v := 1) (by decide) ?_
              refine pa_goto hE dX7_holds_221 (tgt := 243) (by decide) ?_
              exact pa_sub [3, 4, 5, 6, 7, 8] rfl (tb_X7_holds_243 hE hr hk11 hw)
        · have hw := Eq.mp (if_pos h12) hw
          refine pa_iload hE dX7_holds_186 1 rfl ?_
          refine pa_iload hE dX7_holds_188 2 rfl ?_
          refine pa_bipush hE dX7_holds_190 (v := 100) (by decide) ?_
          refine pa_irem hE dX7_holds_192 (by decide) ?_
          refine pa_icmp_ge hE dX7_holds_193 (tgt := 200) (by decide) (fun h20 => ?_) (fun h20 => ?_)
          · have hw := Eq.mp (if_pos h20) hw
            refine pa_iconst hE dX7_holds_200 (v := 0) (by decide) ?_
            refine pa_goto hE dX7_holds_201 (tgt := 243) (by decide) ?_
            exact pa_sub [3, 4, 5, 6, 7, 8] rfl (tb_X7_holds_243 hE hr hk11 hw)
          · have hw := Eq.mp (if_neg h20) hw
            refine pa_iconst hE dX7_holds_196 (v := 1) (by decide) ?_
            refine pa_goto hE dX7_holds_197 (tgt := 243) (by decide) ?_
            exact pa_sub [3, 4, 5, 6, 7, 8] rfl (tb_X7_holds_243 hE hr hk11 hw)
      · have hw := Eq.mp (if_neg h9) hw
        refine pa_iinc hE dX7_holds_72 (v := (-1 : Int32)) 5 rfl (by decide) (by decide) (lvr := [(6, .int v7), (0, .ref (q 24 0)), (1, .int x1), (2, .int x2), (3, .int x3), (5, .int x5)]) rfl (fun v21 ev21 => ?_)
        have hw := hw v21 ev21
        refine pa_aload_n hE dX7_holds_75 rfl 2 rfl ?_
        refine pg_24_25 hE (pa_m4 146 rfl rfl) dX7_holds_76 ?_
        refine pa_iload hE dX7_holds_79 0 rfl ?_
        refine pa_iconst hE dX7_holds_81 (v := 1) (by decide) ?_
        refine pa_isub hE dX7_holds_82 ?_
        refine pa_iload hE dX7_holds_83 1 rfl ?_
        refine pa_bipush hE dX7_holds_85 (v := (-38 : Int32)) (by decide) ?_
        refine pa_icmp_ne hE dX7_holds_87 (tgt := 120) (by decide) (fun h22 => ?_) (fun h22 => ?_)
        · have hw := Eq.mp (if_neg h22) hw
          refine pa_aload_n hE dX7_holds_120 rfl 2 rfl ?_
          refine pg_24_25 hE (pa_m4 146 rfl rfl) dX7_holds_121 ?_
          refine pa_iload hE dX7_holds_124 0 rfl ?_
          refine pa_iconst hE dX7_holds_126 (v := 1) (by decide) ?_
          refine pa_isub hE dX7_holds_127 ?_
          obtain ⟨h23, hw⟩ := hw
          refine pl_39 hE h23 dX7_holds_128 ?_
          refine pa_if_ne hE dX7_holds_129 (tgt := 142) (by decide) (fun h24 => ?_) (fun h24 => ?_)
          · have hw := Eq.mp (if_neg h24) hw
            exact pa_sub [2, 3, 4, 5, 0, 6] rfl (tb_X7_holds_142 hE hr hk11 hw)
          · have hw := Eq.mp (if_pos h24) hw
            refine pa_aload_n hE dX7_holds_132 rfl 2 rfl ?_
            refine pg_24_25 hE (pa_m4 146 rfl rfl) dX7_holds_133 ?_
            refine pa_iload hE dX7_holds_136 0 rfl ?_
            obtain ⟨h27, hw⟩ := hw
            refine pl_39 hE h27 dX7_holds_138 ?_
            refine pa_if_eq hE dX7_holds_139 (tgt := 146) (by decide) (fun h28 => ?_) (fun h28 => ?_)
            · have hw := Eq.mp (if_pos h28) hw
              refine pa_iconst hE dX7_holds_146 (v := 0) (by decide) ?_
              exact pa_sub [2, 3, 4, 5, 0, 6] rfl (tb_X7_holds_147 hE hr hk11 hw)
            · have hw := Eq.mp (if_neg h28) hw
              exact pa_sub [2, 3, 4, 5, 0, 6] rfl (tb_X7_holds_142 hE hr hk11 hw)
        · have hw := Eq.mp (if_pos h22) hw
          refine pa_aload_n hE dX7_holds_90 rfl 2 rfl ?_
          refine pg_24_25 hE (pa_m4 146 rfl rfl) dX7_holds_91 ?_
          refine pa_iload hE dX7_holds_94 0 rfl ?_
          refine pa_iconst hE dX7_holds_96 (v := 1) (by decide) ?_
          refine pa_isub hE dX7_holds_97 ?_
          obtain ⟨h29, hw⟩ := hw
          refine pl_39 hE h29 dX7_holds_98 ?_
          refine pa_if_eq hE dX7_holds_99 (tgt := 116) (by decide) (fun h30 => ?_) (fun h30 => ?_)
          · have hw := Eq.mp (if_pos h30) hw
            exact pa_sub [2, 3, 4, 5, 0, 6] rfl (tb_X7_holds_116 hE hr hk11 hw)
          · have hw := Eq.mp (if_neg h30) hw
            refine pa_aload_n hE dX7_holds_102 rfl 2 rfl ?_
            refine pg_24_25 hE (pa_m4 146 rfl rfl) dX7_holds_103 ?_
            refine pa_iload hE dX7_holds_106 0 rfl ?_
            obtain ⟨h31, hw⟩ := hw
            refine pl_39 hE h31 dX7_holds_108 ?_
            refine pa_if_eq hE dX7_holds_109 (tgt := 116) (by decide) (fun h32 => ?_) (fun h32 => ?_)
            · have hw := Eq.mp (if_pos h32) hw
              exact pa_sub [2, 3, 4, 5, 0, 6] rfl (tb_X7_holds_116 hE hr hk11 hw)
            · have hw := Eq.mp (if_neg h32) hw
              refine pa_iconst hE dX7_holds_112 (v := 1) (by decide) ?_
              refine pa_goto hE dX7_holds_113 (tgt := 147) (by decide) ?_
              exact pa_sub [2, 3, 4, 5, 0, 6] rfl (tb_X7_holds_147 hE hr hk11 hw)
    · have hw := Eq.mp (if_pos h8) hw
      refine pa_aload_n hE dX7_holds_38 rfl 1 rfl ?_
      refine pg_24_25 hE (pa_m4 146 rfl rfl) dX7_holds_39 ?_
      refine pa_iload hE dX7_holds_42 5 rfl ?_
      refine pa_iconst hE dX7_holds_44 (v := 1) (by decide) ?_
      refine pa_isub hE dX7_holds_45 ?_
      refine pa_aload_n hE dX7_holds_46 rfl 1 rfl ?_
      refine pg_24_25 hE (pa_m4 146 rfl rfl) dX7_holds_47 ?_
      refine pa_iload hE dX7_holds_50 5 rfl ?_
      refine pa_iconst hE dX7_holds_52 (v := 1) (by decide) ?_
      refine pa_isub hE dX7_holds_53 ?_
      obtain ⟨h33, hw⟩ := hw
      refine pl_39 hE h33 dX7_holds_54 ?_
      refine pa_if_ne hE dX7_holds_55 (tgt := 62) (by decide) (fun h34 => ?_) (fun h34 => ?_)
      · have hw := Eq.mp (if_neg h34) hw
        refine pa_iconst hE dX7_holds_62 (v := 0) (by decide) ?_
        exact pa_sub [1, 2, 3, 4, 5, 6] rfl (tb_X7_holds_63 hE hr hk11 hw)
      · have hw := Eq.mp (if_pos h34) hw
        refine pa_iconst hE dX7_holds_58 (v := 1) (by decide) ?_
        refine pa_goto hE dX7_holds_59 (tgt := 63) (by decide) ?_
        exact pa_sub [1, 2, 3, 4, 5, 6] rfl (tb_X7_holds_63 hE hr hk11 hw)
def wl_X7_holds_11 (post : Int32 → pa_S → Prop) : Nat → pa_S → Int32 → Int32 → Int32 → Int32 → Int32 → Prop
  | 0, _, _, _, _, _, _ => False
  | n + 1, u0, x1, x2, x3, x4, x5 => wb_X7_holds_11 (fun u0 x1 x2 x3 x4 x5 => wl_X7_holds_11 post n u0 x1 x2 x3 x4 x5) u0 x1 x2 x3 x4 x5 post
set_option maxRecDepth 100000 in
set_option maxHeartbeats 4000000 in
theorem tl_X7_holds_11 {p : Program} {l : Launch} {e : Env} {s : State} {m : MethodId} {args : Array Value} {below : List Frame} {meth : Method} {c : Code} {A : Nat → Prop} {D : va_G} {g : pa_G} {q : Nat → Nat → Nat} {post : Int32 → pa_S → Prop} (hE : pa_Fx p s m args meth c A D g 9 cX7_holds RX7) (hr : meth.sig.returnType = (some .boolean)) : ∀ (n : Nat) (u0 : pa_S) (x1 : Int32) (x2 : Int32) (x3 : Int32) (x4 : Int32) (x5 : Int32), wl_X7_holds_11 post n u0 x1 x2 x3 x4 x5 → pa_At p l e (pa_rm 3) s m args below meth c (MQ below (pa_Qc g D q (fun r => some (.int r)) post A) args s 0 0 A) A D g 9 0 0 q u0 11 [(0, .ref (q 24 0)), (1, .int x1), (2, .int x2), (3, .int x3), (4, .int x4), (5, .int x5)] []
  | 0, _, _, _, _, _, _, hw => absurd hw (by simp only [wl_X7_holds_11]; exact fun z => z)
  | n + 1, u0, x1, x2, x3, x4, x5, hw => tb_X7_holds_11 hE hr (fun u0 x1 x2 x3 x4 x5  hw1 => tl_X7_holds_11 hE hr  n u0 x1 x2 x3 x4 x5  hw1) hw
def wb_X7_holds_0 (u0 : pa_S) (x1 : Int32) (x2 : Int32) (x3 : Int32) (post : Int32 → pa_S → Prop) : Prop :=
  (vp_in x1 60) ∧ ∀ v2 : Int32, v2 = (pa_A u0 34 0 x1.toNatClampNeg) → wl_X7_holds_11 post 5000 u0 x1 x2 x3 0 v2
set_option maxRecDepth 100000 in
set_option maxHeartbeats 4000000 in
theorem tb_X7_holds_0 {p : Program} {l : Launch} {e : Env} {s : State} {m : MethodId} {args : Array Value} {below : List Frame} {meth : Method} {c : Code} {A : Nat → Prop} {D : va_G} {g : pa_G} {q : Nat → Nat → Nat} {u0 : pa_S} {x1 : Int32} {x2 : Int32} {x3 : Int32} {post : Int32 → pa_S → Prop} (hE : pa_Fx p s m args meth c A D g 9 cX7_holds RX7) (hr : meth.sig.returnType = (some .boolean)) (hw : wb_X7_holds_0 u0 x1 x2 x3 post) : pa_At p l e (pa_rm 3) s m args below meth c (MQ below (pa_Qc g D q (fun r => some (.int r)) post A) args s 0 0 A) A D g 9 0 0 q u0 0 [(0, .ref (q 24 0)), (1, .int x1), (2, .int x2), (3, .int x3)] [] := by
  refine pa_iconst hE dX7_holds_0 (v := 0) (by decide) ?_
  refine pa_istore hE dX7_holds_1 (by decide) (lvr := [(0, .ref (q 24 0)), (1, .int x1), (2, .int x2), (3, .int x3)]) rfl ?_
  refine pa_aload_n hE dX7_holds_3 rfl 1 rfl ?_
  refine pg_24_17 hE (pa_m4 138 rfl rfl) dX7_holds_4 ?_
  refine pa_iload_n hE dX7_holds_7 rfl 2 rfl ?_
  obtain ⟨h1, hw⟩ := hw
  refine pl_34 hE h1 dX7_holds_8 ?_
  refine pa_namei (fun v2 ev2 => ?_)
  have hw := hw v2 ev2
  refine pa_istore hE dX7_holds_9 (by decide) (lvr := [(4, .int 0), (0, .ref (q 24 0)), (1, .int x1), (2, .int x2), (3, .int x3)]) rfl ?_
  exact pa_sub [2, 3, 4, 5, 1, 0] rfl (tl_X7_holds_11 hE hr 5000 u0 x1 x2 x3 0 v2 hw)
def wp_X7_holds (u0 : pa_S) (x1 : Int32) (x2 : Int32) (x3 : Int32) (post : Int32 → pa_S → Prop) : Prop := wb_X7_holds_0 u0 x1 x2 x3 post
theorem ct_X7_holds (l : Launch) (g : pa_G) (D : va_G) (q : Nat → Nat → Nat) (u0 : pa_S) (x1 : Int32) (x2 : Int32) (x3 : Int32) (post : Int32 → pa_S → Prop)  (hw : wp_X7_holds u0 x1 x2 x3 post) : pa_Ct l yX7_holds cX7_holds 9 (some .boolean) 3 g D q u0 [.ref (q 24 0), .int x1, .int x2, .int x3] (fun r => some (.int r)) post := pa_met rfl rfl (Nat.le_of_ble_eq_true rfl) rfl (fun p e s m args below meth c A hE hr => tb_X7_holds_0 hE hr  hw)
def wb_X7_grace_73 (k8 : pa_S → Int32 → Int32 → Int32 → Int32 → Prop) (u0 : pa_S) (x1 : Int32) (x2 : Int32) (x3 : Int32) (x4 : Int32) (post : Int32 → pa_S → Prop) : Prop :=
  ∀ v6 : Int32, v6 = x4 + 1 → k8 u0 x1 x2 x3 v6
set_option maxRecDepth 100000 in
set_option maxHeartbeats 4000000 in
theorem tb_X7_grace_73 {p : Program} {l : Launch} {e : Env} {s : State} {m : MethodId} {args : Array Value} {below : List Frame} {meth : Method} {c : Code} {A : Nat → Prop} {D : va_G} {g : pa_G} {q : Nat → Nat → Nat} {k8 : pa_S → Int32 → Int32 → Int32 → Int32 → Prop} {u0 : pa_S} {x1 : Int32} {x2 : Int32} {x3 : Int32} {x4 : Int32} {post : Int32 → pa_S → Prop} (hE : pa_Fx p s m args meth c A D g 5 cX7_grace RX7) (hr : meth.sig.returnType = (some .int)) (hk8 : ∀ (u : pa_S)  (x1 : Int32) (x2 : Int32) (x3 : Int32) (x4 : Int32), k8 u x1 x2 x3 x4 → pa_At p l e (pa_rm 4) s m args below meth c (MQ below (pa_Qc g D q (fun r => some (.int r)) post A) args s 0 0 A) A D g 5 0 0 q u 8 [(0, .ref (q 24 0)), (1, .int x1), (2, .int x2), (3, .int x3), (4, .int x4)] []) (hw : wb_X7_grace_73 k8 u0 x1 x2 x3 x4 post) : pa_At p l e (pa_rm 4) s m args below meth c (MQ below (pa_Qc g D q (fun r => some (.int r)) post A) args s 0 0 A) A D g 5 0 0 q u0 73 [(0, .ref (q 24 0)), (1, .int x1), (2, .int x2), (3, .int x3), (4, .int x4)] [] := by
  refine pa_iinc hE dX7_grace_73 (v := 1) 4 rfl (by decide) (by decide) (lvr := [(0, .ref (q 24 0)), (1, .int x1), (2, .int x2), (3, .int x3)]) rfl (fun v6 ev6 => ?_)
  have hw := hw v6 ev6
  refine pa_goto hE dX7_grace_76 (tgt := 8) (by decide) ?_
  exact pa_sub [1, 2, 3, 4, 0] rfl (hk8 u0 x1 x2 x3 v6 hw)
def wb_X7_grace_71 (k8 : pa_S → Int32 → Int32 → Int32 → Int32 → Prop) (u0 : pa_S) (x1 : Int32) (x2 : Int32) (x4 : Int32) (y0 : Int32) (y1 : Int32) (post : Int32 → pa_S → Prop) : Prop :=
  ∀ v13 : Int32, v13 = (y0 + y1) → wb_X7_grace_73 k8 u0 x1 x2 v13 x4 post
set_option maxRecDepth 100000 in
set_option maxHeartbeats 4000000 in
theorem tb_X7_grace_71 {p : Program} {l : Launch} {e : Env} {s : State} {m : MethodId} {args : Array Value} {below : List Frame} {meth : Method} {c : Code} {A : Nat → Prop} {D : va_G} {g : pa_G} {q : Nat → Nat → Nat} {k8 : pa_S → Int32 → Int32 → Int32 → Int32 → Prop} {u0 : pa_S} {x1 : Int32} {x2 : Int32} {x4 : Int32} {y0 : Int32} {y1 : Int32} {post : Int32 → pa_S → Prop} (hE : pa_Fx p s m args meth c A D g 5 cX7_grace RX7) (hr : meth.sig.returnType = (some .int)) (hk8 : ∀ (u : pa_S)  (x1 : Int32) (x2 : Int32) (x3 : Int32) (x4 : Int32), k8 u x1 x2 x3 x4 → pa_At p l e (pa_rm 4) s m args below meth c (MQ below (pa_Qc g D q (fun r => some (.int r)) post A) args s 0 0 A) A D g 5 0 0 q u 8 [(0, .ref (q 24 0)), (1, .int x1), (2, .int x2), (3, .int x3), (4, .int x4)] []) (hw : wb_X7_grace_71 k8 u0 x1 x2 x4 y0 y1 post) : pa_At p l e (pa_rm 4) s m args below meth c (MQ below (pa_Qc g D q (fun r => some (.int r)) post A) args s 0 0 A) A D g 5 0 0 q u0 71 [(0, .ref (q 24 0)), (1, .int x1), (2, .int x2), (4, .int x4)] [.int y1, .int y0] := by
  refine pa_iadd hE dX7_grace_71 ?_
  refine pa_namei (fun v13 ev13 => ?_)
  have hw := hw v13 ev13
  refine pa_istore_n hE dX7_grace_72 rfl (by decide) (lvr := [(0, .ref (q 24 0)), (1, .int x1), (2, .int x2), (4, .int x4)]) rfl ?_
  exact pa_sub [1, 2, 3, 0, 4] rfl (tb_X7_grace_73 hE hr hk8 hw)
def wb_X7_grace_8 (k8 : pa_S → Int32 → Int32 → Int32 → Int32 → Prop) (u0 : pa_S) (x1 : Int32) (x2 : Int32) (x3 : Int32) (x4 : Int32) (post : Int32 → pa_S → Prop) : Prop :=
  (wp_X7_behind u0 (fun (r2 : Int32) => (if r2 ≤ x4 then post x3 u0 else (vp_in x4 60) ∧ (if 1 < (pa_A u0 32 0 x4.toNatClampNeg) then wb_X7_grace_73 k8 u0 x1 x2 x3 x4 post else (wp_X7_holds u0 x4 x1 x2 (fun (r7 : Int32) (u8 : pa_S) => (if r7 = 0 then wb_X7_grace_73 k8 u8 x1 x2 x3 x4 post else (vp_in x4 60) ∧ (if (pa_A u8 32 0 x4.toNatClampNeg) = 0 then (vp_in x4 60) ∧ wb_X7_grace_71 k8 u8 x1 x2 x4 x3 (pa_A u8 33 0 x4.toNatClampNeg) post else (vp_in x4 60) ∧ wb_X7_grace_71 k8 u8 x1 x2 x4 x3 (-(pa_A u8 33 0 x4.toNatClampNeg)) post))))))))
set_option maxRecDepth 100000 in
set_option maxHeartbeats 4000000 in
theorem tb_X7_grace_8 {p : Program} {l : Launch} {e : Env} {s : State} {m : MethodId} {args : Array Value} {below : List Frame} {meth : Method} {c : Code} {A : Nat → Prop} {D : va_G} {g : pa_G} {q : Nat → Nat → Nat} {k8 : pa_S → Int32 → Int32 → Int32 → Int32 → Prop} {u0 : pa_S} {x1 : Int32} {x2 : Int32} {x3 : Int32} {x4 : Int32} {post : Int32 → pa_S → Prop} (hE : pa_Fx p s m args meth c A D g 5 cX7_grace RX7) (hr : meth.sig.returnType = (some .int)) (hk8 : ∀ (u : pa_S)  (x1 : Int32) (x2 : Int32) (x3 : Int32) (x4 : Int32), k8 u x1 x2 x3 x4 → pa_At p l e (pa_rm 4) s m args below meth c (MQ below (pa_Qc g D q (fun r => some (.int r)) post A) args s 0 0 A) A D g 5 0 0 q u 8 [(0, .ref (q 24 0)), (1, .int x1), (2, .int x2), (3, .int x3), (4, .int x4)] []) (hw : wb_X7_grace_8 k8 u0 x1 x2 x3 x4 post) : pa_At p l e (pa_rm 4) s m args below meth c (MQ below (pa_Qc g D q (fun r => some (.int r)) post A) args s 0 0 A) A D g 5 0 0 q u0 8 [(0, .ref (q 24 0)), (1, .int x1), (2, .int x2), (3, .int x3), (4, .int x4)] [] := by
  refine pa_iload hE dX7_grace_8 4 rfl ?_
  refine pa_aload_n hE dX7_grace_10 rfl 0 rfl ?_
  refine pa_callVri hE (ct_X7_behind l g D q u0 _ hw) cv_RX7_285 pa_in24 rfl rfl rfl (pa_hR (by omega) (by decide)) rfl (Nat.le_of_ble_eq_true rfl) dX7_grace_11 (fun r2 hw => ?_)
  refine pa_icmp_ge hE dX7_grace_14 (tgt := 79) (by decide) (fun h3 => ?_) (fun h3 => ?_)
  · have hw := Eq.mp (if_pos h3) hw
    refine pa_iload_n hE dX7_grace_79 rfl 3 rfl ?_
    exact pa_iret hE hr hw rfl dX7_grace_80
  · have hw := Eq.mp (if_neg h3) hw
    refine pa_aload_n hE dX7_grace_17 rfl 0 rfl ?_
    refine pg_24_15 hE (pa_m4 136 rfl rfl) dX7_grace_18 ?_
    refine pa_iload hE dX7_grace_21 4 rfl ?_
    obtain ⟨h4, hw⟩ := hw
    refine pl_32 hE h4 dX7_grace_23 ?_
    refine pa_iconst hE dX7_grace_24 (v := 1) (by decide) ?_
    refine pa_icmp_gt hE dX7_grace_25 (tgt := 73) (by decide) (fun h5 => ?_) (fun h5 => ?_)
    · have hw := Eq.mp (if_pos h5) hw
      exact pa_sub [0, 1, 2, 3, 4] rfl (tb_X7_grace_73 hE hr hk8 hw)
    · have hw := Eq.mp (if_neg h5) hw
      refine pa_aload_n hE dX7_grace_28 rfl 0 rfl ?_
      refine pa_iload hE dX7_grace_29 4 rfl ?_
      refine pa_iload_n hE dX7_grace_31 rfl 1 rfl ?_
      refine pa_iload_n hE dX7_grace_32 rfl 2 rfl ?_
      refine pa_callVi hE (ct_X7_holds l g D q u0 x4 x1 x2 _ hw) cv_RX7_299 pa_in24 rfl rfl rfl (pa_hR (by omega) (by decide)) rfl (Nat.le_of_ble_eq_true rfl) dX7_grace_33 (fun r7 u8 hw => ?_)
      refine pa_if_ne hE dX7_grace_36 (tgt := 42) (by decide) (fun h9 => ?_) (fun h9 => ?_)
      · have hw := Eq.mp (if_neg h9) hw
        refine pa_iload_n hE dX7_grace_42 rfl 3 rfl ?_
        refine pa_aload_n hE dX7_grace_43 rfl 0 rfl ?_
        refine pg_24_15 hE (pa_m4 136 rfl rfl) dX7_grace_44 ?_
        refine pa_iload hE dX7_grace_47 4 rfl ?_
        obtain ⟨h10, hw⟩ := hw
        refine pl_32 hE h10 dX7_grace_49 ?_
        refine pa_if_ne hE dX7_grace_50 (tgt := 63) (by decide) (fun h11 => ?_) (fun h11 => ?_)
        · have hw := Eq.mp (if_neg h11) hw
          refine pa_aload_n hE dX7_grace_63 rfl 0 rfl ?_
          refine pg_24_16 hE (pa_m4 137 rfl rfl) dX7_grace_64 ?_
          refine pa_iload hE dX7_grace_67 4 rfl ?_
          obtain ⟨h12, hw⟩ := hw
          refine pl_33 hE h12 dX7_grace_69 ?_
          refine pa_ineg hE dX7_grace_70 ?_
          exact pa_sub [0, 1, 2, 4] rfl (tb_X7_grace_71 hE hr hk8 hw)
        · have hw := Eq.mp (if_pos h11) hw
          refine pa_aload_n hE dX7_grace_53 rfl 0 rfl ?_
          refine pg_24_16 hE (pa_m4 137 rfl rfl) dX7_grace_54 ?_
          refine pa_iload hE dX7_grace_57 4 rfl ?_
          obtain ⟨h14, hw⟩ := hw
          refine pl_33 hE h14 dX7_grace_59 ?_
          refine pa_goto hE dX7_grace_60 (tgt := 71) (by decide) ?_
          exact pa_sub [0, 1, 2, 4] rfl (tb_X7_grace_71 hE hr hk8 hw)
      · have hw := Eq.mp (if_pos h9) hw
        refine pa_goto hE dX7_grace_39 (tgt := 73) (by decide) ?_
        exact pa_sub [0, 1, 2, 3, 4] rfl (tb_X7_grace_73 hE hr hk8 hw)
def wl_X7_grace_8 (post : Int32 → pa_S → Prop) : Nat → pa_S → Int32 → Int32 → Int32 → Int32 → Prop
  | 0, _, _, _, _, _ => False
  | n + 1, u0, x1, x2, x3, x4 => wb_X7_grace_8 (fun u0 x1 x2 x3 x4 => wl_X7_grace_8 post n u0 x1 x2 x3 x4) u0 x1 x2 x3 x4 post
set_option maxRecDepth 100000 in
set_option maxHeartbeats 4000000 in
theorem tl_X7_grace_8 {p : Program} {l : Launch} {e : Env} {s : State} {m : MethodId} {args : Array Value} {below : List Frame} {meth : Method} {c : Code} {A : Nat → Prop} {D : va_G} {g : pa_G} {q : Nat → Nat → Nat} {post : Int32 → pa_S → Prop} (hE : pa_Fx p s m args meth c A D g 5 cX7_grace RX7) (hr : meth.sig.returnType = (some .int)) : ∀ (n : Nat) (u0 : pa_S) (x1 : Int32) (x2 : Int32) (x3 : Int32) (x4 : Int32), wl_X7_grace_8 post n u0 x1 x2 x3 x4 → pa_At p l e (pa_rm 4) s m args below meth c (MQ below (pa_Qc g D q (fun r => some (.int r)) post A) args s 0 0 A) A D g 5 0 0 q u0 8 [(0, .ref (q 24 0)), (1, .int x1), (2, .int x2), (3, .int x3), (4, .int x4)] []
  | 0, _, _, _, _, _, hw => absurd hw (by simp only [wl_X7_grace_8]; exact fun z => z)
  | n + 1, u0, x1, x2, x3, x4, hw => tb_X7_grace_8 hE hr (fun u0 x1 x2 x3 x4  hw1 => tl_X7_grace_8 hE hr  n u0 x1 x2 x3 x4  hw1) hw
def wb_X7_grace_0 (u0 : pa_S) (x1 : Int32) (x2 : Int32) (post : Int32 → pa_S → Prop) : Prop :=
  (wp_X7_begin u0 (fun (r1 : Int32) => wl_X7_grace_8 post 5000 u0 x1 x2 0 r1))
set_option maxRecDepth 100000 in
set_option maxHeartbeats 4000000 in
theorem tb_X7_grace_0 {p : Program} {l : Launch} {e : Env} {s : State} {m : MethodId} {args : Array Value} {below : List Frame} {meth : Method} {c : Code} {A : Nat → Prop} {D : va_G} {g : pa_G} {q : Nat → Nat → Nat} {u0 : pa_S} {x1 : Int32} {x2 : Int32} {post : Int32 → pa_S → Prop} (hE : pa_Fx p s m args meth c A D g 5 cX7_grace RX7) (hr : meth.sig.returnType = (some .int)) (hw : wb_X7_grace_0 u0 x1 x2 post) : pa_At p l e (pa_rm 4) s m args below meth c (MQ below (pa_Qc g D q (fun r => some (.int r)) post A) args s 0 0 A) A D g 5 0 0 q u0 0 [(0, .ref (q 24 0)), (1, .int x1), (2, .int x2)] [] := by
  refine pa_iconst hE dX7_grace_0 (v := 0) (by decide) ?_
  refine pa_istore_n hE dX7_grace_1 rfl (by decide) (lvr := [(0, .ref (q 24 0)), (1, .int x1), (2, .int x2)]) rfl ?_
  refine pa_aload_n hE dX7_grace_2 rfl 1 rfl ?_
  refine pa_callVri hE (ct_X7_begin l g D q u0 _ hw) cv_RX7_282 pa_in24 rfl rfl rfl (pa_hR (by omega) (by decide)) rfl (Nat.le_of_ble_eq_true rfl) dX7_grace_3 (fun r1 hw => ?_)
  refine pa_istore hE dX7_grace_6 (by decide) (lvr := [(3, .int 0), (0, .ref (q 24 0)), (1, .int x1), (2, .int x2)]) rfl ?_
  exact pa_sub [2, 3, 4, 1, 0] rfl (tl_X7_grace_8 hE hr 5000 u0 x1 x2 0 r1 hw)
def wp_X7_grace (u0 : pa_S) (x1 : Int32) (x2 : Int32) (post : Int32 → pa_S → Prop) : Prop := wb_X7_grace_0 u0 x1 x2 post
theorem ct_X7_grace (l : Launch) (g : pa_G) (D : va_G) (q : Nat → Nat → Nat) (u0 : pa_S) (x1 : Int32) (x2 : Int32) (post : Int32 → pa_S → Prop)  (hw : wp_X7_grace u0 x1 x2 post) : pa_Ct l yX7_grace cX7_grace 5 (some .int) 4 g D q u0 [.ref (q 24 0), .int x1, .int x2] (fun r => some (.int r)) post := pa_met rfl rfl (Nat.le_of_ble_eq_true rfl) rfl (fun p e s m args below meth c A hE hr => tb_X7_grace_0 hE hr  hw)
def wb_X7_worth_0 (u0 : pa_S) (x1 : Int32) (x2 : Int32) (post : Int32 → pa_S → Prop) : Prop :=
  (vp_in ((3 * x1) + x2) 15) ∧ (if (pa_A u0 28 0 ((3 * x1) + x2).toNatClampNeg) = 0 then post 0 u0 else (vp_in ((3 * x1) + x2) 15) ∧ (wp_X7_grace u0 x1 x2 (fun (r4 : Int32) (u5 : pa_S) => (wp_X7_least0 u5 ((pa_A u0 28 0 ((3 * x1) + x2).toNatClampNeg) + r4) (fun (r6 : Int32) => post r6 u5)))))
set_option maxRecDepth 100000 in
set_option maxHeartbeats 4000000 in
theorem tb_X7_worth_0 {p : Program} {l : Launch} {e : Env} {s : State} {m : MethodId} {args : Array Value} {below : List Frame} {meth : Method} {c : Code} {A : Nat → Prop} {D : va_G} {g : pa_G} {q : Nat → Nat → Nat} {u0 : pa_S} {x1 : Int32} {x2 : Int32} {post : Int32 → pa_S → Prop} (hE : pa_Fx p s m args meth c A D g 3 cX7_worth RX7) (hr : meth.sig.returnType = (some .int)) (hw : wb_X7_worth_0 u0 x1 x2 post) : pa_At p l e (pa_rm 5) s m args below meth c (MQ below (pa_Qc g D q (fun r => some (.int r)) post A) args s 0 0 A) A D g 3 0 0 q u0 0 [(0, .ref (q 24 0)), (1, .int x1), (2, .int x2)] [] := by
  refine pa_aload_n hE dX7_worth_0 rfl 0 rfl ?_
  refine pg_24_6 hE (pa_m4 127 rfl rfl) dX7_worth_1 ?_
  refine pa_iconst hE dX7_worth_4 (v := 3) (by decide) ?_
  refine pa_iload_n hE dX7_worth_5 rfl 1 rfl ?_
  refine pa_imul hE dX7_worth_6 ?_
  refine pa_iload_n hE dX7_worth_7 rfl 2 rfl ?_
  refine pa_iadd hE dX7_worth_8 ?_
  obtain ⟨h1, hw⟩ := hw
  refine pl_28 hE h1 dX7_worth_9 ?_
  refine pa_if_ne hE dX7_worth_10 (tgt := 17) (by decide) (fun h2 => ?_) (fun h2 => ?_)
  · have hw := Eq.mp (if_neg h2) hw
    refine pa_aload_n hE dX7_worth_17 rfl 0 rfl ?_
    refine pa_aload_n hE dX7_worth_18 rfl 0 rfl ?_
    refine pg_24_6 hE (pa_m4 127 rfl rfl) dX7_worth_19 ?_
    refine pa_iconst hE dX7_worth_22 (v := 3) (by decide) ?_
    refine pa_iload_n hE dX7_worth_23 rfl 1 rfl ?_
    refine pa_imul hE dX7_worth_24 ?_
    refine pa_iload_n hE dX7_worth_25 rfl 2 rfl ?_
    refine pa_iadd hE dX7_worth_26 ?_
    obtain ⟨h3, hw⟩ := hw
    refine pl_28 hE h3 dX7_worth_27 ?_
    refine pa_aload_n hE dX7_worth_28 rfl 0 rfl ?_
    refine pa_iload_n hE dX7_worth_29 rfl 1 rfl ?_
    refine pa_iload_n hE dX7_worth_30 rfl 2 rfl ?_
    refine pa_callVi hE (ct_X7_grace l g D q u0 x1 x2 _ hw) cv_RX7_302 pa_in24 rfl rfl rfl (pa_hR (by omega) (by decide)) rfl (Nat.le_of_ble_eq_true rfl) dX7_worth_31 (fun r4 u5 hw => ?_)
    refine pa_iadd hE dX7_worth_34 ?_
    refine pa_callVri hE (ct_X7_least0 l g D q u5 ((pa_A u0 28 0 ((3 * x1) + x2).toNatClampNeg) + r4) _ hw) cv_RX7_305 pa_in24 rfl rfl rfl (pa_hR (by omega) (by decide)) rfl (Nat.le_of_ble_eq_true rfl) dX7_worth_35 (fun r6 hw => ?_)
    exact pa_iret hE hr hw rfl dX7_worth_38
  · have hw := Eq.mp (if_pos h2) hw
    refine pa_iconst hE dX7_worth_13 (v := 0) (by decide) ?_
    refine pa_goto hE dX7_worth_14 (tgt := 38) (by decide) ?_
    exact pa_iret hE hr hw rfl dX7_worth_38
def wp_X7_worth (u0 : pa_S) (x1 : Int32) (x2 : Int32) (post : Int32 → pa_S → Prop) : Prop := wb_X7_worth_0 u0 x1 x2 post
theorem ct_X7_worth (l : Launch) (g : pa_G) (D : va_G) (q : Nat → Nat → Nat) (u0 : pa_S) (x1 : Int32) (x2 : Int32) (post : Int32 → pa_S → Prop)  (hw : wp_X7_worth u0 x1 x2 post) : pa_Ct l yX7_worth cX7_worth 3 (some .int) 5 g D q u0 [.ref (q 24 0), .int x1, .int x2] (fun r => some (.int r)) post := pa_met rfl rfl (Nat.le_of_ble_eq_true rfl) rfl (fun p e s m args below meth c A hE hr => tb_X7_worth_0 hE hr  hw)
def wb_X7_fortune_0 (u0 : pa_S) (x1 : Int32) (post : Int32 → pa_S → Prop) : Prop :=
  (vp_in x1 5) ∧ (if (pa_A u0 25 0 x1.toNatClampNeg) = 4 then post 0 u0 else (wp_X7_worth u0 x1 0 (fun (r3 : Int32) (u4 : pa_S) => (wp_X7_worth u4 x1 1 (fun (r5 : Int32) (u6 : pa_S) => (wp_X7_worth u6 x1 2 (fun (r7 : Int32) (u8 : pa_S) => ∀ v9 : Int32, v9 = ((r3 + r5) + r7) → (vp_in x1 5) ∧ (if (pa_A u8 25 0 x1.toNatClampNeg) = 1 then (vp_in x1 5) ∧ post (v9 + (pa_A u8 26 0 x1.toNatClampNeg)) u8 else post v9 u8))))))))
set_option maxRecDepth 100000 in
set_option maxHeartbeats 4000000 in
theorem tb_X7_fortune_0 {p : Program} {l : Launch} {e : Env} {s : State} {m : MethodId} {args : Array Value} {below : List Frame} {meth : Method} {c : Code} {A : Nat → Prop} {D : va_G} {g : pa_G} {q : Nat → Nat → Nat} {u0 : pa_S} {x1 : Int32} {post : Int32 → pa_S → Prop} (hE : pa_Fx p s m args meth c A D g 3 cX7_fortune RX7) (hr : meth.sig.returnType = (some .int)) (hw : wb_X7_fortune_0 u0 x1 post) : pa_At p l e (pa_rm 6) s m args below meth c (MQ below (pa_Qc g D q (fun r => some (.int r)) post A) args s 0 0 A) A D g 3 0 0 q u0 0 [(0, .ref (q 24 0)), (1, .int x1)] [] := by
  refine pa_aload_n hE dX7_fortune_0 rfl 0 rfl ?_
  refine pg_24_3 hE (pa_m4 124 rfl rfl) dX7_fortune_1 ?_
  refine pa_iload_n hE dX7_fortune_4 rfl 1 rfl ?_
  obtain ⟨h1, hw⟩ := hw
  refine pl_25 hE h1 dX7_fortune_5 ?_
  refine pa_iconst hE dX7_fortune_6 (v := 4) (by decide) ?_
  refine pa_icmp_ne hE dX7_fortune_7 (tgt := 12) (by decide) (fun h2 => ?_) (fun h2 => ?_)
  · have hw := Eq.mp (if_neg h2) hw
    refine pa_aload_n hE dX7_fortune_12 rfl 0 rfl ?_
    refine pa_iload_n hE dX7_fortune_13 rfl 1 rfl ?_
    refine pa_iconst hE dX7_fortune_14 (v := 0) (by decide) ?_
    refine pa_callVi hE (ct_X7_worth l g D q u0 x1 0 _ hw) cv_RX7_308 pa_in24 rfl rfl rfl (pa_hR (by omega) (by decide)) rfl (Nat.le_of_ble_eq_true rfl) dX7_fortune_15 (fun r3 u4 hw => ?_)
    refine pa_aload_n hE dX7_fortune_18 rfl 0 rfl ?_
    refine pa_iload_n hE dX7_fortune_19 rfl 1 rfl ?_
    refine pa_iconst hE dX7_fortune_20 (v := 1) (by decide) ?_
    refine pa_callVi hE (ct_X7_worth l g D q u4 x1 1 _ hw) cv_RX7_308 pa_in24 rfl rfl rfl (pa_hR (by omega) (by decide)) rfl (Nat.le_of_ble_eq_true rfl) dX7_fortune_21 (fun r5 u6 hw => ?_)
    refine pa_iadd hE dX7_fortune_24 ?_
    refine pa_aload_n hE dX7_fortune_25 rfl 0 rfl ?_
    refine pa_iload_n hE dX7_fortune_26 rfl 1 rfl ?_
    refine pa_iconst hE dX7_fortune_27 (v := 2) (by decide) ?_
    refine pa_callVi hE (ct_X7_worth l g D q u6 x1 2 _ hw) cv_RX7_308 pa_in24 rfl rfl rfl (pa_hR (by omega) (by decide)) rfl (Nat.le_of_ble_eq_true rfl) dX7_fortune_28 (fun r7 u8 hw => ?_)
    refine pa_iadd hE dX7_fortune_31 ?_
    refine pa_namei (fun v9 ev9 => ?_)
    have hw := hw v9 ev9
    refine pa_istore_n hE dX7_fortune_32 rfl (by decide) (lvr := [(0, .ref (q 24 0)), (1, .int x1)]) rfl ?_
    refine pa_aload_n hE dX7_fortune_33 rfl 1 rfl ?_
    refine pg_24_3 hE (pa_m4 124 rfl rfl) dX7_fortune_34 ?_
    refine pa_iload_n hE dX7_fortune_37 rfl 2 rfl ?_
    obtain ⟨h10, hw⟩ := hw
    refine pl_25 hE h10 dX7_fortune_38 ?_
    refine pa_iconst hE dX7_fortune_39 (v := 1) (by decide) ?_
    refine pa_icmp_ne hE dX7_fortune_40 (tgt := 54) (by decide) (fun h11 => ?_) (fun h11 => ?_)
    · have hw := Eq.mp (if_neg h11) hw
      refine pa_iload_n hE dX7_fortune_54 rfl 0 rfl ?_
      exact pa_iret hE hr hw rfl dX7_fortune_55
    · have hw := Eq.mp (if_pos h11) hw
      refine pa_iload_n hE dX7_fortune_43 rfl 0 rfl ?_
      refine pa_aload_n hE dX7_fortune_44 rfl 1 rfl ?_
      refine pg_24_4 hE (pa_m4 125 rfl rfl) dX7_fortune_45 ?_
      refine pa_iload_n hE dX7_fortune_48 rfl 2 rfl ?_
      obtain ⟨h12, hw⟩ := hw
      refine pl_26 hE h12 dX7_fortune_49 ?_
      refine pa_iadd hE dX7_fortune_50 ?_
      refine pa_goto hE dX7_fortune_51 (tgt := 55) (by decide) ?_
      exact pa_iret hE hr hw rfl dX7_fortune_55
  · have hw := Eq.mp (if_pos h2) hw
    refine pa_iconst hE dX7_fortune_10 (v := 0) (by decide) ?_
    exact pa_iret hE hr hw rfl dX7_fortune_11
def wp_X7_fortune (u0 : pa_S) (x1 : Int32) (post : Int32 → pa_S → Prop) : Prop := wb_X7_fortune_0 u0 x1 post
theorem ct_X7_fortune (l : Launch) (g : pa_G) (D : va_G) (q : Nat → Nat → Nat) (u0 : pa_S) (x1 : Int32) (post : Int32 → pa_S → Prop)  (hw : wp_X7_fortune u0 x1 post) : pa_Ct l yX7_fortune cX7_fortune 3 (some .int) 6 g D q u0 [.ref (q 24 0), .int x1] (fun r => some (.int r)) post := pa_met rfl rfl (Nat.le_of_ble_eq_true rfl) rfl (fun p e s m args below meth c A hE hr => tb_X7_fortune_0 hE hr  hw)
def wb_X7_allFortunes_4 (k4 : pa_S → Int32 → Int32 → Prop) (u0 : pa_S) (x1 : Int32) (x2 : Int32) (post : Int32 → pa_S → Prop) : Prop :=
  (if (pa_I u0 24 0 0) ≤ x2 then post x1 u0 else (wp_X7_fortune u0 x2 (fun (r2 : Int32) (u3 : pa_S) => ∀ v4 : Int32, v4 = (x1 + r2) → ∀ v5 : Int32, v5 = x2 + 1 → k4 u3 v4 v5)))
set_option maxRecDepth 100000 in
set_option maxHeartbeats 4000000 in
theorem tb_X7_allFortunes_4 {p : Program} {l : Launch} {e : Env} {s : State} {m : MethodId} {args : Array Value} {below : List Frame} {meth : Method} {c : Code} {A : Nat → Prop} {D : va_G} {g : pa_G} {q : Nat → Nat → Nat} {k4 : pa_S → Int32 → Int32 → Prop} {u0 : pa_S} {x1 : Int32} {x2 : Int32} {post : Int32 → pa_S → Prop} (hE : pa_Fx p s m args meth c A D g 3 cX7_allFortunes RX7) (hr : meth.sig.returnType = (some .int)) (hk4 : ∀ (u : pa_S)  (x1 : Int32) (x2 : Int32), k4 u x1 x2 → pa_At p l e (pa_rm 7) s m args below meth c (MQ below (pa_Qc g D q (fun r => some (.int r)) post A) args s 0 0 A) A D g 3 0 0 q u 4 [(0, .ref (q 24 0)), (1, .int x1), (2, .int x2)] []) (hw : wb_X7_allFortunes_4 k4 u0 x1 x2 post) : pa_At p l e (pa_rm 7) s m args below meth c (MQ below (pa_Qc g D q (fun r => some (.int r)) post A) args s 0 0 A) A D g 3 0 0 q u0 4 [(0, .ref (q 24 0)), (1, .int x1), (2, .int x2)] [] := by
  refine pa_iload_n hE dX7_allFortunes_4 rfl 2 rfl ?_
  refine pa_aload_n hE dX7_allFortunes_5 rfl 0 rfl ?_
  refine pg_24_0 hE (pa_m4 121 rfl rfl) dX7_allFortunes_6 ?_
  refine pa_icmp_ge hE dX7_allFortunes_9 (tgt := 26) (by decide) (fun h1 => ?_) (fun h1 => ?_)
  · have hw := Eq.mp (if_pos h1) hw
    refine pa_iload_n hE dX7_allFortunes_26 rfl 1 rfl ?_
    exact pa_iret hE hr hw rfl dX7_allFortunes_27
  · have hw := Eq.mp (if_neg h1) hw
    refine pa_iload_n hE dX7_allFortunes_12 rfl 1 rfl ?_
    refine pa_aload_n hE dX7_allFortunes_13 rfl 0 rfl ?_
    refine pa_iload_n hE dX7_allFortunes_14 rfl 2 rfl ?_
    refine pa_callVi hE (ct_X7_fortune l g D q u0 x2 _ hw) cv_RX7_311 pa_in24 rfl rfl rfl (pa_hR (by omega) (by decide)) rfl (Nat.le_of_ble_eq_true rfl) dX7_allFortunes_15 (fun r2 u3 hw => ?_)
    refine pa_iadd hE dX7_allFortunes_18 ?_
    refine pa_namei (fun v4 ev4 => ?_)
    have hw := hw v4 ev4
    refine pa_istore_n hE dX7_allFortunes_19 rfl (by decide) (lvr := [(0, .ref (q 24 0)), (2, .int x2)]) rfl ?_
    refine pa_iinc hE dX7_allFortunes_20 (v := 1) 2 rfl (by decide) (by decide) (lvr := [(1, .int v4), (0, .ref (q 24 0))]) rfl (fun v5 ev5 => ?_)
    have hw := hw v5 ev5
    refine pa_goto hE dX7_allFortunes_23 (tgt := 4) (by decide) ?_
    exact pa_sub [2, 1, 0] rfl (hk4 u3 v4 v5 hw)
def wl_X7_allFortunes_4 (post : Int32 → pa_S → Prop) : Nat → pa_S → Int32 → Int32 → Prop
  | 0, _, _, _ => False
  | n + 1, u0, x1, x2 => wb_X7_allFortunes_4 (fun u0 x1 x2 => wl_X7_allFortunes_4 post n u0 x1 x2) u0 x1 x2 post
set_option maxRecDepth 100000 in
set_option maxHeartbeats 4000000 in
theorem tl_X7_allFortunes_4 {p : Program} {l : Launch} {e : Env} {s : State} {m : MethodId} {args : Array Value} {below : List Frame} {meth : Method} {c : Code} {A : Nat → Prop} {D : va_G} {g : pa_G} {q : Nat → Nat → Nat} {post : Int32 → pa_S → Prop} (hE : pa_Fx p s m args meth c A D g 3 cX7_allFortunes RX7) (hr : meth.sig.returnType = (some .int)) : ∀ (n : Nat) (u0 : pa_S) (x1 : Int32) (x2 : Int32), wl_X7_allFortunes_4 post n u0 x1 x2 → pa_At p l e (pa_rm 7) s m args below meth c (MQ below (pa_Qc g D q (fun r => some (.int r)) post A) args s 0 0 A) A D g 3 0 0 q u0 4 [(0, .ref (q 24 0)), (1, .int x1), (2, .int x2)] []
  | 0, _, _, _, hw => absurd hw (by simp only [wl_X7_allFortunes_4]; exact fun z => z)
  | n + 1, u0, x1, x2, hw => tb_X7_allFortunes_4 hE hr (fun u0 x1 x2  hw1 => tl_X7_allFortunes_4 hE hr  n u0 x1 x2  hw1) hw
def wb_X7_allFortunes_0 (u0 : pa_S) (post : Int32 → pa_S → Prop) : Prop :=
  wl_X7_allFortunes_4 post 5000 u0 0 0
set_option maxRecDepth 100000 in
set_option maxHeartbeats 4000000 in
theorem tb_X7_allFortunes_0 {p : Program} {l : Launch} {e : Env} {s : State} {m : MethodId} {args : Array Value} {below : List Frame} {meth : Method} {c : Code} {A : Nat → Prop} {D : va_G} {g : pa_G} {q : Nat → Nat → Nat} {u0 : pa_S} {post : Int32 → pa_S → Prop} (hE : pa_Fx p s m args meth c A D g 3 cX7_allFortunes RX7) (hr : meth.sig.returnType = (some .int)) (hw : wb_X7_allFortunes_0 u0 post) : pa_At p l e (pa_rm 7) s m args below meth c (MQ below (pa_Qc g D q (fun r => some (.int r)) post A) args s 0 0 A) A D g 3 0 0 q u0 0 [(0, .ref (q 24 0))] [] := by
  refine pa_iconst hE dX7_allFortunes_0 (v := 0) (by decide) ?_
  refine pa_istore_n hE dX7_allFortunes_1 rfl (by decide) (lvr := [(0, .ref (q 24 0))]) rfl ?_
  refine pa_iconst hE dX7_allFortunes_2 (v := 0) (by decide) ?_
  refine pa_istore_n hE dX7_allFortunes_3 rfl (by decide) (lvr := [(1, .int 0), (0, .ref (q 24 0))]) rfl ?_
  exact pa_sub [2, 1, 0] rfl (tl_X7_allFortunes_4 hE hr 5000 u0 0 0 hw)
def wp_X7_allFortunes (u0 : pa_S) (post : Int32 → pa_S → Prop) : Prop := wb_X7_allFortunes_0 u0 post
theorem ct_X7_allFortunes (l : Launch) (g : pa_G) (D : va_G) (q : Nat → Nat → Nat) (u0 : pa_S) (post : Int32 → pa_S → Prop)  (hw : wp_X7_allFortunes u0 post) : pa_Ct l yX7_allFortunes cX7_allFortunes 3 (some .int) 7 g D q u0 [.ref (q 24 0)] (fun r => some (.int r)) post := pa_met rfl rfl (Nat.le_of_ble_eq_true rfl) rfl (fun p e s m args below meth c A hE hr => tb_X7_allFortunes_0 hE hr  hw)
def wb_X7_allLengths_4 (k4 : Int32 → Int32 → Prop) (u0 : pa_S) (x1 : Int32) (x2 : Int32) (post : Int32 → Prop) : Prop :=
  (if (3 * (pa_I u0 24 0 0)) ≤ x2 then post x1 else (vp_in x2 15) ∧ ∀ v3 : Int32, v3 = (x1 + (pa_A u0 28 0 x2.toNatClampNeg)) → ∀ v4 : Int32, v4 = x2 + 1 → k4 v3 v4)
set_option maxRecDepth 100000 in
set_option maxHeartbeats 4000000 in
theorem tb_X7_allLengths_4 {p : Program} {l : Launch} {e : Env} {s : State} {m : MethodId} {args : Array Value} {below : List Frame} {meth : Method} {c : Code} {A : Nat → Prop} {D : va_G} {g : pa_G} {q : Nat → Nat → Nat} {k4 : Int32 → Int32 → Prop} {u0 : pa_S} {x1 : Int32} {x2 : Int32} {post : Int32 → Prop} (hE : pa_Fx p s m args meth c A D g 3 cX7_allLengths RX7) (hr : meth.sig.returnType = (some .int)) (hk4 : ∀ (x1 : Int32) (x2 : Int32), k4 x1 x2 → pa_At p l e (pa_rm 2) s m args below meth c (MQ below (pa_Qc g D q (fun r => some (.int r)) (fun r u => u = u0 ∧ post r) A) args s 0 0 A) A D g 3 0 0 q u0 4 [(0, .ref (q 24 0)), (1, .int x1), (2, .int x2)] []) (hw : wb_X7_allLengths_4 k4 u0 x1 x2 post) : pa_At p l e (pa_rm 2) s m args below meth c (MQ below (pa_Qc g D q (fun r => some (.int r)) (fun r u => u = u0 ∧ post r) A) args s 0 0 A) A D g 3 0 0 q u0 4 [(0, .ref (q 24 0)), (1, .int x1), (2, .int x2)] [] := by
  refine pa_iload_n hE dX7_allLengths_4 rfl 2 rfl ?_
  refine pa_iconst hE dX7_allLengths_5 (v := 3) (by decide) ?_
  refine pa_aload_n hE dX7_allLengths_6 rfl 0 rfl ?_
  refine pg_24_0 hE (pa_m4 121 rfl rfl) dX7_allLengths_7 ?_
  refine pa_imul hE dX7_allLengths_10 ?_
  refine pa_icmp_ge hE dX7_allLengths_11 (tgt := 29) (by decide) (fun h1 => ?_) (fun h1 => ?_)
  · have hw := Eq.mp (if_pos h1) hw
    refine pa_iload_n hE dX7_allLengths_29 rfl 1 rfl ?_
    exact pa_iret hE hr ⟨rfl, hw⟩ rfl dX7_allLengths_30
  · have hw := Eq.mp (if_neg h1) hw
    refine pa_iload_n hE dX7_allLengths_14 rfl 1 rfl ?_
    refine pa_aload_n hE dX7_allLengths_15 rfl 0 rfl ?_
    refine pg_24_6 hE (pa_m4 127 rfl rfl) dX7_allLengths_16 ?_
    refine pa_iload_n hE dX7_allLengths_19 rfl 2 rfl ?_
    obtain ⟨h2, hw⟩ := hw
    refine pl_28 hE h2 dX7_allLengths_20 ?_
    refine pa_iadd hE dX7_allLengths_21 ?_
    refine pa_namei (fun v3 ev3 => ?_)
    have hw := hw v3 ev3
    refine pa_istore_n hE dX7_allLengths_22 rfl (by decide) (lvr := [(0, .ref (q 24 0)), (2, .int x2)]) rfl ?_
    refine pa_iinc hE dX7_allLengths_23 (v := 1) 2 rfl (by decide) (by decide) (lvr := [(1, .int v3), (0, .ref (q 24 0))]) rfl (fun v4 ev4 => ?_)
    have hw := hw v4 ev4
    refine pa_goto hE dX7_allLengths_26 (tgt := 4) (by decide) ?_
    exact pa_sub [2, 1, 0] rfl (hk4 v3 v4 hw)
def wl_X7_allLengths_4 (post : Int32 → Prop) (u0 : pa_S) : Nat → Int32 → Int32 → Prop
  | 0, _, _ => False
  | n + 1, x1, x2 => wb_X7_allLengths_4 (fun x1 x2 => wl_X7_allLengths_4 post u0 n x1 x2) u0 x1 x2 post
set_option maxRecDepth 100000 in
set_option maxHeartbeats 4000000 in
theorem tl_X7_allLengths_4 {p : Program} {l : Launch} {e : Env} {s : State} {m : MethodId} {args : Array Value} {below : List Frame} {meth : Method} {c : Code} {A : Nat → Prop} {D : va_G} {g : pa_G} {q : Nat → Nat → Nat} {u0 : pa_S} {post : Int32 → Prop} (hE : pa_Fx p s m args meth c A D g 3 cX7_allLengths RX7) (hr : meth.sig.returnType = (some .int)) : ∀ (n : Nat) (x1 : Int32) (x2 : Int32), wl_X7_allLengths_4 post u0 n x1 x2 → pa_At p l e (pa_rm 2) s m args below meth c (MQ below (pa_Qc g D q (fun r => some (.int r)) (fun r u => u = u0 ∧ post r) A) args s 0 0 A) A D g 3 0 0 q u0 4 [(0, .ref (q 24 0)), (1, .int x1), (2, .int x2)] []
  | 0, _, _, hw => absurd hw (by simp only [wl_X7_allLengths_4]; exact fun z => z)
  | n + 1, x1, x2, hw => tb_X7_allLengths_4 hE hr (fun x1 x2  hw1 => tl_X7_allLengths_4 hE hr  n x1 x2  hw1) hw
def wb_X7_allLengths_0 (u0 : pa_S) (post : Int32 → Prop) : Prop :=
  wl_X7_allLengths_4 post u0 5000 0 0
set_option maxRecDepth 100000 in
set_option maxHeartbeats 4000000 in
theorem tb_X7_allLengths_0 {p : Program} {l : Launch} {e : Env} {s : State} {m : MethodId} {args : Array Value} {below : List Frame} {meth : Method} {c : Code} {A : Nat → Prop} {D : va_G} {g : pa_G} {q : Nat → Nat → Nat} {u0 : pa_S} {post : Int32 → Prop} (hE : pa_Fx p s m args meth c A D g 3 cX7_allLengths RX7) (hr : meth.sig.returnType = (some .int)) (hw : wb_X7_allLengths_0 u0 post) : pa_At p l e (pa_rm 2) s m args below meth c (MQ below (pa_Qc g D q (fun r => some (.int r)) (fun r u => u = u0 ∧ post r) A) args s 0 0 A) A D g 3 0 0 q u0 0 [(0, .ref (q 24 0))] [] := by
  refine pa_iconst hE dX7_allLengths_0 (v := 0) (by decide) ?_
  refine pa_istore_n hE dX7_allLengths_1 rfl (by decide) (lvr := [(0, .ref (q 24 0))]) rfl ?_
  refine pa_iconst hE dX7_allLengths_2 (v := 0) (by decide) ?_
  refine pa_istore_n hE dX7_allLengths_3 rfl (by decide) (lvr := [(1, .int 0), (0, .ref (q 24 0))]) rfl ?_
  exact pa_sub [2, 1, 0] rfl (tl_X7_allLengths_4 hE hr 5000 0 0 hw)
def wp_X7_allLengths (u0 : pa_S) (post : Int32 → Prop) : Prop := wb_X7_allLengths_0 u0 post
theorem ct_X7_allLengths (l : Launch) (g : pa_G) (D : va_G) (q : Nat → Nat → Nat) (u0 : pa_S) (post : Int32 → Prop)  (hw : wp_X7_allLengths u0 post) : pa_Ct l yX7_allLengths cX7_allLengths 3 (some .int) 2 g D q u0 [.ref (q 24 0)] (fun r => some (.int r)) (fun r u => u = u0 ∧ post r) := pa_met rfl rfl (Nat.le_of_ble_eq_true rfl) rfl (fun p e s m args below meth c A hE hr => tb_X7_allLengths_0 hE hr  hw)
def wb_X7_fades_0 (u0 : pa_S) (x1 : Int32) (post : Int32 → Prop) : Prop :=
  (vp_in x1 5) ∧ (if (pa_A u0 25 0 x1.toNatClampNeg) = 1 then post 2 else (if (pa_A u0 25 0 x1.toNatClampNeg) = 2 then (vp_in x1 5) ∧ post (pa_rem (pa_A u0 26 0 x1.toNatClampNeg) 2) else (if (pa_A u0 25 0 x1.toNatClampNeg) = 3 then post (pa_rem (pa_I u0 24 0 1) 2) else (if (pa_A u0 25 0 x1.toNatClampNeg) = 4 then post 1 else (if (pa_A u0 25 0 x1.toNatClampNeg) = 5 then (vp_in x1 5) ∧ post ((pa_rem (pa_A u0 26 0 x1.toNatClampNeg) 2) + 1) else (if (pa_A u0 25 0 x1.toNatClampNeg) = 6 then (vp_in ((4 * x1) + (pa_rem (pa_I u0 24 0 1) 4)) 20) ∧ post ((pa_rem (pa_I u0 24 0 1) 2) + (pa_A u0 29 0 ((4 * x1) + (pa_rem (pa_I u0 24 0 1) 4)).toNatClampNeg)) else post 1))))))
set_option maxRecDepth 100000 in
set_option maxHeartbeats 4000000 in
theorem tb_X7_fades_0 {p : Program} {l : Launch} {e : Env} {s : State} {m : MethodId} {args : Array Value} {below : List Frame} {meth : Method} {c : Code} {A : Nat → Prop} {D : va_G} {g : pa_G} {q : Nat → Nat → Nat} {u0 : pa_S} {x1 : Int32} {post : Int32 → Prop} (hE : pa_Fx p s m args meth c A D g 2 cX7_fades RX7) (hr : meth.sig.returnType = (some .int)) (hw : wb_X7_fades_0 u0 x1 post) : pa_At p l e (pa_rm 2) s m args below meth c (MQ below (pa_Qc g D q (fun r => some (.int r)) (fun r u => u = u0 ∧ post r) A) args s 0 0 A) A D g 2 0 0 q u0 0 [(0, .ref (q 24 0)), (1, .int x1)] [] := by
  refine pa_aload_n hE dX7_fades_0 rfl 0 rfl ?_
  refine pg_24_3 hE (pa_m4 124 rfl rfl) dX7_fades_1 ?_
  refine pa_iload_n hE dX7_fades_4 rfl 1 rfl ?_
  obtain ⟨h1, hw⟩ := hw
  refine pl_25 hE h1 dX7_fades_5 ?_
  by_cases h2 : (pa_A u0 25 0 x1.toNatClampNeg) = 1
  · have hw := Eq.mp (if_pos h2) hw
    refine pa_tswIn hE dX7_fades_6 (z := 1) h2 (by decide) (by decide) rfl (tgt := 44) (by decide) ?_
    refine pa_iconst hE dX7_fades_44 (v := 2) (by decide) ?_
    exact pa_iret hE hr ⟨rfl, hw⟩ rfl dX7_fades_45
  · have hw := Eq.mp (if_neg h2) hw
    by_cases h3 : (pa_A u0 25 0 x1.toNatClampNeg) = 2
    · have hw := Eq.mp (if_pos h3) hw
      refine pa_tswIn hE dX7_fades_6 (z := 2) h3 (by decide) (by decide) rfl (tgt := 46) (by decide) ?_
      refine pa_aload_n hE dX7_fades_46 rfl 0 rfl ?_
      refine pg_24_4 hE (pa_m4 125 rfl rfl) dX7_fades_47 ?_
      refine pa_iload_n hE dX7_fades_50 rfl 1 rfl ?_
      obtain ⟨h8, hw⟩ := hw
      refine pl_26 hE h8 dX7_fades_51 ?_
      refine pa_iconst hE dX7_fades_52 (v := 2) (by decide) ?_
      refine pa_irem hE dX7_fades_53 (by decide) ?_
      exact pa_iret hE hr ⟨rfl, hw⟩ rfl dX7_fades_54
    · have hw := Eq.mp (if_neg h3) hw
      by_cases h4 : (pa_A u0 25 0 x1.toNatClampNeg) = 3
      · have hw := Eq.mp (if_pos h4) hw
        refine pa_tswIn hE dX7_fades_6 (z := 3) h4 (by decide) (by decide) rfl (tgt := 55) (by decide) ?_
        refine pa_aload_n hE dX7_fades_55 rfl 0 rfl ?_
        refine pg_24_1 hE (pa_m4 122 rfl rfl) dX7_fades_56 ?_
        refine pa_iconst hE dX7_fades_59 (v := 2) (by decide) ?_
        refine pa_irem hE dX7_fades_60 (by decide) ?_
        exact pa_iret hE hr ⟨rfl, hw⟩ rfl dX7_fades_61
      · have hw := Eq.mp (if_neg h4) hw
        by_cases h5 : (pa_A u0 25 0 x1.toNatClampNeg) = 4
        · have hw := Eq.mp (if_pos h5) hw
          refine pa_tswIn hE dX7_fades_6 (z := 4) h5 (by decide) (by decide) rfl (tgt := 96) (by decide) ?_
          refine pa_iconst hE dX7_fades_96 (v := 1) (by decide) ?_
          exact pa_iret hE hr ⟨rfl, hw⟩ rfl dX7_fades_97
        · have hw := Eq.mp (if_neg h5) hw
          by_cases h6 : (pa_A u0 25 0 x1.toNatClampNeg) = 5
          · have hw := Eq.mp (if_pos h6) hw
            refine pa_tswIn hE dX7_fades_6 (z := 5) h6 (by decide) (by decide) rfl (tgt := 62) (by decide) ?_
            refine pa_aload_n hE dX7_fades_62 rfl 0 rfl ?_
            refine pg_24_4 hE (pa_m4 125 rfl rfl) dX7_fades_63 ?_
            refine pa_iload_n hE dX7_fades_66 rfl 1 rfl ?_
            obtain ⟨h9, hw⟩ := hw
            refine pl_26 hE h9 dX7_fades_67 ?_
            refine pa_iconst hE dX7_fades_68 (v := 2) (by decide) ?_
            refine pa_irem hE dX7_fades_69 (by decide) ?_
            refine pa_iconst hE dX7_fades_70 (v := 1) (by decide) ?_
            refine pa_iadd hE dX7_fades_71 ?_
            exact pa_iret hE hr ⟨rfl, hw⟩ rfl dX7_fades_72
          · have hw := Eq.mp (if_neg h6) hw
            by_cases h7 : (pa_A u0 25 0 x1.toNatClampNeg) = 6
            · have hw := Eq.mp (if_pos h7) hw
              refine pa_tswIn hE dX7_fades_6 (z := 6) h7 (by decide) (by decide) rfl (tgt := 73) (by decide) ?_
              refine pa_aload_n hE dX7_fades_73 rfl 0 rfl ?_
              refine pg_24_1 hE (pa_m4 122 rfl rfl) dX7_fades_74 ?_
              refine pa_iconst hE dX7_fades_77 (v := 2) (by decide) ?_
              refine pa_irem hE dX7_fades_78 (by decide) ?_
              refine pa_aload_n hE dX7_fades_79 rfl 0 rfl ?_
              refine pg_24_7 hE (pa_m4 128 rfl rfl) dX7_fades_80 ?_
              refine pa_iconst hE dX7_fades_83 (v := 4) (by decide) ?_
              refine pa_iload_n hE dX7_fades_84 rfl 1 rfl ?_
              refine pa_imul hE dX7_fades_85 ?_
              refine pa_aload_n hE dX7_fades_86 rfl 0 rfl ?_
              refine pg_24_1 hE (pa_m4 122 rfl rfl) dX7_fades_87 ?_
              refine pa_iconst hE dX7_fades_90 (v := 4) (by decide) ?_
              refine pa_irem hE dX7_fades_91 (by decide) ?_
              refine pa_iadd hE dX7_fades_92 ?_
              obtain ⟨h10, hw⟩ := hw
              refine pl_29 hE h10 dX7_fades_93 ?_
              refine pa_iadd hE dX7_fades_94 ?_
              exact pa_iret hE hr ⟨rfl, hw⟩ rfl dX7_fades_95
            · have hw := Eq.mp (if_neg h7) hw
              refine pa_tswOut hE dX7_fades_6 (by have eh2 := pa_neL h2 (by decide : (1 : Int32).toInt = 1); have eh3 := pa_neL h3 (by decide : (2 : Int32).toInt = 2); have eh4 := pa_neL h4 (by decide : (3 : Int32).toInt = 3); have eh5 := pa_neL h5 (by decide : (4 : Int32).toInt = 4); have eh6 := pa_neL h6 (by decide : (5 : Int32).toInt = 5); have eh7 := pa_neL h7 (by decide : (6 : Int32).toInt = 6); omega) (tgt := 96) (by decide) ?_
              refine pa_iconst hE dX7_fades_96 (v := 1) (by decide) ?_
              exact pa_iret hE hr ⟨rfl, hw⟩ rfl dX7_fades_97
def wp_X7_fades (u0 : pa_S) (x1 : Int32) (post : Int32 → Prop) : Prop := wb_X7_fades_0 u0 x1 post
theorem ct_X7_fades (l : Launch) (g : pa_G) (D : va_G) (q : Nat → Nat → Nat) (u0 : pa_S) (x1 : Int32) (post : Int32 → Prop)  (hw : wp_X7_fades u0 x1 post) : pa_Ct l yX7_fades cX7_fades 2 (some .int) 2 g D q u0 [.ref (q 24 0), .int x1] (fun r => some (.int r)) (fun r u => u = u0 ∧ post r) := pa_met rfl rfl (Nat.le_of_ble_eq_true rfl) rfl (fun p e s m args below meth c A hE hr => tb_X7_fades_0 hE hr  hw)
def wb_X7_of_0 (u0 : pa_S) (x1 : Int32) (x2 : Int32) (post : Int32 → pa_S → Prop) : Prop :=
  (wp_X7_isHand u0 x1 (fun (r1 : Int32) => (if r1 = 0 then post (-1001 : Int32) u0 else (wp_X7_in u0 x2 10 12 (fun (r3 : Int32) => (if r3 = 0 then (wp_X7_in u0 x2 20 22 (fun (r5 : Int32) => (if r5 = 0 then (wp_X7_in u0 x2 30 32 (fun (r7 : Int32) => (if r7 = 0 then (if x2 = 0 then (vp_in x1 5) ∧ post (pa_A u0 25 0 x1.toNatClampNeg) u0 else (if x2 = 1 then (vp_in x1 5) ∧ post (pa_A u0 26 0 x1.toNatClampNeg) u0 else (if x2 = 2 then (vp_in x1 5) ∧ post (pa_A u0 27 0 x1.toNatClampNeg) u0 else (if x2 = 3 then (wp_X7_fortune u0 x1 (fun (r17 : Int32) (u18 : pa_S) => post r17 u18)) else (if x2 = 4 then (wp_X7_fades u0 x1 (fun (r19 : Int32) => post r19 u0)) else post (-1001 : Int32) u0))))) else (wp_X7_worth u0 x1 (x2 - 30) (fun (r20 : Int32) (u21 : pa_S) => post r20 u21))))) else (wp_X7_grace u0 x1 (x2 - 20) (fun (r22 : Int32) (u23 : pa_S) => post r22 u23))))) else (vp_in (((3 * x1) + x2) - 10) 15) ∧ post (pa_A u0 28 0 (((3 * x1) + x2) - 10).toNatClampNeg) u0))))))
set_option maxRecDepth 100000 in
set_option maxHeartbeats 4000000 in
theorem tb_X7_of_0 {p : Program} {l : Launch} {e : Env} {s : State} {m : MethodId} {args : Array Value} {below : List Frame} {meth : Method} {c : Code} {A : Nat → Prop} {D : va_G} {g : pa_G} {q : Nat → Nat → Nat} {u0 : pa_S} {x1 : Int32} {x2 : Int32} {post : Int32 → pa_S → Prop} (hE : pa_Fx p s m args meth c A D g 3 cX7_of RX7) (hr : meth.sig.returnType = (some .int)) (hw : wb_X7_of_0 u0 x1 x2 post) : pa_At p l e (pa_rm 7) s m args below meth c (MQ below (pa_Qc g D q (fun r => some (.int r)) post A) args s 0 0 A) A D g 3 0 0 q u0 0 [(0, .ref (q 24 0)), (1, .int x1), (2, .int x2)] [] := by
  refine pa_aload_n hE dX7_of_0 rfl 0 rfl ?_
  refine pa_iload_n hE dX7_of_1 rfl 1 rfl ?_
  refine pa_callVri hE (ct_X7_isHand l g D q u0 x1 _ hw) cv_RX7_229 pa_in24 rfl rfl rfl (pa_hR (by omega) (by decide)) rfl (Nat.le_of_ble_eq_true rfl) dX7_of_2 (fun r1 hw => ?_)
  refine pa_if_ne hE dX7_of_5 (tgt := 12) (by decide) (fun h2 => ?_) (fun h2 => ?_)
  · have hw := Eq.mp (if_neg h2) hw
    refine pa_aload_n hE dX7_of_12 rfl 0 rfl ?_
    refine pa_iload_n hE dX7_of_13 rfl 2 rfl ?_
    refine pa_bipush hE dX7_of_14 (v := 10) (by decide) ?_
    refine pa_bipush hE dX7_of_16 (v := 12) (by decide) ?_
    refine pa_callVri hE (ct_X7_in l g D q u0 x2 10 12 _ hw) cv_RX7_221 pa_in24 rfl rfl rfl (pa_hR (by omega) (by decide)) rfl (Nat.le_of_ble_eq_true rfl) dX7_of_18 (fun r3 hw => ?_)
    refine pa_if_eq hE dX7_of_21 (tgt := 38) (by decide) (fun h4 => ?_) (fun h4 => ?_)
    · have hw := Eq.mp (if_pos h4) hw
      refine pa_aload_n hE dX7_of_38 rfl 0 rfl ?_
      refine pa_iload_n hE dX7_of_39 rfl 2 rfl ?_
      refine pa_bipush hE dX7_of_40 (v := 20) (by decide) ?_
      refine pa_bipush hE dX7_of_42 (v := 22) (by decide) ?_
      refine pa_callVri hE (ct_X7_in l g D q u0 x2 20 22 _ hw) cv_RX7_221 pa_in24 rfl rfl rfl (pa_hR (by omega) (by decide)) rfl (Nat.le_of_ble_eq_true rfl) dX7_of_44 (fun r5 hw => ?_)
      refine pa_if_eq hE dX7_of_47 (tgt := 60) (by decide) (fun h6 => ?_) (fun h6 => ?_)
      · have hw := Eq.mp (if_pos h6) hw
        refine pa_aload_n hE dX7_of_60 rfl 0 rfl ?_
        refine pa_iload_n hE dX7_of_61 rfl 2 rfl ?_
        refine pa_bipush hE dX7_of_62 (v := 30) (by decide) ?_
        refine pa_bipush hE dX7_of_64 (v := 32) (by decide) ?_
        refine pa_callVri hE (ct_X7_in l g D q u0 x2 30 32 _ hw) cv_RX7_221 pa_in24 rfl rfl rfl (pa_hR (by omega) (by decide)) rfl (Nat.le_of_ble_eq_true rfl) dX7_of_66 (fun r7 hw => ?_)
        refine pa_if_eq hE dX7_of_69 (tgt := 82) (by decide) (fun h8 => ?_) (fun h8 => ?_)
        · have hw := Eq.mp (if_pos h8) hw
          refine pa_iload_n hE dX7_of_82 rfl 2 rfl ?_
          by_cases h9 : x2 = 0
          · have hw := Eq.mp (if_pos h9) hw
            refine pa_tswIn hE dX7_of_83 (z := 0) h9 (by decide) (by decide) rfl (tgt := 116) (by decide) ?_
            refine pa_aload_n hE dX7_of_116 rfl 0 rfl ?_
            refine pg_24_3 hE (pa_m4 124 rfl rfl) dX7_of_117 ?_
            refine pa_iload_n hE dX7_of_120 rfl 1 rfl ?_
            obtain ⟨h14, hw⟩ := hw
            refine pl_25 hE h14 dX7_of_121 ?_
            exact pa_iret hE hr hw rfl dX7_of_122
          · have hw := Eq.mp (if_neg h9) hw
            by_cases h10 : x2 = 1
            · have hw := Eq.mp (if_pos h10) hw
              refine pa_tswIn hE dX7_of_83 (z := 1) h10 (by decide) (by decide) rfl (tgt := 123) (by decide) ?_
              refine pa_aload_n hE dX7_of_123 rfl 0 rfl ?_
              refine pg_24_4 hE (pa_m4 125 rfl rfl) dX7_of_124 ?_
              refine pa_iload_n hE dX7_of_127 rfl 1 rfl ?_
              obtain ⟨h15, hw⟩ := hw
              refine pl_26 hE h15 dX7_of_128 ?_
              exact pa_iret hE hr hw rfl dX7_of_129
            · have hw := Eq.mp (if_neg h10) hw
              by_cases h11 : x2 = 2
              · have hw := Eq.mp (if_pos h11) hw
                refine pa_tswIn hE dX7_of_83 (z := 2) h11 (by decide) (by decide) rfl (tgt := 130) (by decide) ?_
                refine pa_aload_n hE dX7_of_130 rfl 0 rfl ?_
                refine pg_24_5 hE (pa_m4 126 rfl rfl) dX7_of_131 ?_
                refine pa_iload_n hE dX7_of_134 rfl 1 rfl ?_
                obtain ⟨h16, hw⟩ := hw
                refine pl_27 hE h16 dX7_of_135 ?_
                exact pa_iret hE hr hw rfl dX7_of_136
              · have hw := Eq.mp (if_neg h11) hw
                by_cases h12 : x2 = 3
                · have hw := Eq.mp (if_pos h12) hw
                  refine pa_tswIn hE dX7_of_83 (z := 3) h12 (by decide) (by decide) rfl (tgt := 137) (by decide) ?_
                  refine pa_aload_n hE dX7_of_137 rfl 0 rfl ?_
                  refine pa_iload_n hE dX7_of_138 rfl 1 rfl ?_
                  refine pa_callVi hE (ct_X7_fortune l g D q u0 x1 _ hw) cv_RX7_311 pa_in24 rfl rfl rfl (pa_hR (by omega) (by decide)) rfl (Nat.le_of_ble_eq_true rfl) dX7_of_139 (fun r17 u18 hw => ?_)
                  exact pa_iret hE hr hw rfl dX7_of_142
                · have hw := Eq.mp (if_neg h12) hw
                  by_cases h13 : x2 = 4
                  · have hw := Eq.mp (if_pos h13) hw
                    refine pa_tswIn hE dX7_of_83 (z := 4) h13 (by decide) (by decide) rfl (tgt := 143) (by decide) ?_
                    refine pa_aload_n hE dX7_of_143 rfl 0 rfl ?_
                    refine pa_iload_n hE dX7_of_144 rfl 1 rfl ?_
                    refine pa_callVri hE (ct_X7_fades l g D q u0 x1 _ hw) cv_RX7_314 pa_in24 rfl rfl rfl (pa_hR (by omega) (by decide)) rfl (Nat.le_of_ble_eq_true rfl) dX7_of_145 (fun r19 hw => ?_)
                    exact pa_iret hE hr hw rfl dX7_of_148
                  · have hw := Eq.mp (if_neg h13) hw
                    refine pa_tswOut hE dX7_of_83 (by have eh9 := pa_neL h9 (by decide : (0 : Int32).toInt = 0); have eh10 := pa_neL h10 (by decide : (1 : Int32).toInt = 1); have eh11 := pa_neL h11 (by decide : (2 : Int32).toInt = 2); have eh12 := pa_neL h12 (by decide : (3 : Int32).toInt = 3); have eh13 := pa_neL h13 (by decide : (4 : Int32).toInt = 4); omega) (tgt := 149) (by decide) ?_
                    refine pa_sipush hE dX7_of_149 (v := (-1001 : Int32)) (by decide) ?_
                    exact pa_iret hE hr hw rfl dX7_of_152
        · have hw := Eq.mp (if_neg h8) hw
          refine pa_aload_n hE dX7_of_72 rfl 0 rfl ?_
          refine pa_iload_n hE dX7_of_73 rfl 1 rfl ?_
          refine pa_iload_n hE dX7_of_74 rfl 2 rfl ?_
          refine pa_bipush hE dX7_of_75 (v := 30) (by decide) ?_
          refine pa_isub hE dX7_of_77 ?_
          refine pa_callVi hE (ct_X7_worth l g D q u0 x1 (x2 - 30) _ hw) cv_RX7_308 pa_in24 rfl rfl rfl (pa_hR (by omega) (by decide)) rfl (Nat.le_of_ble_eq_true rfl) dX7_of_78 (fun r20 u21 hw => ?_)
          exact pa_iret hE hr hw rfl dX7_of_81
      · have hw := Eq.mp (if_neg h6) hw
        refine pa_aload_n hE dX7_of_50 rfl 0 rfl ?_
        refine pa_iload_n hE dX7_of_51 rfl 1 rfl ?_
        refine pa_iload_n hE dX7_of_52 rfl 2 rfl ?_
        refine pa_bipush hE dX7_of_53 (v := 20) (by decide) ?_
        refine pa_isub hE dX7_of_55 ?_
        refine pa_callVi hE (ct_X7_grace l g D q u0 x1 (x2 - 20) _ hw) cv_RX7_302 pa_in24 rfl rfl rfl (pa_hR (by omega) (by decide)) rfl (Nat.le_of_ble_eq_true rfl) dX7_of_56 (fun r22 u23 hw => ?_)
        exact pa_iret hE hr hw rfl dX7_of_59
    · have hw := Eq.mp (if_neg h4) hw
      refine pa_aload_n hE dX7_of_24 rfl 0 rfl ?_
      refine pg_24_6 hE (pa_m4 127 rfl rfl) dX7_of_25 ?_
      refine pa_iconst hE dX7_of_28 (v := 3) (by decide) ?_
      refine pa_iload_n hE dX7_of_29 rfl 1 rfl ?_
      refine pa_imul hE dX7_of_30 ?_
      refine pa_iload_n hE dX7_of_31 rfl 2 rfl ?_
      refine pa_iadd hE dX7_of_32 ?_
      refine pa_bipush hE dX7_of_33 (v := 10) (by decide) ?_
      refine pa_isub hE dX7_of_35 ?_
      obtain ⟨h24, hw⟩ := hw
      refine pl_28 hE h24 dX7_of_36 ?_
      exact pa_iret hE hr hw rfl dX7_of_37
  · have hw := Eq.mp (if_pos h2) hw
    refine pa_sipush hE dX7_of_8 (v := (-1001 : Int32)) (by decide) ?_
    exact pa_iret hE hr hw rfl dX7_of_11
def wp_X7_of (u0 : pa_S) (x1 : Int32) (x2 : Int32) (post : Int32 → pa_S → Prop) : Prop := wb_X7_of_0 u0 x1 x2 post
theorem ct_X7_of (l : Launch) (g : pa_G) (D : va_G) (q : Nat → Nat → Nat) (u0 : pa_S) (x1 : Int32) (x2 : Int32) (post : Int32 → pa_S → Prop)  (hw : wp_X7_of u0 x1 x2 post) : pa_Ct l yX7_of cX7_of 3 (some .int) 7 g D q u0 [.ref (q 24 0), .int x1, .int x2] (fun r => some (.int r)) post := pa_met rfl rfl (Nat.le_of_ble_eq_true rfl) rfl (fun p e s m args below meth c A hE hr => tb_X7_of_0 hE hr  hw)
def wb_X7_told_0 (u0 : pa_S) (x1 : Int32) (post : Int32 → pa_S → Prop) : Prop :=
  (if x1 = 0 then post (pa_I u0 24 0 1) u0 else (if x1 = 1 then (wp_X7_room u0 (fun (r7 : Int32) => post r7 u0)) else (if x1 = 2 then (wp_X7_press u0 (fun (r8 : Int32) => post r8 u0)) else (if x1 = 3 then post (pa_I u0 24 0 2) u0 else (if x1 = 4 then (wp_X7_allFortunes u0 (fun (r9 : Int32) (u10 : pa_S) => post r9 u10)) else (if x1 = 5 then (wp_X7_allLengths u0 (fun (r11 : Int32) => post r11 u0)) else post (-1 : Int32) u0))))))
set_option maxRecDepth 100000 in
set_option maxHeartbeats 4000000 in
theorem tb_X7_told_0 {p : Program} {l : Launch} {e : Env} {s : State} {m : MethodId} {args : Array Value} {below : List Frame} {meth : Method} {c : Code} {A : Nat → Prop} {D : va_G} {g : pa_G} {q : Nat → Nat → Nat} {u0 : pa_S} {x1 : Int32} {post : Int32 → pa_S → Prop} (hE : pa_Fx p s m args meth c A D g 2 cX7_told RX7) (hr : meth.sig.returnType = (some .int)) (hw : wb_X7_told_0 u0 x1 post) : pa_At p l e (pa_rm 8) s m args below meth c (MQ below (pa_Qc g D q (fun r => some (.int r)) post A) args s 0 0 A) A D g 2 0 0 q u0 0 [(0, .ref (q 24 0)), (1, .int x1)] [] := by
  refine pa_iload_n hE dX7_told_0 rfl 1 rfl ?_
  by_cases h1 : x1 = 0
  · have hw := Eq.mp (if_pos h1) hw
    refine pa_tswIn hE dX7_told_1 (z := 0) h1 (by decide) (by decide) rfl (tgt := 40) (by decide) ?_
    refine pa_aload_n hE dX7_told_40 rfl 0 rfl ?_
    refine pg_24_1 hE (pa_m4 122 rfl rfl) dX7_told_41 ?_
    exact pa_iret hE hr hw rfl dX7_told_44
  · have hw := Eq.mp (if_neg h1) hw
    by_cases h2 : x1 = 1
    · have hw := Eq.mp (if_pos h2) hw
      refine pa_tswIn hE dX7_told_1 (z := 1) h2 (by decide) (by decide) rfl (tgt := 45) (by decide) ?_
      refine pa_aload_n hE dX7_told_45 rfl 0 rfl ?_
      refine pa_callVri hE (ct_X7_room l g D q u0 _ hw) cv_RX7_317 pa_in24 rfl rfl rfl (pa_hR (by omega) (by decide)) rfl (Nat.le_of_ble_eq_true rfl) dX7_told_46 (fun r7 hw => ?_)
      exact pa_iret hE hr hw rfl dX7_told_49
    · have hw := Eq.mp (if_neg h2) hw
      by_cases h3 : x1 = 2
      · have hw := Eq.mp (if_pos h3) hw
        refine pa_tswIn hE dX7_told_1 (z := 2) h3 (by decide) (by decide) rfl (tgt := 50) (by decide) ?_
        refine pa_aload_n hE dX7_told_50 rfl 0 rfl ?_
        refine pa_callVri hE (ct_X7_press l g D q u0 _ hw) cv_RX7_320 pa_in24 rfl rfl rfl (pa_hR (by omega) (by decide)) rfl (Nat.le_of_ble_eq_true rfl) dX7_told_51 (fun r8 hw => ?_)
        exact pa_iret hE hr hw rfl dX7_told_54
      · have hw := Eq.mp (if_neg h3) hw
        by_cases h4 : x1 = 3
        · have hw := Eq.mp (if_pos h4) hw
          refine pa_tswIn hE dX7_told_1 (z := 3) h4 (by decide) (by decide) rfl (tgt := 55) (by decide) ?_
          refine pa_aload_n hE dX7_told_55 rfl 0 rfl ?_
          refine pg_24_2 hE (pa_m4 123 rfl rfl) dX7_told_56 ?_
          exact pa_iret hE hr hw rfl dX7_told_59
        · have hw := Eq.mp (if_neg h4) hw
          by_cases h5 : x1 = 4
          · have hw := Eq.mp (if_pos h5) hw
            refine pa_tswIn hE dX7_told_1 (z := 4) h5 (by decide) (by decide) rfl (tgt := 60) (by decide) ?_
            refine pa_aload_n hE dX7_told_60 rfl 0 rfl ?_
            refine pa_callVi hE (ct_X7_allFortunes l g D q u0 _ hw) cv_RX7_323 pa_in24 rfl rfl rfl (pa_hR (by omega) (by decide)) rfl (Nat.le_of_ble_eq_true rfl) dX7_told_61 (fun r9 u10 hw => ?_)
            exact pa_iret hE hr hw rfl dX7_told_64
          · have hw := Eq.mp (if_neg h5) hw
            by_cases h6 : x1 = 5
            · have hw := Eq.mp (if_pos h6) hw
              refine pa_tswIn hE dX7_told_1 (z := 5) h6 (by decide) (by decide) rfl (tgt := 65) (by decide) ?_
              refine pa_aload_n hE dX7_told_65 rfl 0 rfl ?_
              refine pa_callVri hE (ct_X7_allLengths l g D q u0 _ hw) cv_RX7_326 pa_in24 rfl rfl rfl (pa_hR (by omega) (by decide)) rfl (Nat.le_of_ble_eq_true rfl) dX7_told_66 (fun r11 hw => ?_)
              exact pa_iret hE hr hw rfl dX7_told_69
            · have hw := Eq.mp (if_neg h6) hw
              refine pa_tswOut hE dX7_told_1 (by have eh1 := pa_neL h1 (by decide : (0 : Int32).toInt = 0); have eh2 := pa_neL h2 (by decide : (1 : Int32).toInt = 1); have eh3 := pa_neL h3 (by decide : (2 : Int32).toInt = 2); have eh4 := pa_neL h4 (by decide : (3 : Int32).toInt = 3); have eh5 := pa_neL h5 (by decide : (4 : Int32).toInt = 4); have eh6 := pa_neL h6 (by decide : (5 : Int32).toInt = 5); omega) (tgt := 70) (by decide) ?_
              refine pa_iconst hE dX7_told_70 (v := (-1 : Int32)) (by decide) ?_
              exact pa_iret hE hr hw rfl dX7_told_71
def wp_X7_told (u0 : pa_S) (x1 : Int32) (post : Int32 → pa_S → Prop) : Prop := wb_X7_told_0 u0 x1 post
theorem ct_X7_told (l : Launch) (g : pa_G) (D : va_G) (q : Nat → Nat → Nat) (u0 : pa_S) (x1 : Int32) (post : Int32 → pa_S → Prop)  (hw : wp_X7_told u0 x1 post) : pa_Ct l yX7_told cX7_told 2 (some .int) 8 g D q u0 [.ref (q 24 0), .int x1] (fun r => some (.int r)) post := pa_met rfl rfl (Nat.le_of_ble_eq_true rfl) rfl (fun p e s m args below meth c A hE hr => tb_X7_told_0 hE hr  hw)
def wb_X7_draws_0 (u0 : pa_S) (x1 : Int32) (x2 : Int32) (x3 : Int32) (post : Int32 → pa_S → Prop) : Prop :=
  (wp_X7_least u0 x3 (pa_I u0 24 0 2) (fun (r1 : Int32) => (wp_X7_room u0 (fun (r2 : Int32) => (vp_in ((3 * x1) + x2) 15) ∧ (wp_X7_least0 u0 (r2 - (pa_A u0 28 0 ((3 * x1) + x2).toNatClampNeg)) (fun (r4 : Int32) => (wp_X7_least u0 r1 r4 (fun (r5 : Int32) => ∀ v6 : Int32, v6 = ((3 * x1) + x2) → (vp_in v6 15) ∧ (vp_in v6 15) ∧ ∀ u9 : pa_S, u9 = pa_sA u0 28 0 (upd (pa_A u0 28 0) v6.toNatClampNeg ((pa_A u0 28 0 v6.toNatClampNeg) + r5)) → ∀ u10 : pa_S, u10 = pa_sI u9 24 0 2 ((pa_I u9 24 0 2) - r5) → post r5 u10))))))))
set_option maxRecDepth 100000 in
set_option maxHeartbeats 4000000 in
theorem tb_X7_draws_0 {p : Program} {l : Launch} {e : Env} {s : State} {m : MethodId} {args : Array Value} {below : List Frame} {meth : Method} {c : Code} {A : Nat → Prop} {D : va_G} {g : pa_G} {q : Nat → Nat → Nat} {u0 : pa_S} {x1 : Int32} {x2 : Int32} {x3 : Int32} {post : Int32 → pa_S → Prop} (hE : pa_Fx p s m args meth c A D g 5 cX7_draws RX7) (hr : meth.sig.returnType = (some .int)) (hw : wb_X7_draws_0 u0 x1 x2 x3 post) : pa_At p l e (pa_rm 5) s m args below meth c (MQ below (pa_Qc g D q (fun r => some (.int r)) post A) args s 0 0 A) A D g 5 0 0 q u0 0 [(0, .ref (q 24 0)), (1, .int x1), (2, .int x2), (3, .int x3)] [] := by
  refine pa_aload_n hE dX7_draws_0 rfl 0 rfl ?_
  refine pa_aload_n hE dX7_draws_1 rfl 0 rfl ?_
  refine pa_iload_n hE dX7_draws_2 rfl 3 rfl ?_
  refine pa_aload_n hE dX7_draws_3 rfl 0 rfl ?_
  refine pg_24_2 hE (pa_m4 123 rfl rfl) dX7_draws_4 ?_
  refine pa_callVri hE (ct_X7_least l g D q u0 x3 (pa_I u0 24 0 2) _ hw) cv_RX7_292 pa_in24 rfl rfl rfl (pa_hR (by omega) (by decide)) rfl (Nat.le_of_ble_eq_true rfl) dX7_draws_7 (fun r1 hw => ?_)
  refine pa_aload_n hE dX7_draws_10 rfl 0 rfl ?_
  refine pa_aload_n hE dX7_draws_11 rfl 0 rfl ?_
  refine pa_callVri hE (ct_X7_room l g D q u0 _ hw) cv_RX7_317 pa_in24 rfl rfl rfl (pa_hR (by omega) (by decide)) rfl (Nat.le_of_ble_eq_true rfl) dX7_draws_12 (fun r2 hw => ?_)
  refine pa_aload_n hE dX7_draws_15 rfl 0 rfl ?_
  refine pg_24_6 hE (pa_m4 127 rfl rfl) dX7_draws_16 ?_
  refine pa_iconst hE dX7_draws_19 (v := 3) (by decide) ?_
  refine pa_iload_n hE dX7_draws_20 rfl 1 rfl ?_
  refine pa_imul hE dX7_draws_21 ?_
  refine pa_iload_n hE dX7_draws_22 rfl 2 rfl ?_
  refine pa_iadd hE dX7_draws_23 ?_
  obtain ⟨h3, hw⟩ := hw
  refine pl_28 hE h3 dX7_draws_24 ?_
  refine pa_isub hE dX7_draws_25 ?_
  refine pa_callVri hE (ct_X7_least0 l g D q u0 (r2 - (pa_A u0 28 0 ((3 * x1) + x2).toNatClampNeg)) _ hw) cv_RX7_305 pa_in24 rfl rfl rfl (pa_hR (by omega) (by decide)) rfl (Nat.le_of_ble_eq_true rfl) dX7_draws_26 (fun r4 hw => ?_)
  refine pa_callVri hE (ct_X7_least l g D q u0 r1 r4 _ hw) cv_RX7_292 pa_in24 rfl rfl rfl (pa_hR (by omega) (by decide)) rfl (Nat.le_of_ble_eq_true rfl) dX7_draws_29 (fun r5 hw => ?_)
  refine pa_istore hE dX7_draws_32 (by decide) (lvr := [(0, .ref (q 24 0)), (1, .int x1), (2, .int x2), (3, .int x3)]) rfl ?_
  refine pa_aload_n hE dX7_draws_34 rfl 1 rfl ?_
  refine pg_24_6 hE (pa_m4 127 rfl rfl) dX7_draws_35 ?_
  refine pa_iconst hE dX7_draws_38 (v := 3) (by decide) ?_
  refine pa_iload_n hE dX7_draws_39 rfl 2 rfl ?_
  refine pa_imul hE dX7_draws_40 ?_
  refine pa_iload_n hE dX7_draws_41 rfl 3 rfl ?_
  refine pa_iadd hE dX7_draws_42 ?_
  refine pa_namei (fun v6 ev6 => ?_)
  have hw := hw v6 ev6
  refine pa_dup2 hE dX7_draws_43 rfl rfl ?_
  obtain ⟨h7, hw⟩ := hw
  refine pl_28 hE h7 dX7_draws_44 ?_
  refine pa_iload hE dX7_draws_45 0 rfl ?_
  refine pa_iadd hE dX7_draws_47 ?_
  obtain ⟨h8, hw⟩ := hw
  refine ps_28 hE h8 dX7_draws_48 (fun u9 eu9 => ?_)
  have hw := hw u9 eu9
  refine pa_aload_n hE dX7_draws_49 rfl 1 rfl ?_
  refine pa_dup hE dX7_draws_50 rfl ?_
  refine pg_24_2 hE (pa_m4 123 rfl rfl) dX7_draws_51 ?_
  refine pa_iload hE dX7_draws_54 0 rfl ?_
  refine pa_isub hE dX7_draws_56 ?_
  refine pp_24_2 hE (pa_m4 123 rfl rfl) dX7_draws_57 (fun u10 eu10 => ?_)
  have hw := hw u10 eu10
  refine pa_iload hE dX7_draws_60 0 rfl ?_
  exact pa_iret hE hr hw rfl dX7_draws_62
def wp_X7_draws (u0 : pa_S) (x1 : Int32) (x2 : Int32) (x3 : Int32) (post : Int32 → pa_S → Prop) : Prop := wb_X7_draws_0 u0 x1 x2 x3 post
theorem ct_X7_draws (l : Launch) (g : pa_G) (D : va_G) (q : Nat → Nat → Nat) (u0 : pa_S) (x1 : Int32) (x2 : Int32) (x3 : Int32) (post : Int32 → pa_S → Prop)  (hw : wp_X7_draws u0 x1 x2 x3 post) : pa_Ct l yX7_draws cX7_draws 5 (some .int) 5 g D q u0 [.ref (q 24 0), .int x1, .int x2, .int x3] (fun r => some (.int r)) post := pa_met rfl rfl (Nat.le_of_ble_eq_true rfl) rfl (fun p e s m args below meth c A hE hr => tb_X7_draws_0 hE hr  hw)
def wb_X7_draw_0 (u0 : pa_S) (x1 : Int32) (x2 : Int32) (x3 : Int32) (post : Int32 → pa_S → Prop) : Prop :=
  (wp_X7_isHand u0 x1 (fun (r1 : Int32) => (if r1 = 0 then post (-1 : Int32) u0 else (wp_X7_isLine u0 x2 (fun (r3 : Int32) => (if r3 = 0 then post (-1 : Int32) u0 else (wp_X7_isLength u0 x3 (fun (r5 : Int32) => (if r5 = 0 then post (-2 : Int32) u0 else (wp_X7_draws u0 x1 x2 x3 (fun (r7 : Int32) (u8 : pa_S) => post r7 u8)))))))))))
set_option maxRecDepth 100000 in
set_option maxHeartbeats 4000000 in
theorem tb_X7_draw_0 {p : Program} {l : Launch} {e : Env} {s : State} {m : MethodId} {args : Array Value} {below : List Frame} {meth : Method} {c : Code} {A : Nat → Prop} {D : va_G} {g : pa_G} {q : Nat → Nat → Nat} {u0 : pa_S} {x1 : Int32} {x2 : Int32} {x3 : Int32} {post : Int32 → pa_S → Prop} (hE : pa_Fx p s m args meth c A D g 4 cX7_draw RX7) (hr : meth.sig.returnType = (some .int)) (hw : wb_X7_draw_0 u0 x1 x2 x3 post) : pa_At p l e (pa_rm 6) s m args below meth c (MQ below (pa_Qc g D q (fun r => some (.int r)) post A) args s 0 0 A) A D g 4 0 0 q u0 0 [(0, .ref (q 24 0)), (1, .int x1), (2, .int x2), (3, .int x3)] [] := by
  refine pa_aload_n hE dX7_draw_0 rfl 0 rfl ?_
  refine pa_iload_n hE dX7_draw_1 rfl 1 rfl ?_
  refine pa_callVri hE (ct_X7_isHand l g D q u0 x1 _ hw) cv_RX7_229 pa_in24 rfl rfl rfl (pa_hR (by omega) (by decide)) rfl (Nat.le_of_ble_eq_true rfl) dX7_draw_2 (fun r1 hw => ?_)
  refine pa_if_eq hE dX7_draw_5 (tgt := 16) (by decide) (fun h2 => ?_) (fun h2 => ?_)
  · have hw := Eq.mp (if_pos h2) hw
    refine pa_iconst hE dX7_draw_16 (v := (-1 : Int32)) (by decide) ?_
    exact pa_iret hE hr hw rfl dX7_draw_17
  · have hw := Eq.mp (if_neg h2) hw
    refine pa_aload_n hE dX7_draw_8 rfl 0 rfl ?_
    refine pa_iload_n hE dX7_draw_9 rfl 2 rfl ?_
    refine pa_callVri hE (ct_X7_isLine l g D q u0 x2 _ hw) cv_RX7_232 pa_in24 rfl rfl rfl (pa_hR (by omega) (by decide)) rfl (Nat.le_of_ble_eq_true rfl) dX7_draw_10 (fun r3 hw => ?_)
    refine pa_if_ne hE dX7_draw_13 (tgt := 18) (by decide) (fun h4 => ?_) (fun h4 => ?_)
    · have hw := Eq.mp (if_neg h4) hw
      refine pa_aload_n hE dX7_draw_18 rfl 0 rfl ?_
      refine pa_iload_n hE dX7_draw_19 rfl 3 rfl ?_
      refine pa_callVri hE (ct_X7_isLength l g D q u0 x3 _ hw) cv_RX7_225 pa_in24 rfl rfl rfl (pa_hR (by omega) (by decide)) rfl (Nat.le_of_ble_eq_true rfl) dX7_draw_20 (fun r5 hw => ?_)
      refine pa_if_eq hE dX7_draw_23 (tgt := 36) (by decide) (fun h6 => ?_) (fun h6 => ?_)
      · have hw := Eq.mp (if_pos h6) hw
        refine pa_bipush hE dX7_draw_36 (v := (-2 : Int32)) (by decide) ?_
        exact pa_iret hE hr hw rfl dX7_draw_38
      · have hw := Eq.mp (if_neg h6) hw
        refine pa_aload_n hE dX7_draw_26 rfl 0 rfl ?_
        refine pa_iload_n hE dX7_draw_27 rfl 1 rfl ?_
        refine pa_iload_n hE dX7_draw_28 rfl 2 rfl ?_
        refine pa_iload_n hE dX7_draw_29 rfl 3 rfl ?_
        refine pa_callVi hE (ct_X7_draws l g D q u0 x1 x2 x3 _ hw) cv_RX7_329 pa_in24 rfl rfl rfl (pa_hR (by omega) (by decide)) rfl (Nat.le_of_ble_eq_true rfl) dX7_draw_30 (fun r7 u8 hw => ?_)
        refine pa_goto hE dX7_draw_33 (tgt := 38) (by decide) ?_
        exact pa_iret hE hr hw rfl dX7_draw_38
    · have hw := Eq.mp (if_pos h4) hw
      refine pa_iconst hE dX7_draw_16 (v := (-1 : Int32)) (by decide) ?_
      exact pa_iret hE hr hw rfl dX7_draw_17
def wp_X7_draw (u0 : pa_S) (x1 : Int32) (x2 : Int32) (x3 : Int32) (post : Int32 → pa_S → Prop) : Prop := wb_X7_draw_0 u0 x1 x2 x3 post
theorem ct_X7_draw (l : Launch) (g : pa_G) (D : va_G) (q : Nat → Nat → Nat) (u0 : pa_S) (x1 : Int32) (x2 : Int32) (x3 : Int32) (post : Int32 → pa_S → Prop)  (hw : wp_X7_draw u0 x1 x2 x3 post) : pa_Ct l yX7_draw cX7_draw 4 (some .int) 6 g D q u0 [.ref (q 24 0), .int x1, .int x2, .int x3] (fun r => some (.int r)) post := pa_met rfl rfl (Nat.le_of_ble_eq_true rfl) rfl (fun p e s m args below meth c A hE hr => tb_X7_draw_0 hE hr  hw)
def wb_X7_isCovered_0 (u0 : pa_S) (x1 : Int32) (post : Int32 → Prop) : Prop :=
  (vp_in x1 5) ∧ (if (pa_A u0 25 0 x1.toNatClampNeg) = 3 then post 1 else (vp_in x1 5) ∧ (if (pa_A u0 25 0 x1.toNatClampNeg) = 6 then post 1 else post 0))
set_option maxRecDepth 100000 in
set_option maxHeartbeats 4000000 in
theorem tb_X7_isCovered_0 {p : Program} {l : Launch} {e : Env} {s : State} {m : MethodId} {args : Array Value} {below : List Frame} {meth : Method} {c : Code} {A : Nat → Prop} {D : va_G} {g : pa_G} {q : Nat → Nat → Nat} {u0 : pa_S} {x1 : Int32} {post : Int32 → Prop} (hE : pa_Fx p s m args meth c A D g 2 cX7_isCovered RX7) (hr : meth.sig.returnType = (some .boolean)) (hw : wb_X7_isCovered_0 u0 x1 post) : pa_At p l e (pa_rm 2) s m args below meth c (MQ below (pa_Qc g D q (fun r => some (.int r)) (fun r u => u = u0 ∧ post r) A) args s 0 0 A) A D g 2 0 0 q u0 0 [(0, .ref (q 24 0)), (1, .int x1)] [] := by
  refine pa_aload_n hE dX7_isCovered_0 rfl 0 rfl ?_
  refine pg_24_3 hE (pa_m4 124 rfl rfl) dX7_isCovered_1 ?_
  refine pa_iload_n hE dX7_isCovered_4 rfl 1 rfl ?_
  obtain ⟨h1, hw⟩ := hw
  refine pl_25 hE h1 dX7_isCovered_5 ?_
  refine pa_iconst hE dX7_isCovered_6 (v := 3) (by decide) ?_
  refine pa_icmp_eq hE dX7_isCovered_7 (tgt := 21) (by decide) (fun h2 => ?_) (fun h2 => ?_)
  · have hw := Eq.mp (if_pos h2) hw
    refine pa_iconst hE dX7_isCovered_21 (v := 1) (by decide) ?_
    refine pa_goto hE dX7_isCovered_22 (tgt := 26) (by decide) ?_
    exact pa_zret hE hr (by decide) ⟨rfl, hw⟩ rfl dX7_isCovered_26
  · have hw := Eq.mp (if_neg h2) hw
    refine pa_aload_n hE dX7_isCovered_10 rfl 0 rfl ?_
    refine pg_24_3 hE (pa_m4 124 rfl rfl) dX7_isCovered_11 ?_
    refine pa_iload_n hE dX7_isCovered_14 rfl 1 rfl ?_
    obtain ⟨h3, hw⟩ := hw
    refine pl_25 hE h3 dX7_isCovered_15 ?_
    refine pa_bipush hE dX7_isCovered_16 (v := 6) (by decide) ?_
    refine pa_icmp_ne hE dX7_isCovered_18 (tgt := 25) (by decide) (fun h4 => ?_) (fun h4 => ?_)
    · have hw := Eq.mp (if_neg h4) hw
      refine pa_iconst hE dX7_isCovered_25 (v := 0) (by decide) ?_
      exact pa_zret hE hr (by decide) ⟨rfl, hw⟩ rfl dX7_isCovered_26
    · have hw := Eq.mp (if_pos h4) hw
      refine pa_iconst hE dX7_isCovered_21 (v := 1) (by decide) ?_
      refine pa_goto hE dX7_isCovered_22 (tgt := 26) (by decide) ?_
      exact pa_zret hE hr (by decide) ⟨rfl, hw⟩ rfl dX7_isCovered_26
def wp_X7_isCovered (u0 : pa_S) (x1 : Int32) (post : Int32 → Prop) : Prop := wb_X7_isCovered_0 u0 x1 post
theorem ct_X7_isCovered (l : Launch) (g : pa_G) (D : va_G) (q : Nat → Nat → Nat) (u0 : pa_S) (x1 : Int32) (post : Int32 → Prop)  (hw : wp_X7_isCovered u0 x1 post) : pa_Ct l yX7_isCovered cX7_isCovered 2 (some .boolean) 2 g D q u0 [.ref (q 24 0), .int x1] (fun r => some (.int r)) (fun r u => u = u0 ∧ post r) := pa_met rfl rfl (Nat.le_of_ble_eq_true rfl) rfl (fun p e s m args below meth c A hE hr => tb_X7_isCovered_0 hE hr  hw)
def wb_X7_prints_156 (k65 : pa_S → Int32 → Int32 → Int32 → Int32 → Prop) (u0 : pa_S) (x1 : Int32) (x2 : Int32) (x3 : Int32) (x4 : Int32) (x6 : Int32) (post : Int32 → pa_S → Prop) : Prop :=
  ∀ v26 : Int32, v26 = (x3 + x6) → ∀ v27 : Int32, v27 = x4 + 1 → k65 u0 x1 x2 v26 v27
set_option maxRecDepth 100000 in
set_option maxHeartbeats 4000000 in
theorem tb_X7_prints_156 {p : Program} {l : Launch} {e : Env} {s : State} {m : MethodId} {args : Array Value} {below : List Frame} {meth : Method} {c : Code} {A : Nat → Prop} {D : va_G} {g : pa_G} {q : Nat → Nat → Nat} {k65 : pa_S → Int32 → Int32 → Int32 → Int32 → Prop} {u0 : pa_S} {x1 : Int32} {x2 : Int32} {x3 : Int32} {x4 : Int32} {x6 : Int32} {post : Int32 → pa_S → Prop} (hE : pa_Fx p s m args meth c A D g 7 cX7_prints RX7) (hr : meth.sig.returnType = (some .int)) (hk65 : ∀ (u : pa_S)  (x1 : Int32) (x2 : Int32) (x3 : Int32) (x4 : Int32), k65 u x1 x2 x3 x4 → pa_At p l e (pa_rm 5) s m args below meth c (MQ below (pa_Qc g D q (fun r => some (.int r)) post A) args s 0 0 A) A D g 7 0 0 q u 65 [(0, .ref (q 24 0)), (1, .int x1), (2, .int x2), (3, .int x3), (4, .int x4)] []) (hw : wb_X7_prints_156 k65 u0 x1 x2 x3 x4 x6 post) : pa_At p l e (pa_rm 5) s m args below meth c (MQ below (pa_Qc g D q (fun r => some (.int r)) post A) args s 0 0 A) A D g 7 0 0 q u0 156 [(0, .ref (q 24 0)), (1, .int x1), (2, .int x2), (3, .int x3), (4, .int x4), (6, .int x6)] [] := by
  refine pa_iload_n hE dX7_prints_156 rfl 3 rfl ?_
  refine pa_iload hE dX7_prints_157 5 rfl ?_
  refine pa_iadd hE dX7_prints_159 ?_
  refine pa_namei (fun v26 ev26 => ?_)
  have hw := hw v26 ev26
  refine pa_istore_n hE dX7_prints_160 rfl (by decide) (lvr := [(0, .ref (q 24 0)), (1, .int x1), (2, .int x2), (4, .int x4), (6, .int x6)]) rfl ?_
  refine pa_iinc hE dX7_prints_161 (v := 1) 4 rfl (by decide) (by decide) (lvr := [(3, .int v26), (0, .ref (q 24 0)), (1, .int x1), (2, .int x2), (6, .int x6)]) rfl (fun v27 ev27 => ?_)
  have hw := hw v27 ev27
  refine pa_goto hE dX7_prints_164 (tgt := 65) (by decide) ?_
  exact pa_sub [2, 3, 4, 1, 0] rfl (hk65 u0 x1 x2 v26 v27 hw)
def wb_X7_prints_109 (k65 : pa_S → Int32 → Int32 → Int32 → Int32 → Prop) (u0 : pa_S) (x1 : Int32) (x2 : Int32) (x3 : Int32) (x4 : Int32) (x5 : Int32) (y0 : Int32) (post : Int32 → pa_S → Prop) : Prop :=
  (wp_X7_press u0 (fun (r18 : Int32) => (¬ r18 = 0) ∧ ∀ v20 : Int32, v20 = (y0 / r18) → (if x5 ≤ 0 then ∀ v22 : Int32, v22 = ((3 * x1) + x4) → (vp_in v22 15) ∧ (vp_in v22 15) ∧ ∀ u25 : pa_S, u25 = pa_sA u0 28 0 (upd (pa_A u0 28 0) v22.toNatClampNeg ((pa_A u0 28 0 v22.toNatClampNeg) + v20)) → wb_X7_prints_156 k65 u25 x1 x2 x3 x4 v20 post else ∀ v28 : Int32, v28 = ((3 * x2) + x4) → (vp_in v28 15) ∧ (vp_in v28 15) ∧ ∀ u31 : pa_S, u31 = pa_sA u0 28 0 (upd (pa_A u0 28 0) v28.toNatClampNeg ((pa_A u0 28 0 v28.toNatClampNeg) + v20)) → wb_X7_prints_156 k65 u31 x1 x2 x3 x4 v20 post)))
set_option maxRecDepth 100000 in
set_option maxHeartbeats 4000000 in
theorem tb_X7_prints_109 {p : Program} {l : Launch} {e : Env} {s : State} {m : MethodId} {args : Array Value} {below : List Frame} {meth : Method} {c : Code} {A : Nat → Prop} {D : va_G} {g : pa_G} {q : Nat → Nat → Nat} {k65 : pa_S → Int32 → Int32 → Int32 → Int32 → Prop} {u0 : pa_S} {x1 : Int32} {x2 : Int32} {x3 : Int32} {x4 : Int32} {x5 : Int32} {y0 : Int32} {post : Int32 → pa_S → Prop} (hE : pa_Fx p s m args meth c A D g 7 cX7_prints RX7) (hr : meth.sig.returnType = (some .int)) (hk65 : ∀ (u : pa_S)  (x1 : Int32) (x2 : Int32) (x3 : Int32) (x4 : Int32), k65 u x1 x2 x3 x4 → pa_At p l e (pa_rm 5) s m args below meth c (MQ below (pa_Qc g D q (fun r => some (.int r)) post A) args s 0 0 A) A D g 7 0 0 q u 65 [(0, .ref (q 24 0)), (1, .int x1), (2, .int x2), (3, .int x3), (4, .int x4)] []) (hw : wb_X7_prints_109 k65 u0 x1 x2 x3 x4 x5 y0 post) : pa_At p l e (pa_rm 5) s m args below meth c (MQ below (pa_Qc g D q (fun r => some (.int r)) post A) args s 0 0 A) A D g 7 0 0 q u0 109 [(0, .ref (q 24 0)), (1, .int x1), (2, .int x2), (3, .int x3), (4, .int x4), (5, .int x5)] [.int y0] := by
  refine pa_aload_n hE dX7_prints_109 rfl 0 rfl ?_
  refine pa_callVri hE (ct_X7_press l g D q u0 _ hw) cv_RX7_320 pa_in24 rfl rfl rfl (pa_hR (by omega) (by decide)) rfl (Nat.le_of_ble_eq_true rfl) dX7_prints_110 (fun r18 hw => ?_)
  obtain ⟨h19, hw⟩ := hw
  refine pa_idiv hE dX7_prints_113 h19 ?_
  refine pa_namei (fun v20 ev20 => ?_)
  have hw := hw v20 ev20
  refine pa_istore hE dX7_prints_114 (by decide) (lvr := [(0, .ref (q 24 0)), (1, .int x1), (2, .int x2), (3, .int x3), (4, .int x4), (5, .int x5)]) rfl ?_
  refine pa_iload hE dX7_prints_116 6 rfl ?_
  refine pa_if_le hE dX7_prints_118 (tgt := 140) (by decide) (fun h21 => ?_) (fun h21 => ?_)
  · have hw := Eq.mp (if_pos h21) hw
    refine pa_aload_n hE dX7_prints_140 rfl 1 rfl ?_
    refine pg_24_6 hE (pa_m4 127 rfl rfl) dX7_prints_141 ?_
    refine pa_iconst hE dX7_prints_144 (v := 3) (by decide) ?_
    refine pa_iload_n hE dX7_prints_145 rfl 2 rfl ?_
    refine pa_imul hE dX7_prints_146 ?_
    refine pa_iload hE dX7_prints_147 5 rfl ?_
    refine pa_iadd hE dX7_prints_149 ?_
    refine pa_namei (fun v22 ev22 => ?_)
    have hw := hw v22 ev22
    refine pa_dup2 hE dX7_prints_150 rfl rfl ?_
    obtain ⟨h23, hw⟩ := hw
    refine pl_28 hE h23 dX7_prints_151 ?_
    refine pa_iload hE dX7_prints_152 0 rfl ?_
    refine pa_iadd hE dX7_prints_154 ?_
    obtain ⟨h24, hw⟩ := hw
    refine ps_28 hE h24 dX7_prints_155 (fun u25 eu25 => ?_)
    have hw := hw u25 eu25
    exact pa_sub [1, 2, 3, 4, 5, 0] rfl (tb_X7_prints_156 hE hr hk65 hw)
  · have hw := Eq.mp (if_neg h21) hw
    refine pa_aload_n hE dX7_prints_121 rfl 1 rfl ?_
    refine pg_24_6 hE (pa_m4 127 rfl rfl) dX7_prints_122 ?_
    refine pa_iconst hE dX7_prints_125 (v := 3) (by decide) ?_
    refine pa_iload_n hE dX7_prints_126 rfl 3 rfl ?_
    refine pa_imul hE dX7_prints_127 ?_
    refine pa_iload hE dX7_prints_128 5 rfl ?_
    refine pa_iadd hE dX7_prints_130 ?_
    refine pa_namei (fun v28 ev28 => ?_)
    have hw := hw v28 ev28
    refine pa_dup2 hE dX7_prints_131 rfl rfl ?_
    obtain ⟨h29, hw⟩ := hw
    refine pl_28 hE h29 dX7_prints_132 ?_
    refine pa_iload hE dX7_prints_133 0 rfl ?_
    refine pa_iadd hE dX7_prints_135 ?_
    obtain ⟨h30, hw⟩ := hw
    refine ps_28 hE h30 dX7_prints_136 (fun u31 eu31 => ?_)
    have hw := hw u31 eu31
    refine pa_goto hE dX7_prints_137 (tgt := 156) (by decide) ?_
    exact pa_sub [1, 2, 3, 4, 5, 0] rfl (tb_X7_prints_156 hE hr hk65 hw)
def wb_X7_prints_65 (k65 : pa_S → Int32 → Int32 → Int32 → Int32 → Prop) (u0 : pa_S) (x1 : Int32) (x2 : Int32) (x3 : Int32) (x4 : Int32) (post : Int32 → pa_S → Prop) : Prop :=
  (if 3 ≤ x4 then post x3 u0 else (vp_in ((3 * x1) + x4) 15) ∧ (vp_in ((3 * x2) + x4) 15) ∧ ∀ v16 : Int32, v16 = ((pa_A u0 28 0 ((3 * x1) + x4).toNatClampNeg) - (pa_A u0 28 0 ((3 * x2) + x4).toNatClampNeg)) → (if 0 ≤ v16 then wb_X7_prints_109 k65 u0 x1 x2 x3 x4 v16 v16 post else wb_X7_prints_109 k65 u0 x1 x2 x3 x4 v16 (-v16) post))
set_option maxRecDepth 100000 in
set_option maxHeartbeats 4000000 in
theorem tb_X7_prints_65 {p : Program} {l : Launch} {e : Env} {s : State} {m : MethodId} {args : Array Value} {below : List Frame} {meth : Method} {c : Code} {A : Nat → Prop} {D : va_G} {g : pa_G} {q : Nat → Nat → Nat} {k65 : pa_S → Int32 → Int32 → Int32 → Int32 → Prop} {u0 : pa_S} {x1 : Int32} {x2 : Int32} {x3 : Int32} {x4 : Int32} {post : Int32 → pa_S → Prop} (hE : pa_Fx p s m args meth c A D g 7 cX7_prints RX7) (hr : meth.sig.returnType = (some .int)) (hk65 : ∀ (u : pa_S)  (x1 : Int32) (x2 : Int32) (x3 : Int32) (x4 : Int32), k65 u x1 x2 x3 x4 → pa_At p l e (pa_rm 5) s m args below meth c (MQ below (pa_Qc g D q (fun r => some (.int r)) post A) args s 0 0 A) A D g 7 0 0 q u 65 [(0, .ref (q 24 0)), (1, .int x1), (2, .int x2), (3, .int x3), (4, .int x4)] []) (hw : wb_X7_prints_65 k65 u0 x1 x2 x3 x4 post) : pa_At p l e (pa_rm 5) s m args below meth c (MQ below (pa_Qc g D q (fun r => some (.int r)) post A) args s 0 0 A) A D g 7 0 0 q u0 65 [(0, .ref (q 24 0)), (1, .int x1), (2, .int x2), (3, .int x3), (4, .int x4)] [] := by
  refine pa_iload hE dX7_prints_65 4 rfl ?_
  refine pa_iconst hE dX7_prints_67 (v := 3) (by decide) ?_
  refine pa_icmp_ge hE dX7_prints_68 (tgt := 167) (by decide) (fun h13 => ?_) (fun h13 => ?_)
  · have hw := Eq.mp (if_pos h13) hw
    refine pa_iload_n hE dX7_prints_167 rfl 3 rfl ?_
    exact pa_iret hE hr hw rfl dX7_prints_168
  · have hw := Eq.mp (if_neg h13) hw
    refine pa_aload_n hE dX7_prints_71 rfl 0 rfl ?_
    refine pg_24_6 hE (pa_m4 127 rfl rfl) dX7_prints_72 ?_
    refine pa_iconst hE dX7_prints_75 (v := 3) (by decide) ?_
    refine pa_iload_n hE dX7_prints_76 rfl 1 rfl ?_
    refine pa_imul hE dX7_prints_77 ?_
    refine pa_iload hE dX7_prints_78 4 rfl ?_
    refine pa_iadd hE dX7_prints_80 ?_
    obtain ⟨h14, hw⟩ := hw
    refine pl_28 hE h14 dX7_prints_81 ?_
    refine pa_aload_n hE dX7_prints_82 rfl 0 rfl ?_
    refine pg_24_6 hE (pa_m4 127 rfl rfl) dX7_prints_83 ?_
    refine pa_iconst hE dX7_prints_86 (v := 3) (by decide) ?_
    refine pa_iload_n hE dX7_prints_87 rfl 2 rfl ?_
    refine pa_imul hE dX7_prints_88 ?_
    refine pa_iload hE dX7_prints_89 4 rfl ?_
    refine pa_iadd hE dX7_prints_91 ?_
    obtain ⟨h15, hw⟩ := hw
    refine pl_28 hE h15 dX7_prints_92 ?_
    refine pa_isub hE dX7_prints_93 ?_
    refine pa_namei (fun v16 ev16 => ?_)
    have hw := hw v16 ev16
    refine pa_istore hE dX7_prints_94 (by decide) (lvr := [(0, .ref (q 24 0)), (1, .int x1), (2, .int x2), (3, .int x3), (4, .int x4)]) rfl ?_
    refine pa_iload hE dX7_prints_96 0 rfl ?_
    refine pa_if_ge hE dX7_prints_98 (tgt := 107) (by decide) (fun h17 => ?_) (fun h17 => ?_)
    · have hw := Eq.mp (if_pos h17) hw
      refine pa_iload hE dX7_prints_107 0 rfl ?_
      exact pa_sub [1, 2, 3, 4, 5, 0] rfl (tb_X7_prints_109 hE hr hk65 hw)
    · have hw := Eq.mp (if_neg h17) hw
      refine pa_iload hE dX7_prints_101 0 rfl ?_
      refine pa_ineg hE dX7_prints_103 ?_
      refine pa_goto hE dX7_prints_104 (tgt := 109) (by decide) ?_
      exact pa_sub [1, 2, 3, 4, 5, 0] rfl (tb_X7_prints_109 hE hr hk65 hw)
def wl_X7_prints_65 (post : Int32 → pa_S → Prop) : Nat → pa_S → Int32 → Int32 → Int32 → Int32 → Prop
  | 0, _, _, _, _, _ => False
  | n + 1, u0, x1, x2, x3, x4 => wb_X7_prints_65 (fun u0 x1 x2 x3 x4 => wl_X7_prints_65 post n u0 x1 x2 x3 x4) u0 x1 x2 x3 x4 post
set_option maxRecDepth 100000 in
set_option maxHeartbeats 4000000 in
theorem tl_X7_prints_65 {p : Program} {l : Launch} {e : Env} {s : State} {m : MethodId} {args : Array Value} {below : List Frame} {meth : Method} {c : Code} {A : Nat → Prop} {D : va_G} {g : pa_G} {q : Nat → Nat → Nat} {post : Int32 → pa_S → Prop} (hE : pa_Fx p s m args meth c A D g 7 cX7_prints RX7) (hr : meth.sig.returnType = (some .int)) : ∀ (n : Nat) (u0 : pa_S) (x1 : Int32) (x2 : Int32) (x3 : Int32) (x4 : Int32), wl_X7_prints_65 post n u0 x1 x2 x3 x4 → pa_At p l e (pa_rm 5) s m args below meth c (MQ below (pa_Qc g D q (fun r => some (.int r)) post A) args s 0 0 A) A D g 7 0 0 q u0 65 [(0, .ref (q 24 0)), (1, .int x1), (2, .int x2), (3, .int x3), (4, .int x4)] []
  | 0, _, _, _, _, _, hw => absurd hw (by simp only [wl_X7_prints_65]; exact fun z => z)
  | n + 1, u0, x1, x2, x3, x4, hw => tb_X7_prints_65 hE hr (fun u0 x1 x2 x3 x4  hw1 => tl_X7_prints_65 hE hr  n u0 x1 x2 x3 x4  hw1) hw
def wb_X7_prints_0 (u0 : pa_S) (x1 : Int32) (x2 : Int32) (post : Int32 → pa_S → Prop) : Prop :=
  (vp_in x1 5) ∧ (wp_X7_least u0 ((pa_A u0 27 0 x1.toNatClampNeg) + 1) 9999 (fun (r2 : Int32) => (vp_in x1 5) ∧ ∀ u4 : pa_S, u4 = pa_sA u0 27 0 (upd (pa_A u0 27 0) x1.toNatClampNeg r2) → (vp_in x2 5) ∧ (wp_X7_least u4 ((pa_A u4 27 0 x2.toNatClampNeg) + 1) 9999 (fun (r6 : Int32) => (vp_in x2 5) ∧ ∀ u8 : pa_S, u8 = pa_sA u4 27 0 (upd (pa_A u4 27 0) x2.toNatClampNeg r6) → (wp_X7_isCovered u8 x1 (fun (r9 : Int32) => (if r9 = 0 then (wp_X7_isCovered u8 x2 (fun (r11 : Int32) => (if r11 = 0 then wl_X7_prints_65 post 5000 u8 x1 x2 0 0 else post 0 u8))) else post 0 u8)))))))
set_option maxRecDepth 100000 in
set_option maxHeartbeats 4000000 in
theorem tb_X7_prints_0 {p : Program} {l : Launch} {e : Env} {s : State} {m : MethodId} {args : Array Value} {below : List Frame} {meth : Method} {c : Code} {A : Nat → Prop} {D : va_G} {g : pa_G} {q : Nat → Nat → Nat} {u0 : pa_S} {x1 : Int32} {x2 : Int32} {post : Int32 → pa_S → Prop} (hE : pa_Fx p s m args meth c A D g 7 cX7_prints RX7) (hr : meth.sig.returnType = (some .int)) (hw : wb_X7_prints_0 u0 x1 x2 post) : pa_At p l e (pa_rm 5) s m args below meth c (MQ below (pa_Qc g D q (fun r => some (.int r)) post A) args s 0 0 A) A D g 7 0 0 q u0 0 [(0, .ref (q 24 0)), (1, .int x1), (2, .int x2)] [] := by
  refine pa_aload_n hE dX7_prints_0 rfl 0 rfl ?_
  refine pg_24_5 hE (pa_m4 126 rfl rfl) dX7_prints_1 ?_
  refine pa_iload_n hE dX7_prints_4 rfl 1 rfl ?_
  refine pa_aload_n hE dX7_prints_5 rfl 0 rfl ?_
  refine pa_aload_n hE dX7_prints_6 rfl 0 rfl ?_
  refine pg_24_5 hE (pa_m4 126 rfl rfl) dX7_prints_7 ?_
  refine pa_iload_n hE dX7_prints_10 rfl 1 rfl ?_
  obtain ⟨h1, hw⟩ := hw
  refine pl_27 hE h1 dX7_prints_11 ?_
  refine pa_iconst hE dX7_prints_12 (v := 1) (by decide) ?_
  refine pa_iadd hE dX7_prints_13 ?_
  refine pa_sipush hE dX7_prints_14 (v := 9999) (by decide) ?_
  refine pa_callVri hE (ct_X7_least l g D q u0 ((pa_A u0 27 0 x1.toNatClampNeg) + 1) 9999 _ hw) cv_RX7_292 pa_in24 rfl rfl rfl (pa_hR (by omega) (by decide)) rfl (Nat.le_of_ble_eq_true rfl) dX7_prints_17 (fun r2 hw => ?_)
  obtain ⟨h3, hw⟩ := hw
  refine ps_27 hE h3 dX7_prints_20 (fun u4 eu4 => ?_)
  have hw := hw u4 eu4
  refine pa_aload_n hE dX7_prints_21 rfl 0 rfl ?_
  refine pg_24_5 hE (pa_m4 126 rfl rfl) dX7_prints_22 ?_
  refine pa_iload_n hE dX7_prints_25 rfl 2 rfl ?_
  refine pa_aload_n hE dX7_prints_26 rfl 0 rfl ?_
  refine pa_aload_n hE dX7_prints_27 rfl 0 rfl ?_
  refine pg_24_5 hE (pa_m4 126 rfl rfl) dX7_prints_28 ?_
  refine pa_iload_n hE dX7_prints_31 rfl 2 rfl ?_
  obtain ⟨h5, hw⟩ := hw
  refine pl_27 hE h5 dX7_prints_32 ?_
  refine pa_iconst hE dX7_prints_33 (v := 1) (by decide) ?_
  refine pa_iadd hE dX7_prints_34 ?_
  refine pa_sipush hE dX7_prints_35 (v := 9999) (by decide) ?_
  refine pa_callVri hE (ct_X7_least l g D q u4 ((pa_A u4 27 0 x2.toNatClampNeg) + 1) 9999 _ hw) cv_RX7_292 pa_in24 rfl rfl rfl (pa_hR (by omega) (by decide)) rfl (Nat.le_of_ble_eq_true rfl) dX7_prints_38 (fun r6 hw => ?_)
  obtain ⟨h7, hw⟩ := hw
  refine ps_27 hE h7 dX7_prints_41 (fun u8 eu8 => ?_)
  have hw := hw u8 eu8
  refine pa_aload_n hE dX7_prints_42 rfl 0 rfl ?_
  refine pa_iload_n hE dX7_prints_43 rfl 1 rfl ?_
  refine pa_callVri hE (ct_X7_isCovered l g D q u8 x1 _ hw) cv_RX7_332 pa_in24 rfl rfl rfl (pa_hR (by omega) (by decide)) rfl (Nat.le_of_ble_eq_true rfl) dX7_prints_44 (fun r9 hw => ?_)
  refine pa_if_ne hE dX7_prints_47 (tgt := 58) (by decide) (fun h10 => ?_) (fun h10 => ?_)
  · have hw := Eq.mp (if_neg h10) hw
    refine pa_iconst hE dX7_prints_58 (v := 0) (by decide) ?_
    exact pa_iret hE hr hw rfl dX7_prints_59
  · have hw := Eq.mp (if_pos h10) hw
    refine pa_aload_n hE dX7_prints_50 rfl 0 rfl ?_
    refine pa_iload_n hE dX7_prints_51 rfl 2 rfl ?_
    refine pa_callVri hE (ct_X7_isCovered l g D q u8 x2 _ hw) cv_RX7_332 pa_in24 rfl rfl rfl (pa_hR (by omega) (by decide)) rfl (Nat.le_of_ble_eq_true rfl) dX7_prints_52 (fun r11 hw => ?_)
    refine pa_if_eq hE dX7_prints_55 (tgt := 60) (by decide) (fun h12 => ?_) (fun h12 => ?_)
    · have hw := Eq.mp (if_pos h12) hw
      refine pa_iconst hE dX7_prints_60 (v := 0) (by decide) ?_
      refine pa_istore_n hE dX7_prints_61 rfl (by decide) (lvr := [(0, .ref (q 24 0)), (1, .int x1), (2, .int x2)]) rfl ?_
      refine pa_iconst hE dX7_prints_62 (v := 0) (by decide) ?_
      refine pa_istore hE dX7_prints_63 (by decide) (lvr := [(3, .int 0), (0, .ref (q 24 0)), (1, .int x1), (2, .int x2)]) rfl ?_
      exact pa_sub [2, 3, 4, 1, 0] rfl (tl_X7_prints_65 hE hr 5000 u8 x1 x2 0 0 hw)
    · have hw := Eq.mp (if_neg h12) hw
      refine pa_iconst hE dX7_prints_58 (v := 0) (by decide) ?_
      exact pa_iret hE hr hw rfl dX7_prints_59
def wp_X7_prints (u0 : pa_S) (x1 : Int32) (x2 : Int32) (post : Int32 → pa_S → Prop) : Prop := wb_X7_prints_0 u0 x1 x2 post
theorem ct_X7_prints (l : Launch) (g : pa_G) (D : va_G) (q : Nat → Nat → Nat) (u0 : pa_S) (x1 : Int32) (x2 : Int32) (post : Int32 → pa_S → Prop)  (hw : wp_X7_prints u0 x1 x2 post) : pa_Ct l yX7_prints cX7_prints 7 (some .int) 5 g D q u0 [.ref (q 24 0), .int x1, .int x2] (fun r => some (.int r)) post := pa_met rfl rfl (Nat.le_of_ble_eq_true rfl) rfl (fun p e s m args below meth c A hE hr => tb_X7_prints_0 hE hr  hw)
def wb_X7_shake_0 (u0 : pa_S) (x1 : Int32) (x2 : Int32) (post : Int32 → pa_S → Prop) : Prop :=
  (wp_X7_isHand u0 x1 (fun (r1 : Int32) => (if r1 = 0 then post (-1 : Int32) u0 else (wp_X7_isHand u0 x2 (fun (r3 : Int32) => (if r3 = 0 then post (-1 : Int32) u0 else (if x1 = x2 then post (-2 : Int32) u0 else (wp_X7_prints u0 x1 x2 (fun (r6 : Int32) (u7 : pa_S) => post r6 u7)))))))))
set_option maxRecDepth 100000 in
set_option maxHeartbeats 4000000 in
theorem tb_X7_shake_0 {p : Program} {l : Launch} {e : Env} {s : State} {m : MethodId} {args : Array Value} {below : List Frame} {meth : Method} {c : Code} {A : Nat → Prop} {D : va_G} {g : pa_G} {q : Nat → Nat → Nat} {u0 : pa_S} {x1 : Int32} {x2 : Int32} {post : Int32 → pa_S → Prop} (hE : pa_Fx p s m args meth c A D g 3 cX7_shake RX7) (hr : meth.sig.returnType = (some .int)) (hw : wb_X7_shake_0 u0 x1 x2 post) : pa_At p l e (pa_rm 6) s m args below meth c (MQ below (pa_Qc g D q (fun r => some (.int r)) post A) args s 0 0 A) A D g 3 0 0 q u0 0 [(0, .ref (q 24 0)), (1, .int x1), (2, .int x2)] [] := by
  refine pa_aload_n hE dX7_shake_0 rfl 0 rfl ?_
  refine pa_iload_n hE dX7_shake_1 rfl 1 rfl ?_
  refine pa_callVri hE (ct_X7_isHand l g D q u0 x1 _ hw) cv_RX7_229 pa_in24 rfl rfl rfl (pa_hR (by omega) (by decide)) rfl (Nat.le_of_ble_eq_true rfl) dX7_shake_2 (fun r1 hw => ?_)
  refine pa_if_eq hE dX7_shake_5 (tgt := 16) (by decide) (fun h2 => ?_) (fun h2 => ?_)
  · have hw := Eq.mp (if_pos h2) hw
    refine pa_iconst hE dX7_shake_16 (v := (-1 : Int32)) (by decide) ?_
    exact pa_iret hE hr hw rfl dX7_shake_17
  · have hw := Eq.mp (if_neg h2) hw
    refine pa_aload_n hE dX7_shake_8 rfl 0 rfl ?_
    refine pa_iload_n hE dX7_shake_9 rfl 2 rfl ?_
    refine pa_callVri hE (ct_X7_isHand l g D q u0 x2 _ hw) cv_RX7_229 pa_in24 rfl rfl rfl (pa_hR (by omega) (by decide)) rfl (Nat.le_of_ble_eq_true rfl) dX7_shake_10 (fun r3 hw => ?_)
    refine pa_if_ne hE dX7_shake_13 (tgt := 18) (by decide) (fun h4 => ?_) (fun h4 => ?_)
    · have hw := Eq.mp (if_neg h4) hw
      refine pa_iload_n hE dX7_shake_18 rfl 1 rfl ?_
      refine pa_iload_n hE dX7_shake_19 rfl 2 rfl ?_
      refine pa_icmp_ne hE dX7_shake_20 (tgt := 28) (by decide) (fun h5 => ?_) (fun h5 => ?_)
      · have hw := Eq.mp (if_neg h5) hw
        refine pa_aload_n hE dX7_shake_28 rfl 0 rfl ?_
        refine pa_iload_n hE dX7_shake_29 rfl 1 rfl ?_
        refine pa_iload_n hE dX7_shake_30 rfl 2 rfl ?_
        refine pa_callVi hE (ct_X7_prints l g D q u0 x1 x2 _ hw) cv_RX7_335 pa_in24 rfl rfl rfl (pa_hR (by omega) (by decide)) rfl (Nat.le_of_ble_eq_true rfl) dX7_shake_31 (fun r6 u7 hw => ?_)
        exact pa_iret hE hr hw rfl dX7_shake_34
      · have hw := Eq.mp (if_pos h5) hw
        refine pa_bipush hE dX7_shake_23 (v := (-2 : Int32)) (by decide) ?_
        refine pa_goto hE dX7_shake_25 (tgt := 34) (by decide) ?_
        exact pa_iret hE hr hw rfl dX7_shake_34
    · have hw := Eq.mp (if_pos h4) hw
      refine pa_iconst hE dX7_shake_16 (v := (-1 : Int32)) (by decide) ?_
      exact pa_iret hE hr hw rfl dX7_shake_17
def wp_X7_shake (u0 : pa_S) (x1 : Int32) (x2 : Int32) (post : Int32 → pa_S → Prop) : Prop := wb_X7_shake_0 u0 x1 x2 post
theorem ct_X7_shake (l : Launch) (g : pa_G) (D : va_G) (q : Nat → Nat → Nat) (u0 : pa_S) (x1 : Int32) (x2 : Int32) (post : Int32 → pa_S → Prop)  (hw : wp_X7_shake u0 x1 x2 post) : pa_Ct l yX7_shake cX7_shake 3 (some .int) 6 g D q u0 [.ref (q 24 0), .int x1, .int x2] (fun r => some (.int r)) post := pa_met rfl rfl (Nat.le_of_ble_eq_true rfl) rfl (fun p e s m args below meth c A hE hr => tb_X7_shake_0 hE hr  hw)
